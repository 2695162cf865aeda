set_option maxHeartbeats 2000000 in
theorem c_X10_put (l : Launch) (D : va_G) (ct : Nat → ClassId) (tl : Nat) (v0 : Int32) (tls : Nat) (o0 : Nat) (p0 : Nat) (x_tl_3 : Int32) (x_tl_4 : Int32) (o0r : Nat) (x_o0_1 : Int32) (g_o0r : Nat → Int32) (h_x_tl_3 : rg x_tl_3 0 1) (h_x_tl_4 : rg x_tl_4 0 1000000) (h_x_o0_1 : rg x_o0_1 0 60000) : KV (S := Int32 × (Nat → Int32)) l yX10_put cX10_put 2 none 1 20 D ct [.ref tl, .int v0] [(tl, .inr (10, [.ref tls, .ref o0, .ref p0, .int x_tl_3, .int x_tl_4])), (o0, .inr (5, [.ref o0r, .int x_o0_1])), (o0r, .inl (ct 1, 60000, .inl g_o0r))] 0 0 (fun (u : Int32 × (Nat → Int32)) => match u with | (y_tl_4, k_o0r) => rg y_tl_4 1 1000001 ∧ (y_tl_4.toInt = x_tl_4.toInt + 1)) (fun (u : Int32 × (Nat → Int32)) => match u with | (y_tl_4, k_o0r) => [(tl, .inr (10, [.ref tls, .ref o0, .ref p0, .int x_tl_3, .int y_tl_4])), (o0, .inr (5, [.ref o0r, .int x_o0_1])), (o0r, .inl (ct 1, 60000, .inl k_o0r))]) := by
  refine KVq_of (by decide) (Nat.le_of_ble_eq_true rfl) (fun p e s m below meth c A Q C0 hA H locs hS hP hD hQ ls hl => ?_)
  obtain ⟨hx, hb, hr, hown, hin, hml, hlocks, hn, hK, hZ, hSK⟩ := C0
  have hl : lv_has ls 2 [(0, .ref tl), (1, .int v0)] := hl
  refine lv_aload_n hx hb dX10_put_0 rfl (lv_at hl 0 rfl) ?_
  refine va_get (D := D) (ci := 10) (v := .int x_tl_3) (C := RX10) (T := TX10) (N := 5) hx hb (htX10 hn) (fun _ h => h) hown hK hP 0 rfl rfl 3 (by decide) (hn.get mw_291 rfl) (fun _ h9 => h9) rfl dX10_put_1 ?_
  have b29 : ∀ (j29_co0r : Nat → Int32) (H : Heap) (locs : List Loc) (ls : Array Slot), lv_has ls 2 [(0, .ref tl)] → va_P D vwCl [(tl, .inr (10, [.ref tls, .ref o0, .ref p0, .int x_tl_3, .int x_tl_4])), (o0, .inr (5, [.ref o0r, .int x_o0_1])), (o0r, .inl (ct 1, 60000, .inl j29_co0r))] H → va_D A [(tl, .inr (10, [.ref tls, .ref o0, .ref p0, .int x_tl_3, .int x_tl_4])), (o0, .inr (5, [.ref o0r, .int x_o0_1])), (o0r, .inl (ct 1, 60000, .inl j29_co0r))] → va_S A s.heap H locs → W p l e ({ frames := 1, cells := 0, slots := 0, locals := 20 }) s m [.ref tl, .int v0].toArray below meth c H locs 0 0 Q (F0 m 29 ls []) := by
    intro j29_co0r H locs ls  hl hP hD hS
    refine lv_aload_n hx hb dX10_put_29 rfl (lv_at hl 0 rfl) ?_
    refine lv_dup hx hb dX10_put_30 rfl ?_
    refine va_get (D := D) (ci := 10) (v := .int x_tl_4) (C := RX10) (T := TX10) (N := 5) hx hb (htX10 hn) (fun _ h => h) hown hK hP 0 rfl rfl 4 (by decide) (hn.get mw_292 rfl) (fun _ h9 => h9) rfl dX10_put_31 ?_
    refine lv_iconst (v := 1) hx hb dX10_put_34 (by decide) ?_
    refine lv_iadd hx hb dX10_put_35 ?_
    refine lv_topi (fun z35_1 ez35_1 => ?_)
    have r35_2 : rg z35_1 1 1000001 := rg_add ez35_1 h_x_tl_4 (show rg (1 : Int32) 1 1 from rg_l (by decide)) (by decide)
    refine va_put (D := D) (ci := 10) (v := .int z35_1) (ty := .int) (C := RX10) (T := TX10) (N := 5) hx hb (htX10 hn) (fun _ h => h) tyX10 tyX10_ok nmX10 hown hK hP hD hS 0 rfl rfl 4 (by decide) (hn.get mw_292 rfl) (fun _ h9 => h9) rfl (by decide +kernel) rfl rfl (Nat.le_of_ble_eq_true rfl) dX10_put_36 (fun H locs hP hD hS => ?_)
    have hP : va_P D vwCl [(tl, .inr (10, [.ref tls, .ref o0, .ref p0, .int x_tl_3, .int z35_1])), (o0, .inr (5, [.ref o0r, .int x_o0_1])), (o0r, .inl (ct 1, 60000, .inl j29_co0r))] _ := hP
    have hD : va_D A [(tl, .inr (10, [.ref tls, .ref o0, .ref p0, .int x_tl_3, .int z35_1])), (o0, .inr (5, [.ref o0r, .int x_o0_1])), (o0r, .inl (ct 1, 60000, .inl j29_co0r))] := hD
    exact endq_v hQ hx hb hr hlocks dX10_put_39 (z35_1, j29_co0r) ⟨r35_2, (show z35_1.toInt = x_tl_4.toInt + 1 by have q0 := h_x_tl_4.1; have q1 := h_x_tl_4.2; have q2 := r35_2.1; have q3 := r35_2.2; have q4 := (eq_add ez35_1 h_x_tl_4 (show rg (1 : Int32) 1 1 from rg_l (by decide)) (by decide)); have q5 := (show rg (1 : Int32) 1 1 from rg_l (by decide)).1; have q6 := (show rg (1 : Int32) 1 1 from rg_l (by decide)).2; omega)⟩ hP hD hS [0, 1, 2] rfl (by decide) rfl (Nat.le_of_ble_eq_true rfl) (Nat.le_of_ble_eq_true rfl)
  refine lv_if_eq (tgt := 29) hx hb dX10_put_4 (by decide) (fun c4_1 => ?_) (fun c4_1 => ?_)
  · have t4_2 := (i_eq c4_1)
    have r4_3 : rg x_tl_3 0 0 := rg_eqA t4_2 h_x_tl_3 (show rg (0 : Int32) 0 0 from rg_l (by decide)) (by decide)
    exact b29 g_o0r H locs ls  (lv_sub hl [0] rfl) hP hD hS
  · have t4_2 := (i_ne c4_1)
    have r4_3 : rg x_tl_3 1 1 := rg_neAl t4_2 h_x_tl_3 (show rg (0 : Int32) 0 0 from rg_l (by decide)) (by decide)
    refine lv_aload_n hx hb dX10_put_7 rfl (lv_at hl 0 rfl) ?_
    refine va_get (D := D) (ci := 10) (v := .int x_tl_4) (C := RX10) (T := TX10) (N := 5) hx hb (htX10 hn) (fun _ h => h) hown hK hP 0 rfl rfl 4 (by decide) (hn.get mw_292 rfl) (fun _ h9 => h9) rfl dX10_put_8 ?_
    refine lv_ldc (v := 60000) hx hb hown (hn.get mw_1320 rfl) dX10_put_11 ?_
    refine lv_icmp_ge (tgt := 29) hx hb dX10_put_13 (by decide) (fun c13_1 => ?_) (fun c13_1 => ?_)
    · have t13_2 := (i_le c13_1)
      have r13_3 : rg x_tl_4 60000 1000000 := rg_leB t13_2 (show rg (60000 : Int32) 60000 60000 from rg_l (by decide)) h_x_tl_4 (by decide)
      exact b29 g_o0r H locs ls  (lv_sub hl [0] rfl) hP hD hS
    · have t13_2 := (i_nle c13_1)
      have r13_3 : rg x_tl_4 0 59999 := rg_ltA t13_2 h_x_tl_4 (show rg (60000 : Int32) 60000 60000 from rg_l (by decide)) (by decide)
      refine lv_aload_n hx hb dX10_put_16 rfl (lv_at hl 0 rfl) ?_
      refine va_get (D := D) (ci := 10) (v := .ref o0) (C := RX10) (T := TX10) (N := 5) hx hb (htX10 hn) (fun _ h => h) hown hK hP 0 rfl rfl 1 (by decide) (hn.get mw_289 rfl) (fun _ h9 => h9) rfl dX10_put_17 ?_
      refine va_getN (D := D) (ci := 5) (v := .ref o0r) (C := RX5) (T := TX5) (N := 2) hx hb (htX5 hn) (fun _ h => h) hown hK hP 1 rfl rfl 0 (by decide) (hn.get mw_132 rfl) (fun _ h9 => h9) rfl dX10_put_20 ?_
      refine lv_aload_n hx hb dX10_put_23 rfl (lv_at hl 0 rfl) ?_
      refine va_get (D := D) (ci := 10) (v := .int x_tl_4) (C := RX10) (T := TX10) (N := 5) hx hb (htX10 hn) (fun _ h => h) hown hK hP 0 rfl rfl 4 (by decide) (hn.get mw_292 rfl) (fun _ h9 => h9) rfl dX10_put_24 ?_
      refine lv_iload_n hx hb dX10_put_27 rfl (lv_at hl 1 rfl) ?_
      have hi28_1 : vp_in x_tl_4 60000 := (in_rg r13_3 (by decide))
      refine va_iast hx hb hK hP hD hS 2 1 rfl rfl hi28_1 dX10_put_28 (fun H locs hP hD hS => ?_)
      have hP : va_P D vwCl [(tl, .inr (10, [.ref tls, .ref o0, .ref p0, .int x_tl_3, .int x_tl_4])), (o0, .inr (5, [.ref o0r, .int x_o0_1])), (o0r, .inl (ct 1, 60000, .inl (upd g_o0r x_tl_4.toNatClampNeg v0)))] _ := hP
      have hD : va_D A [(tl, .inr (10, [.ref tls, .ref o0, .ref p0, .int x_tl_3, .int x_tl_4])), (o0, .inr (5, [.ref o0r, .int x_o0_1])), (o0r, .inl (ct 1, 60000, .inl (upd g_o0r x_tl_4.toNatClampNeg v0)))] := hD
      obtain ⟨f28_2, ef28_2⟩ : ∃ z, z = (upd g_o0r x_tl_4.toNatClampNeg v0) := ⟨_, rfl⟩
      rw [← ef28_2] at hP hD
      exact b29 f28_2 H locs ls  (lv_sub hl [0] rfl) hP hD hS
set_option maxHeartbeats 2000000 in
theorem c_X10_putOp (l : Launch) (D : va_G) (ct : Nat → ClassId) (tl : Nat) (v0 : Int32) (v1 : Int32) (v2 : Int32) (v3 : Int32) (v4 : Int32) (v5 : Int32) (tls : Nat) (o0 : Nat) (p0 : Nat) (x_tl_3 : Int32) (x_tl_4 : Int32) (o0r : Nat) (x_o0_1 : Int32) (g_o0r : Nat → Int32) (h_x_tl_3 : rg x_tl_3 0 1) (h_x_tl_4 : rg x_tl_4 0 999990) (h_x_o0_1 : rg x_o0_1 0 60000) : KV (S := Int32 × (Nat → Int32)) l yX10_putOp cX10_putOp 7 none 2 41 D ct [.ref tl, .int v0, .int v1, .int v2, .int v3, .int v4, .int v5] [(tl, .inr (10, [.ref tls, .ref o0, .ref p0, .int x_tl_3, .int x_tl_4])), (o0, .inr (5, [.ref o0r, .int x_o0_1])), (o0r, .inl (ct 1, 60000, .inl g_o0r))] 0 0 (fun (u : Int32 × (Nat → Int32)) => match u with | (y_tl_4, k_o0r) => rg y_tl_4 1 1000001 ∧ (y_tl_4.toInt = x_tl_4.toInt + 1)) (fun (u : Int32 × (Nat → Int32)) => match u with | (y_tl_4, k_o0r) => [(tl, .inr (10, [.ref tls, .ref o0, .ref p0, .int x_tl_3, .int y_tl_4])), (o0, .inr (5, [.ref o0r, .int x_o0_1])), (o0r, .inl (ct 1, 60000, .inl k_o0r))]) := by
  refine KVq_of (by decide) (Nat.le_of_ble_eq_true rfl) (fun p e s m below meth c A Q C0 hA H locs hS hP hD hQ ls hl => ?_)
  obtain ⟨hx, hb, hr, hown, hin, hml, hlocks, hn, hK, hZ, hSK⟩ := C0
  have hl : lv_has ls 7 [(0, .ref tl), (1, .int v0), (2, .int v1), (3, .int v2), (4, .int v3), (5, .int v4), (6, .int v5)] := hl
  refine lv_aload_n hx hb dX10_putOp_0 rfl (lv_at hl 0 rfl) ?_
  refine lv_iload_n hx hb dX10_putOp_1 rfl (lv_at hl 2 rfl) ?_
  refine lv_bipush (v := 25) hx hb dX10_putOp_2 (by decide) ?_
  refine lv_ishl hx hb dX10_putOp_4 ?_
  refine lv_topi (fun z4_1 ez4_1 => ?_)
  refine lv_iload hx hb dX10_putOp_5 (lv_at hl 6 rfl) ?_
  refine lv_bipush (v := 20) hx hb dX10_putOp_7 (by decide) ?_
  refine lv_ishl hx hb dX10_putOp_9 ?_
  refine lv_topi (fun z9_1 ez9_1 => ?_)
  refine lv_ior hx hb dX10_putOp_10 ?_
  refine lv_topi (fun z10_1 ez10_1 => ?_)
  refine lv_iload hx hb dX10_putOp_11 (lv_at hl 5 rfl) ?_
  refine lv_bipush (v := 15) hx hb dX10_putOp_13 (by decide) ?_
  refine lv_ishl hx hb dX10_putOp_15 ?_
  refine lv_topi (fun z15_1 ez15_1 => ?_)
  refine lv_ior hx hb dX10_putOp_16 ?_
  refine lv_topi (fun z16_1 ez16_1 => ?_)
  refine lv_iload_n hx hb dX10_putOp_17 rfl (lv_at hl 3 rfl) ?_
  refine lv_bipush (v := 12) hx hb dX10_putOp_18 (by decide) ?_
  refine lv_ishl hx hb dX10_putOp_20 ?_
  refine lv_topi (fun z20_1 ez20_1 => ?_)
  refine lv_ior hx hb dX10_putOp_21 ?_
  refine lv_topi (fun z21_1 ez21_1 => ?_)
  refine lv_iload hx hb dX10_putOp_22 (lv_at hl 4 rfl) ?_
  refine lv_bipush (v := 7) hx hb dX10_putOp_24 (by decide) ?_
  refine lv_ishl hx hb dX10_putOp_26 ?_
  refine lv_topi (fun z26_1 ez26_1 => ?_)
  refine lv_ior hx hb dX10_putOp_27 ?_
  refine lv_topi (fun z27_1 ez27_1 => ?_)
  refine lv_iload_n hx hb dX10_putOp_28 rfl (lv_at hl 1 rfl) ?_
  refine lv_ior hx hb dX10_putOp_29 ?_
  refine lv_topi (fun z29_1 ez29_1 => ?_)
  refine go_v (k1 := 0) (n1 := 0) (wr := []) [0, 1, 2] [] (rn_V (As := [.int z29_1]) (rest := []) (c_X10_put l D ct tl z29_1 tls o0 p0 x_tl_3 x_tl_4 o0r x_o0_1 g_o0r h_x_tl_3 (rg_w h_x_tl_4 (by decide)) h_x_o0_1 _) (cb_of (n := 1) hn mw_1319 mw_10 mw_1316 mhX10_put ⟨(Nat.le_of_ble_eq_true rfl), (Nat.le_of_ble_eq_true rfl)⟩) hx hb hml hown hn hK hSK hZ hS mw_1318 mw_s149 (ci := 10) (q0 := 0) rfl rfl rfl rfl hl.1 (Nat.le_of_ble_eq_true rfl) dX10_putOp_30 ⟨(Nat.le_of_ble_eq_true rfl), (Nat.le_of_ble_eq_true rfl)⟩) hP hD hS hA rfl rfl (by decide) (by decide) (by decide) (Nat.le_of_ble_eq_true rfl) (Nat.le_of_ble_eq_true rfl) (fun u30_2 H locs hp30_3 hP hD hS => ?_)
  obtain ⟨y_tl_430_4, k_o0r30_5⟩ := u30_2
  obtain ⟨hp30_6, hp30_7⟩ := hp30_3
  have hp30_6 : rg y_tl_430_4 1 1000001 := hp30_6
  have hp30_7 : y_tl_430_4.toInt = x_tl_4.toInt + 1 := hp30_7
  have hP : va_P D vwCl [(tl, .inr (10, [.ref tls, .ref o0, .ref p0, .int x_tl_3, .int y_tl_430_4])), (o0, .inr (5, [.ref o0r, .int x_o0_1])), (o0r, .inl (ct 1, 60000, .inl k_o0r30_5))] _ := hP
  have hD : va_D A [(tl, .inr (10, [.ref tls, .ref o0, .ref p0, .int x_tl_3, .int y_tl_430_4])), (o0, .inr (5, [.ref o0r, .int x_o0_1])), (o0r, .inl (ct 1, 60000, .inl k_o0r30_5))] := hD
  exact endq_v hQ hx hb hr hlocks dX10_putOp_33 (y_tl_430_4, k_o0r30_5) ⟨hp30_6, (show y_tl_430_4.toInt = x_tl_4.toInt + 1 by have q0 := h_x_tl_4.1; have q1 := h_x_tl_4.2; have q2 := hp30_6.1; have q3 := hp30_6.2; have q4 := hp30_7; omega)⟩ hP hD hS [0, 1, 2] rfl (by decide) rfl (Nat.le_of_ble_eq_true rfl) (Nat.le_of_ble_eq_true rfl)
set_option maxHeartbeats 2000000 in
theorem c_X10_putImm (l : Launch) (D : va_G) (ct : Nat → ClassId) (tl : Nat) (v0 : Int32) (v1 : Int32) (v2 : Int32) (v3 : Int32) (v4 : Int32) (tls : Nat) (o0 : Nat) (p0 : Nat) (x_tl_3 : Int32) (x_tl_4 : Int32) (o0r : Nat) (x_o0_1 : Int32) (g_o0r : Nat → Int32) (h_x_tl_3 : rg x_tl_3 0 1) (h_x_tl_4 : rg x_tl_4 0 999990) (h_x_o0_1 : rg x_o0_1 0 60000) : KV (S := Int32 × (Nat → Int32)) l yX10_putImm cX10_putImm 6 none 2 41 D ct [.ref tl, .int v0, .int v1, .int v2, .int v3, .int v4] [(tl, .inr (10, [.ref tls, .ref o0, .ref p0, .int x_tl_3, .int x_tl_4])), (o0, .inr (5, [.ref o0r, .int x_o0_1])), (o0r, .inl (ct 1, 60000, .inl g_o0r))] 0 0 (fun (u : Int32 × (Nat → Int32)) => match u with | (y_tl_4, k_o0r) => rg y_tl_4 1 1000001 ∧ (y_tl_4.toInt = x_tl_4.toInt + 1)) (fun (u : Int32 × (Nat → Int32)) => match u with | (y_tl_4, k_o0r) => [(tl, .inr (10, [.ref tls, .ref o0, .ref p0, .int x_tl_3, .int y_tl_4])), (o0, .inr (5, [.ref o0r, .int x_o0_1])), (o0r, .inl (ct 1, 60000, .inl k_o0r))]) := by
  refine KVq_of (by decide) (Nat.le_of_ble_eq_true rfl) (fun p e s m below meth c A Q C0 hA H locs hS hP hD hQ ls hl => ?_)
  obtain ⟨hx, hb, hr, hown, hin, hml, hlocks, hn, hK, hZ, hSK⟩ := C0
  have hl : lv_has ls 6 [(0, .ref tl), (1, .int v0), (2, .int v1), (3, .int v2), (4, .int v3), (5, .int v4)] := hl
  refine lv_aload_n hx hb dX10_putImm_0 rfl (lv_at hl 0 rfl) ?_
  refine lv_iload hx hb dX10_putImm_1 (lv_at hl 5 rfl) ?_
  refine lv_bipush (v := 20) hx hb dX10_putImm_3 (by decide) ?_
  refine lv_ishl hx hb dX10_putImm_5 ?_
  refine lv_topi (fun z5_1 ez5_1 => ?_)
  refine lv_iload hx hb dX10_putImm_6 (lv_at hl 4 rfl) ?_
  refine lv_bipush (v := 15) hx hb dX10_putImm_8 (by decide) ?_
  refine lv_ishl hx hb dX10_putImm_10 ?_
  refine lv_topi (fun z10_1 ez10_1 => ?_)
  refine lv_ior hx hb dX10_putImm_11 ?_
  refine lv_topi (fun z11_1 ez11_1 => ?_)
  refine lv_iload_n hx hb dX10_putImm_12 rfl (lv_at hl 2 rfl) ?_
  refine lv_bipush (v := 12) hx hb dX10_putImm_13 (by decide) ?_
  refine lv_ishl hx hb dX10_putImm_15 ?_
  refine lv_topi (fun z15_1 ez15_1 => ?_)
  refine lv_ior hx hb dX10_putImm_16 ?_
  refine lv_topi (fun z16_1 ez16_1 => ?_)
  refine lv_iload_n hx hb dX10_putImm_17 rfl (lv_at hl 3 rfl) ?_
  refine lv_bipush (v := 7) hx hb dX10_putImm_18 (by decide) ?_
  refine lv_ishl hx hb dX10_putImm_20 ?_
  refine lv_topi (fun z20_1 ez20_1 => ?_)
  refine lv_ior hx hb dX10_putImm_21 ?_
  refine lv_topi (fun z21_1 ez21_1 => ?_)
  refine lv_iload_n hx hb dX10_putImm_22 rfl (lv_at hl 1 rfl) ?_
  refine lv_ior hx hb dX10_putImm_23 ?_
  refine lv_topi (fun z23_1 ez23_1 => ?_)
  refine go_v (k1 := 0) (n1 := 0) (wr := []) [0, 1, 2] [] (rn_V (As := [.int z23_1]) (rest := []) (c_X10_put l D ct tl z23_1 tls o0 p0 x_tl_3 x_tl_4 o0r x_o0_1 g_o0r h_x_tl_3 (rg_w h_x_tl_4 (by decide)) h_x_o0_1 _) (cb_of (n := 1) hn mw_1319 mw_10 mw_1316 mhX10_put ⟨(Nat.le_of_ble_eq_true rfl), (Nat.le_of_ble_eq_true rfl)⟩) hx hb hml hown hn hK hSK hZ hS mw_1318 mw_s149 (ci := 10) (q0 := 0) rfl rfl rfl rfl hl.1 (Nat.le_of_ble_eq_true rfl) dX10_putImm_24 ⟨(Nat.le_of_ble_eq_true rfl), (Nat.le_of_ble_eq_true rfl)⟩) hP hD hS hA rfl rfl (by decide) (by decide) (by decide) (Nat.le_of_ble_eq_true rfl) (Nat.le_of_ble_eq_true rfl) (fun u24_2 H locs hp24_3 hP hD hS => ?_)
  obtain ⟨y_tl_424_4, k_o0r24_5⟩ := u24_2
  obtain ⟨hp24_6, hp24_7⟩ := hp24_3
  have hp24_6 : rg y_tl_424_4 1 1000001 := hp24_6
  have hp24_7 : y_tl_424_4.toInt = x_tl_4.toInt + 1 := hp24_7
  have hP : va_P D vwCl [(tl, .inr (10, [.ref tls, .ref o0, .ref p0, .int x_tl_3, .int y_tl_424_4])), (o0, .inr (5, [.ref o0r, .int x_o0_1])), (o0r, .inl (ct 1, 60000, .inl k_o0r24_5))] _ := hP
  have hD : va_D A [(tl, .inr (10, [.ref tls, .ref o0, .ref p0, .int x_tl_3, .int y_tl_424_4])), (o0, .inr (5, [.ref o0r, .int x_o0_1])), (o0r, .inl (ct 1, 60000, .inl k_o0r24_5))] := hD
  exact endq_v hQ hx hb hr hlocks dX10_putImm_27 (y_tl_424_4, k_o0r24_5) ⟨hp24_6, (show y_tl_424_4.toInt = x_tl_4.toInt + 1 by have q0 := h_x_tl_4.1; have q1 := h_x_tl_4.2; have q2 := hp24_6.1; have q3 := hp24_6.2; have q4 := hp24_7; omega)⟩ hP hD hS [0, 1, 2] rfl (by decide) rfl (Nat.le_of_ble_eq_true rfl) (Nat.le_of_ble_eq_true rfl)
set_option maxHeartbeats 2000000 in
theorem c_X10_putAdd (l : Launch) (D : va_G) (ct : Nat → ClassId) (tl : Nat) (v0 : Int32) (v1 : Int32) (v2 : Int32) (tls : Nat) (o0 : Nat) (p0 : Nat) (x_tl_3 : Int32) (x_tl_4 : Int32) (o0r : Nat) (x_o0_1 : Int32) (g_o0r : Nat → Int32) (h_x_tl_3 : rg x_tl_3 0 1) (h_x_tl_4 : rg x_tl_4 0 999990) (h_x_o0_1 : rg x_o0_1 0 60000) : KV (S := Int32 × (Nat → Int32)) l yX10_putAdd cX10_putAdd 4 none 2 41 D ct [.ref tl, .int v0, .int v1, .int v2] [(tl, .inr (10, [.ref tls, .ref o0, .ref p0, .int x_tl_3, .int x_tl_4])), (o0, .inr (5, [.ref o0r, .int x_o0_1])), (o0r, .inl (ct 1, 60000, .inl g_o0r))] 0 0 (fun (u : Int32 × (Nat → Int32)) => match u with | (y_tl_4, k_o0r) => rg y_tl_4 1 1000001 ∧ (y_tl_4.toInt = x_tl_4.toInt + 1)) (fun (u : Int32 × (Nat → Int32)) => match u with | (y_tl_4, k_o0r) => [(tl, .inr (10, [.ref tls, .ref o0, .ref p0, .int x_tl_3, .int y_tl_4])), (o0, .inr (5, [.ref o0r, .int x_o0_1])), (o0r, .inl (ct 1, 60000, .inl k_o0r))]) := by
  refine KVq_of (by decide) (Nat.le_of_ble_eq_true rfl) (fun p e s m below meth c A Q C0 hA H locs hS hP hD hQ ls hl => ?_)
  obtain ⟨hx, hb, hr, hown, hin, hml, hlocks, hn, hK, hZ, hSK⟩ := C0
  have hl : lv_has ls 4 [(0, .ref tl), (1, .int v0), (2, .int v1), (3, .int v2)] := hl
  refine lv_aload_n hx hb dX10_putAdd_0 rfl (lv_at hl 0 rfl) ?_
  refine lv_iload_n hx hb dX10_putAdd_1 rfl (lv_at hl 3 rfl) ?_
  refine lv_bipush (v := 20) hx hb dX10_putAdd_2 (by decide) ?_
  refine lv_ishl hx hb dX10_putAdd_4 ?_
  refine lv_topi (fun z4_1 ez4_1 => ?_)
  refine lv_iload_n hx hb dX10_putAdd_5 rfl (lv_at hl 2 rfl) ?_
  refine lv_bipush (v := 15) hx hb dX10_putAdd_6 (by decide) ?_
  refine lv_ishl hx hb dX10_putAdd_8 ?_
  refine lv_topi (fun z8_1 ez8_1 => ?_)
  refine lv_ior hx hb dX10_putAdd_9 ?_
  refine lv_topi (fun z9_1 ez9_1 => ?_)
  refine lv_iload_n hx hb dX10_putAdd_10 rfl (lv_at hl 1 rfl) ?_
  refine lv_bipush (v := 7) hx hb dX10_putAdd_11 (by decide) ?_
  refine lv_ishl hx hb dX10_putAdd_13 ?_
  refine lv_topi (fun z13_1 ez13_1 => ?_)
  refine lv_ior hx hb dX10_putAdd_14 ?_
  refine lv_topi (fun z14_1 ez14_1 => ?_)
  refine lv_bipush (v := 19) hx hb dX10_putAdd_15 (by decide) ?_
  refine lv_ior hx hb dX10_putAdd_17 ?_
  refine lv_topi (fun z17_1 ez17_1 => ?_)
  refine go_v (k1 := 0) (n1 := 0) (wr := []) [0, 1, 2] [] (rn_V (As := [.int z17_1]) (rest := []) (c_X10_put l D ct tl z17_1 tls o0 p0 x_tl_3 x_tl_4 o0r x_o0_1 g_o0r h_x_tl_3 (rg_w h_x_tl_4 (by decide)) h_x_o0_1 _) (cb_of (n := 1) hn mw_1319 mw_10 mw_1316 mhX10_put ⟨(Nat.le_of_ble_eq_true rfl), (Nat.le_of_ble_eq_true rfl)⟩) hx hb hml hown hn hK hSK hZ hS mw_1318 mw_s149 (ci := 10) (q0 := 0) rfl rfl rfl rfl hl.1 (Nat.le_of_ble_eq_true rfl) dX10_putAdd_18 ⟨(Nat.le_of_ble_eq_true rfl), (Nat.le_of_ble_eq_true rfl)⟩) hP hD hS hA rfl rfl (by decide) (by decide) (by decide) (Nat.le_of_ble_eq_true rfl) (Nat.le_of_ble_eq_true rfl) (fun u18_2 H locs hp18_3 hP hD hS => ?_)
  obtain ⟨y_tl_418_4, k_o0r18_5⟩ := u18_2
  obtain ⟨hp18_6, hp18_7⟩ := hp18_3
  have hp18_6 : rg y_tl_418_4 1 1000001 := hp18_6
  have hp18_7 : y_tl_418_4.toInt = x_tl_4.toInt + 1 := hp18_7
  have hP : va_P D vwCl [(tl, .inr (10, [.ref tls, .ref o0, .ref p0, .int x_tl_3, .int y_tl_418_4])), (o0, .inr (5, [.ref o0r, .int x_o0_1])), (o0r, .inl (ct 1, 60000, .inl k_o0r18_5))] _ := hP
  have hD : va_D A [(tl, .inr (10, [.ref tls, .ref o0, .ref p0, .int x_tl_3, .int y_tl_418_4])), (o0, .inr (5, [.ref o0r, .int x_o0_1])), (o0r, .inl (ct 1, 60000, .inl k_o0r18_5))] := hD
  exact endq_v hQ hx hb hr hlocks dX10_putAdd_21 (y_tl_418_4, k_o0r18_5) ⟨hp18_6, (show y_tl_418_4.toInt = x_tl_4.toInt + 1 by have q0 := h_x_tl_4.1; have q1 := h_x_tl_4.2; have q2 := hp18_6.1; have q3 := hp18_6.2; have q4 := hp18_7; omega)⟩ hP hD hS [0, 1, 2] rfl (by decide) rfl (Nat.le_of_ble_eq_true rfl) (Nat.le_of_ble_eq_true rfl)
set_option maxHeartbeats 2000000 in
theorem c_X10_putBranch (l : Launch) (D : va_G) (ct : Nat → ClassId) (tl : Nat) (v0 : Int32) (v1 : Int32) (v2 : Int32) (v3 : Int32) (tls : Nat) (o0 : Nat) (p0 : Nat) (x_tl_3 : Int32) (x_tl_4 : Int32) (o0r : Nat) (x_o0_1 : Int32) (g_o0r : Nat → Int32) (h_x_tl_3 : rg x_tl_3 0 1) (h_x_tl_4 : rg x_tl_4 0 999990) (h_x_o0_1 : rg x_o0_1 0 60000) : KV (S := Int32 × (Nat → Int32)) l yX10_putBranch cX10_putBranch 5 none 2 41 D ct [.ref tl, .int v0, .int v1, .int v2, .int v3] [(tl, .inr (10, [.ref tls, .ref o0, .ref p0, .int x_tl_3, .int x_tl_4])), (o0, .inr (5, [.ref o0r, .int x_o0_1])), (o0r, .inl (ct 1, 60000, .inl g_o0r))] 0 0 (fun (u : Int32 × (Nat → Int32)) => match u with | (y_tl_4, k_o0r) => rg y_tl_4 1 1000001 ∧ (y_tl_4.toInt = x_tl_4.toInt + 1)) (fun (u : Int32 × (Nat → Int32)) => match u with | (y_tl_4, k_o0r) => [(tl, .inr (10, [.ref tls, .ref o0, .ref p0, .int x_tl_3, .int y_tl_4])), (o0, .inr (5, [.ref o0r, .int x_o0_1])), (o0r, .inl (ct 1, 60000, .inl k_o0r))]) := by
  refine KVq_of (by decide) (Nat.le_of_ble_eq_true rfl) (fun p e s m below meth c A Q C0 hA H locs hS hP hD hQ ls hl => ?_)
  obtain ⟨hx, hb, hr, hown, hin, hml, hlocks, hn, hK, hZ, hSK⟩ := C0
  have hl : lv_has ls 5 [(0, .ref tl), (1, .int v0), (2, .int v1), (3, .int v2), (4, .int v3)] := hl
  refine lv_aload_n hx hb dX10_putBranch_0 rfl (lv_at hl 0 rfl) ?_
  refine lv_iload_n hx hb dX10_putBranch_1 rfl (lv_at hl 3 rfl) ?_
  refine lv_bipush (v := 20) hx hb dX10_putBranch_2 (by decide) ?_
  refine lv_ishl hx hb dX10_putBranch_4 ?_
  refine lv_topi (fun z4_1 ez4_1 => ?_)
  refine lv_iload_n hx hb dX10_putBranch_5 rfl (lv_at hl 2 rfl) ?_
  refine lv_bipush (v := 15) hx hb dX10_putBranch_6 (by decide) ?_
  refine lv_ishl hx hb dX10_putBranch_8 ?_
  refine lv_topi (fun z8_1 ez8_1 => ?_)
  refine lv_ior hx hb dX10_putBranch_9 ?_
  refine lv_topi (fun z9_1 ez9_1 => ?_)
  refine lv_iload_n hx hb dX10_putBranch_10 rfl (lv_at hl 1 rfl) ?_
  refine lv_bipush (v := 12) hx hb dX10_putBranch_11 (by decide) ?_
  refine lv_ishl hx hb dX10_putBranch_13 ?_
  refine lv_topi (fun z13_1 ez13_1 => ?_)
  refine lv_ior hx hb dX10_putBranch_14 ?_
  refine lv_topi (fun z14_1 ez14_1 => ?_)
  refine lv_iload hx hb dX10_putBranch_15 (lv_at hl 4 rfl) ?_
  refine lv_bipush (v := 7) hx hb dX10_putBranch_17 (by decide) ?_
  refine lv_ishl hx hb dX10_putBranch_19 ?_
  refine lv_topi (fun z19_1 ez19_1 => ?_)
  refine lv_ior hx hb dX10_putBranch_20 ?_
  refine lv_topi (fun z20_1 ez20_1 => ?_)
  refine lv_bipush (v := 99) hx hb dX10_putBranch_21 (by decide) ?_
  refine lv_ior hx hb dX10_putBranch_23 ?_
  refine lv_topi (fun z23_1 ez23_1 => ?_)
  refine go_v (k1 := 0) (n1 := 0) (wr := []) [0, 1, 2] [] (rn_V (As := [.int z23_1]) (rest := []) (c_X10_put l D ct tl z23_1 tls o0 p0 x_tl_3 x_tl_4 o0r x_o0_1 g_o0r h_x_tl_3 (rg_w h_x_tl_4 (by decide)) h_x_o0_1 _) (cb_of (n := 1) hn mw_1319 mw_10 mw_1316 mhX10_put ⟨(Nat.le_of_ble_eq_true rfl), (Nat.le_of_ble_eq_true rfl)⟩) hx hb hml hown hn hK hSK hZ hS mw_1318 mw_s149 (ci := 10) (q0 := 0) rfl rfl rfl rfl hl.1 (Nat.le_of_ble_eq_true rfl) dX10_putBranch_24 ⟨(Nat.le_of_ble_eq_true rfl), (Nat.le_of_ble_eq_true rfl)⟩) hP hD hS hA rfl rfl (by decide) (by decide) (by decide) (Nat.le_of_ble_eq_true rfl) (Nat.le_of_ble_eq_true rfl) (fun u24_2 H locs hp24_3 hP hD hS => ?_)
  obtain ⟨y_tl_424_4, k_o0r24_5⟩ := u24_2
  obtain ⟨hp24_6, hp24_7⟩ := hp24_3
  have hp24_6 : rg y_tl_424_4 1 1000001 := hp24_6
  have hp24_7 : y_tl_424_4.toInt = x_tl_4.toInt + 1 := hp24_7
  have hP : va_P D vwCl [(tl, .inr (10, [.ref tls, .ref o0, .ref p0, .int x_tl_3, .int y_tl_424_4])), (o0, .inr (5, [.ref o0r, .int x_o0_1])), (o0r, .inl (ct 1, 60000, .inl k_o0r24_5))] _ := hP
  have hD : va_D A [(tl, .inr (10, [.ref tls, .ref o0, .ref p0, .int x_tl_3, .int y_tl_424_4])), (o0, .inr (5, [.ref o0r, .int x_o0_1])), (o0r, .inl (ct 1, 60000, .inl k_o0r24_5))] := hD
  exact endq_v hQ hx hb hr hlocks dX10_putBranch_27 (y_tl_424_4, k_o0r24_5) ⟨hp24_6, (show y_tl_424_4.toInt = x_tl_4.toInt + 1 by have q0 := h_x_tl_4.1; have q1 := h_x_tl_4.2; have q2 := hp24_6.1; have q3 := hp24_6.2; have q4 := hp24_7; omega)⟩ hP hD hS [0, 1, 2] rfl (by decide) rfl (Nat.le_of_ble_eq_true rfl) (Nat.le_of_ble_eq_true rfl)
set_option maxHeartbeats 2000000 in
theorem c_X10_putStore (l : Launch) (D : va_G) (ct : Nat → ClassId) (tl : Nat) (v0 : Int32) (v1 : Int32) (v2 : Int32) (tls : Nat) (o0 : Nat) (p0 : Nat) (x_tl_3 : Int32) (x_tl_4 : Int32) (o0r : Nat) (x_o0_1 : Int32) (g_o0r : Nat → Int32) (h_x_tl_3 : rg x_tl_3 0 1) (h_x_tl_4 : rg x_tl_4 0 999990) (h_x_o0_1 : rg x_o0_1 0 60000) : KV (S := Int32 × (Nat → Int32)) l yX10_putStore cX10_putStore 4 none 2 41 D ct [.ref tl, .int v0, .int v1, .int v2] [(tl, .inr (10, [.ref tls, .ref o0, .ref p0, .int x_tl_3, .int x_tl_4])), (o0, .inr (5, [.ref o0r, .int x_o0_1])), (o0r, .inl (ct 1, 60000, .inl g_o0r))] 0 0 (fun (u : Int32 × (Nat → Int32)) => match u with | (y_tl_4, k_o0r) => rg y_tl_4 1 1000001 ∧ (y_tl_4.toInt = x_tl_4.toInt + 1)) (fun (u : Int32 × (Nat → Int32)) => match u with | (y_tl_4, k_o0r) => [(tl, .inr (10, [.ref tls, .ref o0, .ref p0, .int x_tl_3, .int y_tl_4])), (o0, .inr (5, [.ref o0r, .int x_o0_1])), (o0r, .inl (ct 1, 60000, .inl k_o0r))]) := by
  refine KVq_of (by decide) (Nat.le_of_ble_eq_true rfl) (fun p e s m below meth c A Q C0 hA H locs hS hP hD hQ ls hl => ?_)
  obtain ⟨hx, hb, hr, hown, hin, hml, hlocks, hn, hK, hZ, hSK⟩ := C0
  have hl : lv_has ls 4 [(0, .ref tl), (1, .int v0), (2, .int v1), (3, .int v2)] := hl
  refine lv_aload_n hx hb dX10_putStore_0 rfl (lv_at hl 0 rfl) ?_
  refine lv_iload_n hx hb dX10_putStore_1 rfl (lv_at hl 3 rfl) ?_
  refine lv_bipush (v := 20) hx hb dX10_putStore_2 (by decide) ?_
  refine lv_ishl hx hb dX10_putStore_4 ?_
  refine lv_topi (fun z4_1 ez4_1 => ?_)
  refine lv_iload_n hx hb dX10_putStore_5 rfl (lv_at hl 2 rfl) ?_
  refine lv_bipush (v := 15) hx hb dX10_putStore_6 (by decide) ?_
  refine lv_ishl hx hb dX10_putStore_8 ?_
  refine lv_topi (fun z8_1 ez8_1 => ?_)
  refine lv_ior hx hb dX10_putStore_9 ?_
  refine lv_topi (fun z9_1 ez9_1 => ?_)
  refine lv_iload_n hx hb dX10_putStore_10 rfl (lv_at hl 1 rfl) ?_
  refine lv_bipush (v := 12) hx hb dX10_putStore_11 (by decide) ?_
  refine lv_ishl hx hb dX10_putStore_13 ?_
  refine lv_topi (fun z13_1 ez13_1 => ?_)
  refine lv_ior hx hb dX10_putStore_14 ?_
  refine lv_topi (fun z14_1 ez14_1 => ?_)
  refine lv_bipush (v := 35) hx hb dX10_putStore_15 (by decide) ?_
  refine lv_ior hx hb dX10_putStore_17 ?_
  refine lv_topi (fun z17_1 ez17_1 => ?_)
  refine go_v (k1 := 0) (n1 := 0) (wr := []) [0, 1, 2] [] (rn_V (As := [.int z17_1]) (rest := []) (c_X10_put l D ct tl z17_1 tls o0 p0 x_tl_3 x_tl_4 o0r x_o0_1 g_o0r h_x_tl_3 (rg_w h_x_tl_4 (by decide)) h_x_o0_1 _) (cb_of (n := 1) hn mw_1319 mw_10 mw_1316 mhX10_put ⟨(Nat.le_of_ble_eq_true rfl), (Nat.le_of_ble_eq_true rfl)⟩) hx hb hml hown hn hK hSK hZ hS mw_1318 mw_s149 (ci := 10) (q0 := 0) rfl rfl rfl rfl hl.1 (Nat.le_of_ble_eq_true rfl) dX10_putStore_18 ⟨(Nat.le_of_ble_eq_true rfl), (Nat.le_of_ble_eq_true rfl)⟩) hP hD hS hA rfl rfl (by decide) (by decide) (by decide) (Nat.le_of_ble_eq_true rfl) (Nat.le_of_ble_eq_true rfl) (fun u18_2 H locs hp18_3 hP hD hS => ?_)
  obtain ⟨y_tl_418_4, k_o0r18_5⟩ := u18_2
  obtain ⟨hp18_6, hp18_7⟩ := hp18_3
  have hp18_6 : rg y_tl_418_4 1 1000001 := hp18_6
  have hp18_7 : y_tl_418_4.toInt = x_tl_4.toInt + 1 := hp18_7
  have hP : va_P D vwCl [(tl, .inr (10, [.ref tls, .ref o0, .ref p0, .int x_tl_3, .int y_tl_418_4])), (o0, .inr (5, [.ref o0r, .int x_o0_1])), (o0r, .inl (ct 1, 60000, .inl k_o0r18_5))] _ := hP
  have hD : va_D A [(tl, .inr (10, [.ref tls, .ref o0, .ref p0, .int x_tl_3, .int y_tl_418_4])), (o0, .inr (5, [.ref o0r, .int x_o0_1])), (o0r, .inl (ct 1, 60000, .inl k_o0r18_5))] := hD
  exact endq_v hQ hx hb hr hlocks dX10_putStore_21 (y_tl_418_4, k_o0r18_5) ⟨hp18_6, (show y_tl_418_4.toInt = x_tl_4.toInt + 1 by have q0 := h_x_tl_4.1; have q1 := h_x_tl_4.2; have q2 := hp18_6.1; have q3 := hp18_6.2; have q4 := hp18_7; omega)⟩ hP hD hS [0, 1, 2] rfl (by decide) rfl (Nat.le_of_ble_eq_true rfl) (Nat.le_of_ble_eq_true rfl)
set_option maxHeartbeats 2000000 in
theorem c_X10_putGoing (l : Launch) (D : va_G) (ct : Nat → ClassId) (tl : Nat) (v0 : Int32) (tls : Nat) (o0 : Nat) (p0 : Nat) (x_tl_3 : Int32) (x_tl_4 : Int32) (o0r : Nat) (x_o0_1 : Int32) (g_o0r : Nat → Int32) (h_x_tl_3 : rg x_tl_3 0 1) (h_x_tl_4 : rg x_tl_4 0 999990) (h_x_o0_1 : rg x_o0_1 0 60000) : KV (S := Int32 × (Nat → Int32)) l yX10_putGoing cX10_putGoing 3 none 2 41 D ct [.ref tl, .int v0] [(tl, .inr (10, [.ref tls, .ref o0, .ref p0, .int x_tl_3, .int x_tl_4])), (o0, .inr (5, [.ref o0r, .int x_o0_1])), (o0r, .inl (ct 1, 60000, .inl g_o0r))] 0 0 (fun (u : Int32 × (Nat → Int32)) => match u with | (y_tl_4, k_o0r) => rg y_tl_4 1 1000001 ∧ (y_tl_4.toInt = x_tl_4.toInt + 1)) (fun (u : Int32 × (Nat → Int32)) => match u with | (y_tl_4, k_o0r) => [(tl, .inr (10, [.ref tls, .ref o0, .ref p0, .int x_tl_3, .int y_tl_4])), (o0, .inr (5, [.ref o0r, .int x_o0_1])), (o0r, .inl (ct 1, 60000, .inl k_o0r))]) := by
  refine KVq_of (by decide) (Nat.le_of_ble_eq_true rfl) (fun p e s m below meth c A Q C0 hA H locs hS hP hD hQ ls hl => ?_)
  obtain ⟨hx, hb, hr, hown, hin, hml, hlocks, hn, hK, hZ, hSK⟩ := C0
  have hl : lv_has ls 3 [(0, .ref tl), (1, .int v0)] := hl
  refine lv_iload_n hx hb dX10_putGoing_0 rfl (lv_at hl 1 rfl) ?_
  refine lv_bipush (v := 20) hx hb dX10_putGoing_1 (by decide) ?_
  refine lv_ishr hx hb dX10_putGoing_3 ?_
  refine lv_topi (fun z3_1 ez3_1 => ?_)
  have r3_2 : rg z3_1 (-2048) 2047 := rg_shr (k := 20) ez3_1 (by decide) (rg_any v0) (by decide)
  refine lv_iconst (v := 1) hx hb dX10_putGoing_4 (by decide) ?_
  refine lv_iand hx hb dX10_putGoing_5 ?_
  refine lv_topi (fun z5_1 ez5_1 => ?_)
  have r5_2 : rg z5_1 0 1 := rg_andr ez5_1 (show rg (1 : Int32) 1 1 from rg_l (by decide)) (by decide)
  refine lv_istore_n (lv' := [(2, .int z5_1), (0, .ref tl), (1, .int v0)]) hx hb dX10_putGoing_6 rfl hl (by decide) rfl (fun ls hl => ?_)
  refine lv_aload_n hx hb dX10_putGoing_7 rfl (lv_at hl 1 rfl) ?_
  refine lv_iload_n hx hb dX10_putGoing_8 rfl (lv_at hl 0 rfl) ?_
  refine lv_bipush (v := 31) hx hb dX10_putGoing_9 (by decide) ?_
  refine lv_ishl hx hb dX10_putGoing_11 ?_
  refine lv_topi (fun z11_1 ez11_1 => ?_)
  refine lv_iload_n hx hb dX10_putGoing_12 rfl (lv_at hl 2 rfl) ?_
  refine lv_iconst (v := 1) hx hb dX10_putGoing_13 (by decide) ?_
  refine lv_ishr hx hb dX10_putGoing_14 ?_
  refine lv_topi (fun z14_1 ez14_1 => ?_)
  have r14_2 : rg z14_1 (-1073741824) 1073741823 := rg_shr (k := 1) ez14_1 (by decide) (rg_any v0) (by decide)
  refine lv_sipush (v := 1023) hx hb dX10_putGoing_15 (by decide) ?_
  refine lv_iand hx hb dX10_putGoing_18 ?_
  refine lv_topi (fun z18_1 ez18_1 => ?_)
  have r18_2 : rg z18_1 0 1023 := rg_andr ez18_1 (show rg (1023 : Int32) 1023 1023 from rg_l (by decide)) (by decide)
  refine lv_bipush (v := 21) hx hb dX10_putGoing_19 (by decide) ?_
  refine lv_ishl hx hb dX10_putGoing_21 ?_
  refine lv_topi (fun z21_1 ez21_1 => ?_)
  have r21_2 : rg z21_1 0 2145386496 := rg_shl (c := 2097152) (k := 21) ez21_1 (by decide) r18_2 (by decide)
  refine lv_ior hx hb dX10_putGoing_22 ?_
  refine lv_topi (fun z22_1 ez22_1 => ?_)
  refine lv_iload_n hx hb dX10_putGoing_23 rfl (lv_at hl 2 rfl) ?_
  refine lv_bipush (v := 11) hx hb dX10_putGoing_24 (by decide) ?_
  refine lv_ishr hx hb dX10_putGoing_26 ?_
  refine lv_topi (fun z26_1 ez26_1 => ?_)
  have r26_2 : rg z26_1 (-1048576) 1048575 := rg_shr (k := 11) ez26_1 (by decide) (rg_any v0) (by decide)
  refine lv_iconst (v := 1) hx hb dX10_putGoing_27 (by decide) ?_
  refine lv_iand hx hb dX10_putGoing_28 ?_
  refine lv_topi (fun z28_1 ez28_1 => ?_)
  have r28_2 : rg z28_1 0 1 := rg_andr ez28_1 (show rg (1 : Int32) 1 1 from rg_l (by decide)) (by decide)
  refine lv_bipush (v := 20) hx hb dX10_putGoing_29 (by decide) ?_
  refine lv_ishl hx hb dX10_putGoing_31 ?_
  refine lv_topi (fun z31_1 ez31_1 => ?_)
  have r31_2 : rg z31_1 0 1048576 := rg_shl (c := 1048576) (k := 20) ez31_1 (by decide) r28_2 (by decide)
  refine lv_ior hx hb dX10_putGoing_32 ?_
  refine lv_topi (fun z32_1 ez32_1 => ?_)
  refine lv_iload_n hx hb dX10_putGoing_33 rfl (lv_at hl 2 rfl) ?_
  refine lv_ldc (v := 1044480) hx hb hown (hn.get mw_1350 rfl) dX10_putGoing_34 ?_
  refine lv_iand hx hb dX10_putGoing_36 ?_
  refine lv_topi (fun z36_1 ez36_1 => ?_)
  have r36_2 : rg z36_1 0 1044480 := rg_andr ez36_1 (show rg (1044480 : Int32) 1044480 1044480 from rg_l (by decide)) (by decide)
  refine lv_ior hx hb dX10_putGoing_37 ?_
  refine lv_topi (fun z37_1 ez37_1 => ?_)
  refine lv_bipush (v := 111) hx hb dX10_putGoing_38 (by decide) ?_
  refine lv_ior hx hb dX10_putGoing_40 ?_
  refine lv_topi (fun z40_1 ez40_1 => ?_)
  refine go_v (k1 := 0) (n1 := 0) (wr := []) [0, 1, 2] [] (rn_V (As := [.int z40_1]) (rest := []) (c_X10_put l D ct tl z40_1 tls o0 p0 x_tl_3 x_tl_4 o0r x_o0_1 g_o0r h_x_tl_3 (rg_w h_x_tl_4 (by decide)) h_x_o0_1 _) (cb_of (n := 1) hn mw_1319 mw_10 mw_1316 mhX10_put ⟨(Nat.le_of_ble_eq_true rfl), (Nat.le_of_ble_eq_true rfl)⟩) hx hb hml hown hn hK hSK hZ hS mw_1318 mw_s149 (ci := 10) (q0 := 0) rfl rfl rfl rfl hl.1 (Nat.le_of_ble_eq_true rfl) dX10_putGoing_41 ⟨(Nat.le_of_ble_eq_true rfl), (Nat.le_of_ble_eq_true rfl)⟩) hP hD hS hA rfl rfl (by decide) (by decide) (by decide) (Nat.le_of_ble_eq_true rfl) (Nat.le_of_ble_eq_true rfl) (fun u41_2 H locs hp41_3 hP hD hS => ?_)
  obtain ⟨y_tl_441_4, k_o0r41_5⟩ := u41_2
  obtain ⟨hp41_6, hp41_7⟩ := hp41_3
  have hp41_6 : rg y_tl_441_4 1 1000001 := hp41_6
  have hp41_7 : y_tl_441_4.toInt = x_tl_4.toInt + 1 := hp41_7
  have hP : va_P D vwCl [(tl, .inr (10, [.ref tls, .ref o0, .ref p0, .int x_tl_3, .int y_tl_441_4])), (o0, .inr (5, [.ref o0r, .int x_o0_1])), (o0r, .inl (ct 1, 60000, .inl k_o0r41_5))] _ := hP
  have hD : va_D A [(tl, .inr (10, [.ref tls, .ref o0, .ref p0, .int x_tl_3, .int y_tl_441_4])), (o0, .inr (5, [.ref o0r, .int x_o0_1])), (o0r, .inl (ct 1, 60000, .inl k_o0r41_5))] := hD
  exact endq_v hQ hx hb hr hlocks dX10_putGoing_44 (y_tl_441_4, k_o0r41_5) ⟨hp41_6, (show y_tl_441_4.toInt = x_tl_4.toInt + 1 by have q0 := h_x_tl_4.1; have q1 := h_x_tl_4.2; have q2 := hp41_6.1; have q3 := hp41_6.2; have q4 := hp41_7; omega)⟩ hP hD hS [0, 1, 2] rfl (by decide) rfl (Nat.le_of_ble_eq_true rfl) (Nat.le_of_ble_eq_true rfl)
set_option maxHeartbeats 2000000 in
theorem c_X10_placeOf (l : Launch) (D : va_G) (ct : Nat → ClassId) (v0 : Int32)  : KI (S := Unit) l yX10_placeOf cX10_placeOf 1 (some .int) 1 20 D ct [.int v0] [] 0 0 (fun (r : Int32) (_ : Unit) => True) (fun (_ : Unit) => []) := by
  refine KIq_of (by decide) (Nat.le_of_ble_eq_true rfl) (fun p e s m below meth c A Q C0 hA H locs hS hP hD hQ ls hl => ?_)
  obtain ⟨hx, hb, hr, hown, hin, hml, hlocks, hn, hK, hZ, hSK⟩ := C0
  have hl : lv_has ls 1 [(0, .int v0)] := hl
  refine lv_iload_n hx hb dX10_placeOf_0 rfl (lv_at hl 0 rfl) ?_
  refine lv_bipush (v := 6) hx hb dX10_placeOf_1 (by decide) ?_
  refine lv_icmp_ge (tgt := 13) hx hb dX10_placeOf_3 (by decide) (fun c3_1 => ?_) (fun c3_1 => ?_)
  · have t3_2 := (i_le c3_1)
    have r3_3 : rg v0 6 2147483647 := rg_leB t3_2 (show rg (6 : Int32) 6 6 from rg_l (by decide)) (rg_any v0) (by decide)
    refine lv_bipush (v := 12) hx hb dX10_placeOf_13 (by decide) ?_
    refine lv_iload_n hx hb dX10_placeOf_15 rfl (lv_at hl 0 rfl) ?_
    refine lv_iadd hx hb dX10_placeOf_16 ?_
    refine lv_topi (fun z16_1 ez16_1 => ?_)
    exact endq_i hQ hx hb hr hlocks dX10_placeOf_17 rfl () trivial hP hD hS [] rfl (by decide) rfl (Nat.le_of_ble_eq_true rfl) (Nat.le_of_ble_eq_true rfl)
  · have t3_2 := (i_nle c3_1)
    have r3_3 : rg v0 (-2147483648) 5 := rg_ltA t3_2 (rg_any v0) (show rg (6 : Int32) 6 6 from rg_l (by decide)) (by decide)
    refine lv_bipush (v := 10) hx hb dX10_placeOf_6 (by decide) ?_
    refine lv_iload_n hx hb dX10_placeOf_8 rfl (lv_at hl 0 rfl) ?_
    refine lv_iadd hx hb dX10_placeOf_9 ?_
    refine lv_topi (fun z9_1 ez9_1 => ?_)
    have r9_2 : rg z9_1 (-2147483638) 15 := rg_add ez9_1 (show rg (10 : Int32) 10 10 from rg_l (by decide)) r3_3 (by decide)
    refine lv_goto (tgt := 17) hx hb dX10_placeOf_10 (by decide) ?_
    exact endq_i hQ hx hb hr hlocks dX10_placeOf_17 rfl () trivial hP hD hS [] rfl (by decide) rfl (Nat.le_of_ble_eq_true rfl) (Nat.le_of_ble_eq_true rfl)
set_option maxHeartbeats 2000000 in
theorem c_X10_putNumber (l : Launch) (D : va_G) (ct : Nat → ClassId) (tl : Nat) (v0 : Int32) (v1 : Int32) (tls : Nat) (o0 : Nat) (p0 : Nat) (x_tl_3 : Int32) (x_tl_4 : Int32) (o0r : Nat) (x_o0_1 : Int32) (g_o0r : Nat → Int32) (h_x_tl_3 : rg x_tl_3 0 1) (h_x_tl_4 : rg x_tl_4 0 999950) (h_x_o0_1 : rg x_o0_1 0 60000) : KV (S := Int32 × (Nat → Int32)) l yX10_putNumber cX10_putNumber 3 none 2 41 D ct [.ref tl, .int v0, .int v1] [(tl, .inr (10, [.ref tls, .ref o0, .ref p0, .int x_tl_3, .int x_tl_4])), (o0, .inr (5, [.ref o0r, .int x_o0_1])), (o0r, .inl (ct 1, 60000, .inl g_o0r))] 0 0 (fun (u : Int32 × (Nat → Int32)) => match u with | (y_tl_4, k_o0r) => rg y_tl_4 1 1000001 ∧ (x_tl_4.toInt + 1 ≤ y_tl_4.toInt ∧ y_tl_4.toInt ≤ x_tl_4.toInt + 2)) (fun (u : Int32 × (Nat → Int32)) => match u with | (y_tl_4, k_o0r) => [(tl, .inr (10, [.ref tls, .ref o0, .ref p0, .int x_tl_3, .int y_tl_4])), (o0, .inr (5, [.ref o0r, .int x_o0_1])), (o0r, .inl (ct 1, 60000, .inl k_o0r))]) := by
  refine KVq_of (by decide) (Nat.le_of_ble_eq_true rfl) (fun p e s m below meth c A Q C0 hA H locs hS hP hD hQ ls hl => ?_)
  obtain ⟨hx, hb, hr, hown, hin, hml, hlocks, hn, hK, hZ, hSK⟩ := C0
  have hl : lv_has ls 3 [(0, .ref tl), (1, .int v0), (2, .int v1)] := hl
  refine lv_iload_n hx hb dX10_putNumber_0 rfl (lv_at hl 2 rfl) ?_
  refine lv_sipush (v := (-2048)) hx hb dX10_putNumber_1 (by decide) ?_
  have b31 : ∀  (H : Heap) (locs : List Loc) (ls : Array Slot), lv_has ls 3 [(0, .ref tl), (1, .int v0), (2, .int v1)] → va_P D vwCl [(tl, .inr (10, [.ref tls, .ref o0, .ref p0, .int x_tl_3, .int x_tl_4])), (o0, .inr (5, [.ref o0r, .int x_o0_1])), (o0r, .inl (ct 1, 60000, .inl g_o0r))] H → va_D A [(tl, .inr (10, [.ref tls, .ref o0, .ref p0, .int x_tl_3, .int x_tl_4])), (o0, .inr (5, [.ref o0r, .int x_o0_1])), (o0r, .inl (ct 1, 60000, .inl g_o0r))] → va_S A s.heap H locs → W p l e ({ frames := 2, cells := 0, slots := 0, locals := 41 }) s m [.ref tl, .int v0, .int v1].toArray below meth c H locs 0 0 Q (F0 m 31 ls []) := by
    intro  H locs ls  hl hP hD hS
    refine lv_aload_n hx hb dX10_putNumber_31 rfl (lv_at hl 0 rfl) ?_
    refine lv_iload_n hx hb dX10_putNumber_32 rfl (lv_at hl 2 rfl) ?_
    refine lv_sipush (v := 2048) hx hb dX10_putNumber_33 (by decide) ?_
    refine lv_iadd hx hb dX10_putNumber_36 ?_
    refine lv_topi (fun z36_1 ez36_1 => ?_)
    refine lv_sipush (v := (-4096)) hx hb dX10_putNumber_37 (by decide) ?_
    refine lv_iand hx hb dX10_putNumber_40 ?_
    refine lv_topi (fun z40_1 ez40_1 => ?_)
    refine lv_iload_n hx hb dX10_putNumber_41 rfl (lv_at hl 1 rfl) ?_
    refine lv_bipush (v := 7) hx hb dX10_putNumber_42 (by decide) ?_
    refine lv_ishl hx hb dX10_putNumber_44 ?_
    refine lv_topi (fun z44_1 ez44_1 => ?_)
    refine lv_ior hx hb dX10_putNumber_45 ?_
    refine lv_topi (fun z45_1 ez45_1 => ?_)
    refine lv_bipush (v := 55) hx hb dX10_putNumber_46 (by decide) ?_
    refine lv_ior hx hb dX10_putNumber_48 ?_
    refine lv_topi (fun z48_1 ez48_1 => ?_)
    refine go_v (k1 := 0) (n1 := 0) (wr := []) [0, 1, 2] [] (rn_V (As := [.int z48_1]) (rest := []) (c_X10_put l D ct tl z48_1 tls o0 p0 x_tl_3 x_tl_4 o0r x_o0_1 g_o0r h_x_tl_3 (rg_w h_x_tl_4 (by decide)) h_x_o0_1 _) (cb_of (n := 1) hn mw_1319 mw_10 mw_1316 mhX10_put ⟨(Nat.le_of_ble_eq_true rfl), (Nat.le_of_ble_eq_true rfl)⟩) hx hb hml hown hn hK hSK hZ hS mw_1318 mw_s149 (ci := 10) (q0 := 0) rfl rfl rfl rfl hl.1 (Nat.le_of_ble_eq_true rfl) dX10_putNumber_49 ⟨(Nat.le_of_ble_eq_true rfl), (Nat.le_of_ble_eq_true rfl)⟩) hP hD hS hA rfl rfl (by decide) (by decide) (by decide) (Nat.le_of_ble_eq_true rfl) (Nat.le_of_ble_eq_true rfl) (fun u49_2 H locs hp49_3 hP hD hS => ?_)
    obtain ⟨y_tl_449_4, k_o0r49_5⟩ := u49_2
    obtain ⟨hp49_6, hp49_7⟩ := hp49_3
    have hp49_6 : rg y_tl_449_4 1 1000001 := hp49_6
    have hp49_7 : y_tl_449_4.toInt = x_tl_4.toInt + 1 := hp49_7
    have hP : va_P D vwCl [(tl, .inr (10, [.ref tls, .ref o0, .ref p0, .int x_tl_3, .int y_tl_449_4])), (o0, .inr (5, [.ref o0r, .int x_o0_1])), (o0r, .inl (ct 1, 60000, .inl k_o0r49_5))] _ := hP
    have hD : va_D A [(tl, .inr (10, [.ref tls, .ref o0, .ref p0, .int x_tl_3, .int y_tl_449_4])), (o0, .inr (5, [.ref o0r, .int x_o0_1])), (o0r, .inl (ct 1, 60000, .inl k_o0r49_5))] := hD
    refine lv_aload_n hx hb dX10_putNumber_52 rfl (lv_at hl 0 rfl) ?_
    refine lv_iload_n hx hb dX10_putNumber_53 rfl (lv_at hl 2 rfl) ?_
    refine lv_bipush (v := 20) hx hb dX10_putNumber_54 (by decide) ?_
    refine lv_ishl hx hb dX10_putNumber_56 ?_
    refine lv_topi (fun z56_1 ez56_1 => ?_)
    refine lv_iload_n hx hb dX10_putNumber_57 rfl (lv_at hl 1 rfl) ?_
    refine lv_bipush (v := 15) hx hb dX10_putNumber_58 (by decide) ?_
    refine lv_ishl hx hb dX10_putNumber_60 ?_
    refine lv_topi (fun z60_1 ez60_1 => ?_)
    refine lv_ior hx hb dX10_putNumber_61 ?_
    refine lv_topi (fun z61_1 ez61_1 => ?_)
    refine lv_iload_n hx hb dX10_putNumber_62 rfl (lv_at hl 1 rfl) ?_
    refine lv_bipush (v := 7) hx hb dX10_putNumber_63 (by decide) ?_
    refine lv_ishl hx hb dX10_putNumber_65 ?_
    refine lv_topi (fun z65_1 ez65_1 => ?_)
    refine lv_ior hx hb dX10_putNumber_66 ?_
    refine lv_topi (fun z66_1 ez66_1 => ?_)
    refine lv_bipush (v := 27) hx hb dX10_putNumber_67 (by decide) ?_
    refine lv_ior hx hb dX10_putNumber_69 ?_
    refine lv_topi (fun z69_1 ez69_1 => ?_)
    refine go_v (k1 := 0) (n1 := 0) (wr := []) [0, 1, 2] [] (rn_V (As := [.int z69_1]) (rest := []) (c_X10_put l D ct tl z69_1 tls o0 p0 x_tl_3 y_tl_449_4 o0r x_o0_1 k_o0r49_5 h_x_tl_3 (rg_of (show 0 ≤ y_tl_449_4.toInt ∧ y_tl_449_4.toInt ≤ 1000000 by have q0 := hp49_6.1; have q1 := hp49_6.2; have q2 := h_x_tl_4.1; have q3 := h_x_tl_4.2; have q4 := hp49_7; omega)) h_x_o0_1 _) (cb_of (n := 1) hn mw_1319 mw_10 mw_1316 mhX10_put ⟨(Nat.le_of_ble_eq_true rfl), (Nat.le_of_ble_eq_true rfl)⟩) hx hb hml hown hn hK hSK hZ hS mw_1318 mw_s149 (ci := 10) (q0 := 0) rfl rfl rfl rfl hl.1 (Nat.le_of_ble_eq_true rfl) dX10_putNumber_70 ⟨(Nat.le_of_ble_eq_true rfl), (Nat.le_of_ble_eq_true rfl)⟩) hP hD hS hA rfl rfl (by decide) (by decide) (by decide) (Nat.le_of_ble_eq_true rfl) (Nat.le_of_ble_eq_true rfl) (fun u70_2 H locs hp70_3 hP hD hS => ?_)
    obtain ⟨y_tl_470_4, k_o0r70_5⟩ := u70_2
    obtain ⟨hp70_6, hp70_7⟩ := hp70_3
    have hp70_6 : rg y_tl_470_4 1 1000001 := hp70_6
    have hp70_7 : y_tl_470_4.toInt = y_tl_449_4.toInt + 1 := hp70_7
    have hP : va_P D vwCl [(tl, .inr (10, [.ref tls, .ref o0, .ref p0, .int x_tl_3, .int y_tl_470_4])), (o0, .inr (5, [.ref o0r, .int x_o0_1])), (o0r, .inl (ct 1, 60000, .inl k_o0r70_5))] _ := hP
    have hD : va_D A [(tl, .inr (10, [.ref tls, .ref o0, .ref p0, .int x_tl_3, .int y_tl_470_4])), (o0, .inr (5, [.ref o0r, .int x_o0_1])), (o0r, .inl (ct 1, 60000, .inl k_o0r70_5))] := hD
    exact endq_v hQ hx hb hr hlocks dX10_putNumber_73 (y_tl_470_4, k_o0r70_5) ⟨hp70_6, (show x_tl_4.toInt + 1 ≤ y_tl_470_4.toInt ∧ y_tl_470_4.toInt ≤ x_tl_4.toInt + 2 by have q0 := h_x_tl_4.1; have q1 := h_x_tl_4.2; have q2 := hp70_6.1; have q3 := hp70_6.2; have q4 := hp49_6.1; have q5 := hp49_6.2; have q6 := hp49_7; have q7 := hp70_7; omega)⟩ hP hD hS [0, 1, 2] rfl (by decide) rfl (Nat.le_of_ble_eq_true rfl) (Nat.le_of_ble_eq_true rfl)
  refine lv_icmp_lt (tgt := 31) hx hb dX10_putNumber_4 (by decide) (fun c4_1 => ?_) (fun c4_1 => ?_)
  · have t4_2 := (i_lt c4_1)
    have r4_3 : rg v1 (-2147483648) (-2049) := rg_ltA t4_2 (rg_any v1) (show rg ((-2048) : Int32) (-2048) (-2048) from rg_l (by decide)) (by decide)
    exact b31  H locs ls  (lv_sub hl [0, 1, 2] rfl) hP hD hS
  · have t4_2 := (i_nlt c4_1)
    have r4_3 : rg v1 (-2048) 2147483647 := rg_leB t4_2 (show rg ((-2048) : Int32) (-2048) (-2048) from rg_l (by decide)) (rg_any v1) (by decide)
    refine lv_iload_n hx hb dX10_putNumber_7 rfl (lv_at hl 2 rfl) ?_
    refine lv_sipush (v := 2047) hx hb dX10_putNumber_8 (by decide) ?_
    refine lv_icmp_gt (tgt := 31) hx hb dX10_putNumber_11 (by decide) (fun c11_1 => ?_) (fun c11_1 => ?_)
    · have t11_2 := (i_lt c11_1)
      have r11_3 : rg v1 2048 2147483647 := rg_ltB t11_2 (show rg (2047 : Int32) 2047 2047 from rg_l (by decide)) r4_3 (by decide)
      exact b31  H locs ls  (lv_sub hl [0, 1, 2] rfl) hP hD hS
    · have t11_2 := (i_nlt c11_1)
      have r11_3 : rg v1 (-2048) 2047 := rg_leA t11_2 r4_3 (show rg (2047 : Int32) 2047 2047 from rg_l (by decide)) (by decide)
      refine lv_aload_n hx hb dX10_putNumber_14 rfl (lv_at hl 0 rfl) ?_
      refine lv_iload_n hx hb dX10_putNumber_15 rfl (lv_at hl 2 rfl) ?_
      refine lv_bipush (v := 20) hx hb dX10_putNumber_16 (by decide) ?_
      refine lv_ishl hx hb dX10_putNumber_18 ?_
      refine lv_topi (fun z18_1 ez18_1 => ?_)
      refine lv_iload_n hx hb dX10_putNumber_19 rfl (lv_at hl 1 rfl) ?_
      refine lv_bipush (v := 7) hx hb dX10_putNumber_20 (by decide) ?_
      refine lv_ishl hx hb dX10_putNumber_22 ?_
      refine lv_topi (fun z22_1 ez22_1 => ?_)
      refine lv_ior hx hb dX10_putNumber_23 ?_
      refine lv_topi (fun z23_1 ez23_1 => ?_)
      refine lv_bipush (v := 19) hx hb dX10_putNumber_24 (by decide) ?_
      refine lv_ior hx hb dX10_putNumber_26 ?_
      refine lv_topi (fun z26_1 ez26_1 => ?_)
      refine go_v (k1 := 0) (n1 := 0) (wr := []) [0, 1, 2] [] (rn_V (As := [.int z26_1]) (rest := []) (c_X10_put l D ct tl z26_1 tls o0 p0 x_tl_3 x_tl_4 o0r x_o0_1 g_o0r h_x_tl_3 (rg_w h_x_tl_4 (by decide)) h_x_o0_1 _) (cb_of (n := 1) hn mw_1319 mw_10 mw_1316 mhX10_put ⟨(Nat.le_of_ble_eq_true rfl), (Nat.le_of_ble_eq_true rfl)⟩) hx hb hml hown hn hK hSK hZ hS mw_1318 mw_s149 (ci := 10) (q0 := 0) rfl rfl rfl rfl hl.1 (Nat.le_of_ble_eq_true rfl) dX10_putNumber_27 ⟨(Nat.le_of_ble_eq_true rfl), (Nat.le_of_ble_eq_true rfl)⟩) hP hD hS hA rfl rfl (by decide) (by decide) (by decide) (Nat.le_of_ble_eq_true rfl) (Nat.le_of_ble_eq_true rfl) (fun u27_2 H locs hp27_3 hP hD hS => ?_)
      obtain ⟨y_tl_427_4, k_o0r27_5⟩ := u27_2
      obtain ⟨hp27_6, hp27_7⟩ := hp27_3
      have hp27_6 : rg y_tl_427_4 1 1000001 := hp27_6
      have hp27_7 : y_tl_427_4.toInt = x_tl_4.toInt + 1 := hp27_7
      have hP : va_P D vwCl [(tl, .inr (10, [.ref tls, .ref o0, .ref p0, .int x_tl_3, .int y_tl_427_4])), (o0, .inr (5, [.ref o0r, .int x_o0_1])), (o0r, .inl (ct 1, 60000, .inl k_o0r27_5))] _ := hP
      have hD : va_D A [(tl, .inr (10, [.ref tls, .ref o0, .ref p0, .int x_tl_3, .int y_tl_427_4])), (o0, .inr (5, [.ref o0r, .int x_o0_1])), (o0r, .inl (ct 1, 60000, .inl k_o0r27_5))] := hD
      exact endq_v hQ hx hb hr hlocks dX10_putNumber_30 (y_tl_427_4, k_o0r27_5) ⟨hp27_6, (show x_tl_4.toInt + 1 ≤ y_tl_427_4.toInt ∧ y_tl_427_4.toInt ≤ x_tl_4.toInt + 2 by have q0 := h_x_tl_4.1; have q1 := h_x_tl_4.2; have q2 := hp27_6.1; have q3 := hp27_6.2; have q4 := hp27_7; omega)⟩ hP hD hS [0, 1, 2] rfl (by decide) rfl (Nat.le_of_ble_eq_true rfl) (Nat.le_of_ble_eq_true rfl)
set_option maxHeartbeats 2000000 in
theorem c_X10_putCut (l : Launch) (D : va_G) (ct : Nat → ClassId) (tl : Nat) (v0 : Int32) (tls : Nat) (o0 : Nat) (p0 : Nat) (x_tl_3 : Int32) (x_tl_4 : Int32) (o0r : Nat) (x_o0_1 : Int32) (g_o0r : Nat → Int32) (h_x_tl_3 : rg x_tl_3 0 1) (h_x_tl_4 : rg x_tl_4 0 999950) (h_x_o0_1 : rg x_o0_1 0 60000) : KV (S := Int32 × (Nat → Int32)) l yX10_putCut cX10_putCut 2 none 3 66 D ct [.ref tl, .int v0] [(tl, .inr (10, [.ref tls, .ref o0, .ref p0, .int x_tl_3, .int x_tl_4])), (o0, .inr (5, [.ref o0r, .int x_o0_1])), (o0r, .inl (ct 1, 60000, .inl g_o0r))] 0 0 (fun (u : Int32 × (Nat → Int32)) => match u with | (y_tl_4, k_o0r) => rg y_tl_4 1 1000001 ∧ (y_tl_4.toInt = x_tl_4.toInt + 2)) (fun (u : Int32 × (Nat → Int32)) => match u with | (y_tl_4, k_o0r) => [(tl, .inr (10, [.ref tls, .ref o0, .ref p0, .int x_tl_3, .int y_tl_4])), (o0, .inr (5, [.ref o0r, .int x_o0_1])), (o0r, .inl (ct 1, 60000, .inl k_o0r))]) := by
  refine KVq_of (by decide) (Nat.le_of_ble_eq_true rfl) (fun p e s m below meth c A Q C0 hA H locs hS hP hD hQ ls hl => ?_)
  obtain ⟨hx, hb, hr, hown, hin, hml, hlocks, hn, hK, hZ, hSK⟩ := C0
  have hl : lv_has ls 2 [(0, .ref tl), (1, .int v0)] := hl
  refine lv_aload_n hx hb dX10_putCut_0 rfl (lv_at hl 0 rfl) ?_
  refine lv_bipush (v := 19) hx hb dX10_putCut_1 (by decide) ?_
  refine lv_iconst (v := 1) hx hb dX10_putCut_3 (by decide) ?_
  refine lv_iload_n hx hb dX10_putCut_4 rfl (lv_at hl 1 rfl) ?_
  refine lv_iload_n hx hb dX10_putCut_5 rfl (lv_at hl 1 rfl) ?_
  refine lv_bipush (v := 32) hx hb dX10_putCut_6 (by decide) ?_
  refine go_v (k1 := 0) (n1 := 0) (wr := []) [0, 1, 2] [] (rn_V (As := [.int 19, .int 1, .int v0, .int v0, .int 32]) (rest := []) (c_X10_putImm l D ct tl (19 : Int32) (1 : Int32) v0 v0 (32 : Int32) tls o0 p0 x_tl_3 x_tl_4 o0r x_o0_1 g_o0r h_x_tl_3 (rg_w h_x_tl_4 (by decide)) h_x_o0_1 _) (cb_of (n := 5) hn mw_1341 mw_10 mw_1338 mhX10_putImm ⟨(Nat.le_of_ble_eq_true rfl), (Nat.le_of_ble_eq_true rfl)⟩) hx hb hml hown hn hK hSK hZ hS mw_1340 mw_s154 (ci := 10) (q0 := 0) rfl rfl rfl rfl hl.1 (Nat.le_of_ble_eq_true rfl) dX10_putCut_8 ⟨(Nat.le_of_ble_eq_true rfl), (Nat.le_of_ble_eq_true rfl)⟩) hP hD hS hA rfl rfl (by decide) (by decide) (by decide) (Nat.le_of_ble_eq_true rfl) (Nat.le_of_ble_eq_true rfl) (fun u8_2 H locs hp8_3 hP hD hS => ?_)
  obtain ⟨y_tl_48_4, k_o0r8_5⟩ := u8_2
  obtain ⟨hp8_6, hp8_7⟩ := hp8_3
  have hp8_6 : rg y_tl_48_4 1 1000001 := hp8_6
  have hp8_7 : y_tl_48_4.toInt = x_tl_4.toInt + 1 := hp8_7
  have hP : va_P D vwCl [(tl, .inr (10, [.ref tls, .ref o0, .ref p0, .int x_tl_3, .int y_tl_48_4])), (o0, .inr (5, [.ref o0r, .int x_o0_1])), (o0r, .inl (ct 1, 60000, .inl k_o0r8_5))] _ := hP
  have hD : va_D A [(tl, .inr (10, [.ref tls, .ref o0, .ref p0, .int x_tl_3, .int y_tl_48_4])), (o0, .inr (5, [.ref o0r, .int x_o0_1])), (o0r, .inl (ct 1, 60000, .inl k_o0r8_5))] := hD
  refine lv_aload_n hx hb dX10_putCut_11 rfl (lv_at hl 0 rfl) ?_
  refine lv_bipush (v := 19) hx hb dX10_putCut_12 (by decide) ?_
  refine lv_iconst (v := 5) hx hb dX10_putCut_14 (by decide) ?_
  refine lv_iload_n hx hb dX10_putCut_15 rfl (lv_at hl 1 rfl) ?_
  refine lv_iload_n hx hb dX10_putCut_16 rfl (lv_at hl 1 rfl) ?_
  refine lv_bipush (v := 32) hx hb dX10_putCut_17 (by decide) ?_
  refine go_v (k1 := 0) (n1 := 0) (wr := []) [0, 1, 2] [] (rn_V (As := [.int 19, .int 5, .int v0, .int v0, .int 32]) (rest := []) (c_X10_putImm l D ct tl (19 : Int32) (5 : Int32) v0 v0 (32 : Int32) tls o0 p0 x_tl_3 y_tl_48_4 o0r x_o0_1 k_o0r8_5 h_x_tl_3 (rg_of (show 0 ≤ y_tl_48_4.toInt ∧ y_tl_48_4.toInt ≤ 999990 by have q0 := hp8_6.1; have q1 := hp8_6.2; have q2 := h_x_tl_4.1; have q3 := h_x_tl_4.2; have q4 := hp8_7; omega)) h_x_o0_1 _) (cb_of (n := 5) hn mw_1341 mw_10 mw_1338 mhX10_putImm ⟨(Nat.le_of_ble_eq_true rfl), (Nat.le_of_ble_eq_true rfl)⟩) hx hb hml hown hn hK hSK hZ hS mw_1340 mw_s154 (ci := 10) (q0 := 0) rfl rfl rfl rfl hl.1 (Nat.le_of_ble_eq_true rfl) dX10_putCut_19 ⟨(Nat.le_of_ble_eq_true rfl), (Nat.le_of_ble_eq_true rfl)⟩) hP hD hS hA rfl rfl (by decide) (by decide) (by decide) (Nat.le_of_ble_eq_true rfl) (Nat.le_of_ble_eq_true rfl) (fun u19_2 H locs hp19_3 hP hD hS => ?_)
  obtain ⟨y_tl_419_4, k_o0r19_5⟩ := u19_2
  obtain ⟨hp19_6, hp19_7⟩ := hp19_3
  have hp19_6 : rg y_tl_419_4 1 1000001 := hp19_6
  have hp19_7 : y_tl_419_4.toInt = y_tl_48_4.toInt + 1 := hp19_7
  have hP : va_P D vwCl [(tl, .inr (10, [.ref tls, .ref o0, .ref p0, .int x_tl_3, .int y_tl_419_4])), (o0, .inr (5, [.ref o0r, .int x_o0_1])), (o0r, .inl (ct 1, 60000, .inl k_o0r19_5))] _ := hP
  have hD : va_D A [(tl, .inr (10, [.ref tls, .ref o0, .ref p0, .int x_tl_3, .int y_tl_419_4])), (o0, .inr (5, [.ref o0r, .int x_o0_1])), (o0r, .inl (ct 1, 60000, .inl k_o0r19_5))] := hD
  exact endq_v hQ hx hb hr hlocks dX10_putCut_22 (y_tl_419_4, k_o0r19_5) ⟨hp19_6, (show y_tl_419_4.toInt = x_tl_4.toInt + 2 by have q0 := h_x_tl_4.1; have q1 := h_x_tl_4.2; have q2 := hp19_6.1; have q3 := hp19_6.2; have q4 := hp8_6.1; have q5 := hp8_6.2; have q6 := hp8_7; have q7 := hp19_7; omega)⟩ hP hD hS [0, 1, 2] rfl (by decide) rfl (Nat.le_of_ble_eq_true rfl) (Nat.le_of_ble_eq_true rfl)
set_option maxHeartbeats 2000000 in
theorem c_X10_putSide (l : Launch) (D : va_G) (ct : Nat → ClassId) (tl : Nat) (v0 : Int64) (tls : Nat) (o0 : Nat) (p0 : Nat) (x_tl_3 : Int32) (x_tl_4 : Int32) (o0r : Nat) (x_o0_1 : Int32) (g_o0r : Nat → Int32) (h_x_tl_3 : rg x_tl_3 0 1) (h_x_tl_4 : rg x_tl_4 0 999900) (h_x_o0_1 : rg x_o0_1 0 60000) : KI (S := Int32 × (Nat → Int32)) l yX10_putSide cX10_putSide 3 (some .int) 3 63 D ct [.ref tl, .long v0] [(tl, .inr (10, [.ref tls, .ref o0, .ref p0, .int x_tl_3, .int x_tl_4])), (o0, .inr (5, [.ref o0r, .int x_o0_1])), (o0r, .inl (ct 1, 60000, .inl g_o0r))] 0 0 (fun (r : Int32) (u : Int32 × (Nat → Int32)) => match u with | (y_tl_4, k_o0r) => rg y_tl_4 0 1000001 ∧ (x_tl_4.toInt + 0 ≤ y_tl_4.toInt ∧ y_tl_4.toInt ≤ x_tl_4.toInt + 2)) (fun (u : Int32 × (Nat → Int32)) => match u with | (y_tl_4, k_o0r) => [(tl, .inr (10, [.ref tls, .ref o0, .ref p0, .int x_tl_3, .int y_tl_4])), (o0, .inr (5, [.ref o0r, .int x_o0_1])), (o0r, .inl (ct 1, 60000, .inl k_o0r))]) := by
  refine KIq_of (by decide) (Nat.le_of_ble_eq_true rfl) (fun p e s m below meth c A Q C0 hA H locs hS hP hD hQ ls hl => ?_)
  obtain ⟨hx, hb, hr, hown, hin, hml, hlocks, hn, hK, hZ, hSK⟩ := C0
  have hl : lv_has ls 3 [(0, .ref tl), (1, .long v0)] := hl
  refine lv_lload_n hx hb dX10_putSide_0 rfl (lv_at hl 1 rfl) ?_
  refine go_i (k1 := 0) (n1 := 0) (wr := [(tl, .inr (10, [.ref tls, .ref o0, .ref p0, .int x_tl_3, .int x_tl_4])), (o0, .inr (5, [.ref o0r, .int x_o0_1])), (o0r, .inl (ct 1, 60000, .inl g_o0r))]) [] [0, 1, 2] (rn_SN (As := [.long v0]) (rest := []) (c_X7_codeOf l D ct v0  _) (cn_of (n := 1) hn mw_956 mw_7 mw_1299 mhX7_codeOf ⟨(Nat.le_of_ble_eq_true rfl), (Nat.le_of_ble_eq_true rfl)⟩) hx hb hml hown hn hK hSK hZ hS mw_955 rfl hl.1 (Nat.le_of_ble_eq_true rfl) dX10_putSide_1 ⟨(Nat.le_of_ble_eq_true rfl), (Nat.le_of_ble_eq_true rfl)⟩) hP hD hS hA rfl rfl (by decide) (by decide) (by decide) (Nat.le_of_ble_eq_true rfl) (Nat.le_of_ble_eq_true rfl) (fun r1_1 u1_2 H locs hp1_3 hP hD hS => ?_)
  obtain ⟨hp1_4, hp1_5⟩ := hp1_3
  have hp1_4 : rg r1_1 0 255 := hp1_4
  have hp1_5 : r1_1.toInt = v0.toInt % 256 := hp1_5
  have hP : va_P D vwCl [(tl, .inr (10, [.ref tls, .ref o0, .ref p0, .int x_tl_3, .int x_tl_4])), (o0, .inr (5, [.ref o0r, .int x_o0_1])), (o0r, .inl (ct 1, 60000, .inl g_o0r))] _ := hP
  have hD : va_D A [(tl, .inr (10, [.ref tls, .ref o0, .ref p0, .int x_tl_3, .int x_tl_4])), (o0, .inr (5, [.ref o0r, .int x_o0_1])), (o0r, .inl (ct 1, 60000, .inl g_o0r))] := hD
  refine go_i (k1 := 0) (n1 := 0) (wr := [(tl, .inr (10, [.ref tls, .ref o0, .ref p0, .int x_tl_3, .int x_tl_4])), (o0, .inr (5, [.ref o0r, .int x_o0_1])), (o0r, .inl (ct 1, 60000, .inl g_o0r))]) [] [0, 1, 2] (rn_SN (As := [.int r1_1]) (rest := []) (c_X7_hasS l D ct r1_1  _) (cn_of (n := 1) hn mw_968 mw_7 mw_1310 mhX7_hasS ⟨(Nat.le_of_ble_eq_true rfl), (Nat.le_of_ble_eq_true rfl)⟩) hx hb hml hown hn hK hSK hZ hS mw_967 rfl hl.1 (Nat.le_of_ble_eq_true rfl) dX10_putSide_4 ⟨(Nat.le_of_ble_eq_true rfl), (Nat.le_of_ble_eq_true rfl)⟩) hP hD hS hA rfl rfl (by decide) (by decide) (by decide) (Nat.le_of_ble_eq_true rfl) (Nat.le_of_ble_eq_true rfl) (fun r4_1 u4_2 H locs hp4_3 hP hD hS => ?_)
  have hp4_4 := hp4_3
  have hp4_4 : rg r4_1 0 1 := hp4_4
  have hP : va_P D vwCl [(tl, .inr (10, [.ref tls, .ref o0, .ref p0, .int x_tl_3, .int x_tl_4])), (o0, .inr (5, [.ref o0r, .int x_o0_1])), (o0r, .inl (ct 1, 60000, .inl g_o0r))] _ := hP
  have hD : va_D A [(tl, .inr (10, [.ref tls, .ref o0, .ref p0, .int x_tl_3, .int x_tl_4])), (o0, .inr (5, [.ref o0r, .int x_o0_1])), (o0r, .inl (ct 1, 60000, .inl g_o0r))] := hD
  refine lv_if_eq (tgt := 18) hx hb dX10_putSide_7 (by decide) (fun c7_1 => ?_) (fun c7_1 => ?_)
  · have t7_2 := (i_eq c7_1)
    have r7_3 : rg r4_1 0 0 := rg_eqA t7_2 hp4_4 (show rg (0 : Int32) 0 0 from rg_l (by decide)) (by decide)
    refine lv_aload_n hx hb dX10_putSide_18 rfl (lv_at hl 0 rfl) ?_
    refine lv_iconst (v := 5) hx hb dX10_putSide_19 (by decide) ?_
    refine lv_lload_n hx hb dX10_putSide_20 rfl (lv_at hl 1 rfl) ?_
    refine go_i (k1 := 0) (n1 := 0) (wr := [(tl, .inr (10, [.ref tls, .ref o0, .ref p0, .int x_tl_3, .int x_tl_4])), (o0, .inr (5, [.ref o0r, .int x_o0_1])), (o0r, .inl (ct 1, 60000, .inl g_o0r))]) [] [0, 1, 2] (rn_SN (As := [.long v0]) (rest := [.int 5, .ref tl]) (c_X7_kOf l D ct v0  _) (cn_of (n := 1) hn mw_995 mw_7 mw_1311 mhX7_kOf ⟨(Nat.le_of_ble_eq_true rfl), (Nat.le_of_ble_eq_true rfl)⟩) hx hb hml hown hn hK hSK hZ hS mw_994 rfl hl.1 (Nat.le_of_ble_eq_true rfl) dX10_putSide_21 ⟨(Nat.le_of_ble_eq_true rfl), (Nat.le_of_ble_eq_true rfl)⟩) hP hD hS hA rfl rfl (by decide) (by decide) (by decide) (Nat.le_of_ble_eq_true rfl) (Nat.le_of_ble_eq_true rfl) (fun r21_1 u21_2 H locs hp21_3 hP hD hS => ?_)
    have hP : va_P D vwCl [(tl, .inr (10, [.ref tls, .ref o0, .ref p0, .int x_tl_3, .int x_tl_4])), (o0, .inr (5, [.ref o0r, .int x_o0_1])), (o0r, .inl (ct 1, 60000, .inl g_o0r))] _ := hP
    have hD : va_D A [(tl, .inr (10, [.ref tls, .ref o0, .ref p0, .int x_tl_3, .int x_tl_4])), (o0, .inr (5, [.ref o0r, .int x_o0_1])), (o0r, .inl (ct 1, 60000, .inl g_o0r))] := hD
    refine go_v (k1 := 0) (n1 := 0) (wr := []) [0, 1, 2] [] (rn_V (As := [.int 5, .int r21_1]) (rest := []) (c_X10_putNumber l D ct tl (5 : Int32) r21_1 tls o0 p0 x_tl_3 x_tl_4 o0r x_o0_1 g_o0r h_x_tl_3 (rg_w h_x_tl_4 (by decide)) h_x_o0_1 _) (cb_of (n := 2) hn mw_1315 mw_10 mw_1312 mhX10_putNumber ⟨(Nat.le_of_ble_eq_true rfl), (Nat.le_of_ble_eq_true rfl)⟩) hx hb hml hown hn hK hSK hZ hS mw_1314 mw_s148 (ci := 10) (q0 := 0) rfl rfl rfl rfl hl.1 (Nat.le_of_ble_eq_true rfl) dX10_putSide_24 ⟨(Nat.le_of_ble_eq_true rfl), (Nat.le_of_ble_eq_true rfl)⟩) hP hD hS hA rfl rfl (by decide) (by decide) (by decide) (Nat.le_of_ble_eq_true rfl) (Nat.le_of_ble_eq_true rfl) (fun u24_2 H locs hp24_3 hP hD hS => ?_)
    obtain ⟨y_tl_424_4, k_o0r24_5⟩ := u24_2
    obtain ⟨hp24_6, hp24_7⟩ := hp24_3
    have hp24_6 : rg y_tl_424_4 1 1000001 := hp24_6
    have hp24_7 : x_tl_4.toInt + 1 ≤ y_tl_424_4.toInt ∧ y_tl_424_4.toInt ≤ x_tl_4.toInt + 2 := hp24_7
    have hP : va_P D vwCl [(tl, .inr (10, [.ref tls, .ref o0, .ref p0, .int x_tl_3, .int y_tl_424_4])), (o0, .inr (5, [.ref o0r, .int x_o0_1])), (o0r, .inl (ct 1, 60000, .inl k_o0r24_5))] _ := hP
    have hD : va_D A [(tl, .inr (10, [.ref tls, .ref o0, .ref p0, .int x_tl_3, .int y_tl_424_4])), (o0, .inr (5, [.ref o0r, .int x_o0_1])), (o0r, .inl (ct 1, 60000, .inl k_o0r24_5))] := hD
    refine lv_iconst (v := 5) hx hb dX10_putSide_27 (by decide) ?_
    exact endq_i hQ hx hb hr hlocks dX10_putSide_28 rfl (y_tl_424_4, k_o0r24_5) ⟨(rg_w hp24_6 (by decide)), (show x_tl_4.toInt + 0 ≤ y_tl_424_4.toInt ∧ y_tl_424_4.toInt ≤ x_tl_4.toInt + 2 by have q0 := h_x_tl_4.1; have q1 := h_x_tl_4.2; have q2 := hp24_6.1; have q3 := hp24_6.2; have q4 := hp24_7; omega)⟩ hP hD hS [0, 1, 2] rfl (by decide) rfl (Nat.le_of_ble_eq_true rfl) (Nat.le_of_ble_eq_true rfl)
  · have t7_2 := (i_ne c7_1)
    have r7_3 : rg r4_1 1 1 := rg_neAl t7_2 hp4_4 (show rg (0 : Int32) 0 0 from rg_l (by decide)) (by decide)
    refine lv_lload_n hx hb dX10_putSide_10 rfl (lv_at hl 1 rfl) ?_
    refine go_i (k1 := 0) (n1 := 0) (wr := [(tl, .inr (10, [.ref tls, .ref o0, .ref p0, .int x_tl_3, .int x_tl_4])), (o0, .inr (5, [.ref o0r, .int x_o0_1])), (o0r, .inl (ct 1, 60000, .inl g_o0r))]) [] [0, 1, 2] (rn_SN (As := [.long v0]) (rest := []) (c_X7_sOf l D ct v0  _) (cn_of (n := 1) hn mw_989 mw_7 mw_1321 mhX7_sOf ⟨(Nat.le_of_ble_eq_true rfl), (Nat.le_of_ble_eq_true rfl)⟩) hx hb hml hown hn hK hSK hZ hS mw_988 rfl hl.1 (Nat.le_of_ble_eq_true rfl) dX10_putSide_11 ⟨(Nat.le_of_ble_eq_true rfl), (Nat.le_of_ble_eq_true rfl)⟩) hP hD hS hA rfl rfl (by decide) (by decide) (by decide) (Nat.le_of_ble_eq_true rfl) (Nat.le_of_ble_eq_true rfl) (fun r11_1 u11_2 H locs hp11_3 hP hD hS => ?_)
    obtain ⟨hp11_4, hp11_5⟩ := hp11_3
    have hp11_4 : rg r11_1 0 15 := hp11_4
    have hp11_5 : r11_1.toInt = (v0.toInt / 4096) % 16 := hp11_5
    have hP : va_P D vwCl [(tl, .inr (10, [.ref tls, .ref o0, .ref p0, .int x_tl_3, .int x_tl_4])), (o0, .inr (5, [.ref o0r, .int x_o0_1])), (o0r, .inl (ct 1, 60000, .inl g_o0r))] _ := hP
    have hD : va_D A [(tl, .inr (10, [.ref tls, .ref o0, .ref p0, .int x_tl_3, .int x_tl_4])), (o0, .inr (5, [.ref o0r, .int x_o0_1])), (o0r, .inl (ct 1, 60000, .inl g_o0r))] := hD
    refine go_i (k1 := 0) (n1 := 0) (wr := [(tl, .inr (10, [.ref tls, .ref o0, .ref p0, .int x_tl_3, .int x_tl_4])), (o0, .inr (5, [.ref o0r, .int x_o0_1])), (o0r, .inl (ct 1, 60000, .inl g_o0r))]) [] [0, 1, 2] (rn_S (As := [.int r11_1]) (rest := []) (c_X10_placeOf l D ct r11_1  _) (cb_of (n := 1) hn mw_1308 mw_10 mw_1306 mhX10_placeOf ⟨(Nat.le_of_ble_eq_true rfl), (Nat.le_of_ble_eq_true rfl)⟩) hx hb hml hown hn hK hSK hZ hS mw_1307 rfl hl.1 (Nat.le_of_ble_eq_true rfl) dX10_putSide_14 ⟨(Nat.le_of_ble_eq_true rfl), (Nat.le_of_ble_eq_true rfl)⟩) hP hD hS hA rfl rfl (by decide) (by decide) (by decide) (Nat.le_of_ble_eq_true rfl) (Nat.le_of_ble_eq_true rfl) (fun r14_1 u14_2 H locs hp14_3 hP hD hS => ?_)
    have hP : va_P D vwCl [(tl, .inr (10, [.ref tls, .ref o0, .ref p0, .int x_tl_3, .int x_tl_4])), (o0, .inr (5, [.ref o0r, .int x_o0_1])), (o0r, .inl (ct 1, 60000, .inl g_o0r))] _ := hP
    have hD : va_D A [(tl, .inr (10, [.ref tls, .ref o0, .ref p0, .int x_tl_3, .int x_tl_4])), (o0, .inr (5, [.ref o0r, .int x_o0_1])), (o0r, .inl (ct 1, 60000, .inl g_o0r))] := hD
    exact endq_i hQ hx hb hr hlocks dX10_putSide_17 rfl (x_tl_4, g_o0r) ⟨(rg_w h_x_tl_4 (by decide)), (show x_tl_4.toInt + 0 ≤ x_tl_4.toInt ∧ x_tl_4.toInt ≤ x_tl_4.toInt + 2 by have q0 := h_x_tl_4.1; have q1 := h_x_tl_4.2; omega)⟩ hP hD hS [0, 1, 2] rfl (by decide) rfl (Nat.le_of_ble_eq_true rfl) (Nat.le_of_ble_eq_true rfl)
set_option maxHeartbeats 2000000 in
theorem c_X10_turnDivision (l : Launch) (D : va_G) (ct : Nat → ClassId) (tl : Nat) (v0 : Int32) (v1 : Int32) (v2 : Int32) (tls : Nat) (o0 : Nat) (p0 : Nat) (x_tl_3 : Int32) (x_tl_4 : Int32) (o0r : Nat) (x_o0_1 : Int32) (g_o0r : Nat → Int32) (h_v0 : rg v0 0 1) (h_x_tl_3 : rg x_tl_3 0 1) (h_x_tl_4 : rg x_tl_4 0 999900) (h_x_o0_1 : rg x_o0_1 0 60000) : KV (S := Int32 × (Nat → Int32)) l yX10_turnDivision cX10_turnDivision 5 none 3 67 D ct [.ref tl, .int v0, .int v1, .int v2] [(tl, .inr (10, [.ref tls, .ref o0, .ref p0, .int x_tl_3, .int x_tl_4])), (o0, .inr (5, [.ref o0r, .int x_o0_1])), (o0r, .inl (ct 1, 60000, .inl g_o0r))] 0 0 (fun (u : Int32 × (Nat → Int32)) => match u with | (y_tl_4, k_o0r) => rg y_tl_4 1 1000001 ∧ (x_tl_4.toInt + 4 ≤ y_tl_4.toInt ∧ y_tl_4.toInt ≤ x_tl_4.toInt + 5)) (fun (u : Int32 × (Nat → Int32)) => match u with | (y_tl_4, k_o0r) => [(tl, .inr (10, [.ref tls, .ref o0, .ref p0, .int x_tl_3, .int y_tl_4])), (o0, .inr (5, [.ref o0r, .int x_o0_1])), (o0r, .inl (ct 1, 60000, .inl k_o0r))]) := by
  refine KVq_of (by decide) (Nat.le_of_ble_eq_true rfl) (fun p e s m below meth c A Q C0 hA H locs hS hP hD hQ ls hl => ?_)
  obtain ⟨hx, hb, hr, hown, hin, hml, hlocks, hn, hK, hZ, hSK⟩ := C0
  have hl : lv_has ls 5 [(0, .ref tl), (1, .int v0), (2, .int v1), (3, .int v2)] := hl
  refine lv_iload_n hx hb dX10_turnDivision_0 rfl (lv_at hl 3 rfl) ?_
  refine lv_istore (lv' := [(4, .int v2), (0, .ref tl), (1, .int v0), (2, .int v1), (3, .int v2)]) hx hb dX10_turnDivision_1 hl (by decide) rfl (fun ls hl => ?_)
  refine lv_iload_n hx hb dX10_turnDivision_3 rfl (lv_at hl 2 rfl) ?_
  have b22 : ∀ (j22_l4 : Int32) (j22_ftl_4 : Int32) (j22_co0r : Nat → Int32) (H : Heap) (locs : List Loc) (ls : Array Slot), (rg j22_ftl_4 0 1000001) → (x_tl_4.toInt ≤ j22_ftl_4.toInt ∧ j22_ftl_4.toInt ≤ x_tl_4.toInt + 1) → lv_has ls 5 [(0, .ref tl), (1, .int v0), (2, .int v1), (4, .int j22_l4)] → va_P D vwCl [(tl, .inr (10, [.ref tls, .ref o0, .ref p0, .int x_tl_3, .int j22_ftl_4])), (o0, .inr (5, [.ref o0r, .int x_o0_1])), (o0r, .inl (ct 1, 60000, .inl j22_co0r))] H → va_D A [(tl, .inr (10, [.ref tls, .ref o0, .ref p0, .int x_tl_3, .int j22_ftl_4])), (o0, .inr (5, [.ref o0r, .int x_o0_1])), (o0r, .inl (ct 1, 60000, .inl j22_co0r))] → va_S A s.heap H locs → W p l e ({ frames := 3, cells := 0, slots := 0, locals := 67 }) s m [.ref tl, .int v0, .int v1, .int v2].toArray below meth c H locs 0 0 Q (F0 m 22 ls []) := by
    intro j22_l4 j22_ftl_4 j22_co0r H locs ls r22_1001 ho22_1002 hl hP hD hS
    refine lv_aload_n hx hb dX10_turnDivision_22 rfl (lv_at hl 0 rfl) ?_
    refine lv_iconst (v := 0) hx hb dX10_turnDivision_23 (by decide) ?_
    refine lv_iload hx hb dX10_turnDivision_24 (lv_at hl 3 rfl) ?_
    refine lv_iconst (v := 0) hx hb dX10_turnDivision_26 (by decide) ?_
    refine lv_bipush (v := 12) hx hb dX10_turnDivision_27 (by decide) ?_
    refine go_v (k1 := 0) (n1 := 0) (wr := []) [0, 1, 2] [] (rn_V (As := [.int 0, .int j22_l4, .int 0, .int 12]) (rest := []) (c_X10_putBranch l D ct tl (0 : Int32) j22_l4 (0 : Int32) (12 : Int32) tls o0 p0 x_tl_3 j22_ftl_4 o0r x_o0_1 j22_co0r h_x_tl_3 (rg_of (show 0 ≤ j22_ftl_4.toInt ∧ j22_ftl_4.toInt ≤ 999990 by have q0 := r22_1001.1; have q1 := r22_1001.2; have q2 := h_x_tl_4.1; have q3 := h_x_tl_4.2; have q4 := ho22_1002; omega)) h_x_o0_1 _) (cb_of (n := 4) hn mw_1345 mw_10 mw_1342 mhX10_putBranch ⟨(Nat.le_of_ble_eq_true rfl), (Nat.le_of_ble_eq_true rfl)⟩) hx hb hml hown hn hK hSK hZ hS mw_1344 mw_s155 (ci := 10) (q0 := 0) rfl rfl rfl rfl hl.1 (Nat.le_of_ble_eq_true rfl) dX10_turnDivision_29 ⟨(Nat.le_of_ble_eq_true rfl), (Nat.le_of_ble_eq_true rfl)⟩) hP hD hS hA rfl rfl (by decide) (by decide) (by decide) (Nat.le_of_ble_eq_true rfl) (Nat.le_of_ble_eq_true rfl) (fun u29_2 H locs hp29_3 hP hD hS => ?_)
    obtain ⟨y_tl_429_4, k_o0r29_5⟩ := u29_2
    obtain ⟨hp29_6, hp29_7⟩ := hp29_3
    have hp29_6 : rg y_tl_429_4 1 1000001 := hp29_6
    have hp29_7 : y_tl_429_4.toInt = j22_ftl_4.toInt + 1 := hp29_7
    have hP : va_P D vwCl [(tl, .inr (10, [.ref tls, .ref o0, .ref p0, .int x_tl_3, .int y_tl_429_4])), (o0, .inr (5, [.ref o0r, .int x_o0_1])), (o0r, .inl (ct 1, 60000, .inl k_o0r29_5))] _ := hP
    have hD : va_D A [(tl, .inr (10, [.ref tls, .ref o0, .ref p0, .int x_tl_3, .int y_tl_429_4])), (o0, .inr (5, [.ref o0r, .int x_o0_1])), (o0r, .inl (ct 1, 60000, .inl k_o0r29_5))] := hD
    refine lv_aload_n hx hb dX10_turnDivision_32 rfl (lv_at hl 0 rfl) ?_
    refine lv_iload_n hx hb dX10_turnDivision_33 rfl (lv_at hl 1 rfl) ?_
    have b44 : ∀ (j44_s0 : Int32) (H : Heap) (locs : List Loc) (ls : Array Slot), (rg j44_s0 51 59) → lv_has ls 5 [(0, .ref tl), (2, .int v1), (4, .int j22_l4)] → va_P D vwCl [(tl, .inr (10, [.ref tls, .ref o0, .ref p0, .int x_tl_3, .int y_tl_429_4])), (o0, .inr (5, [.ref o0r, .int x_o0_1])), (o0r, .inl (ct 1, 60000, .inl k_o0r29_5))] H → va_D A [(tl, .inr (10, [.ref tls, .ref o0, .ref p0, .int x_tl_3, .int y_tl_429_4])), (o0, .inr (5, [.ref o0r, .int x_o0_1])), (o0r, .inl (ct 1, 60000, .inl k_o0r29_5))] → va_S A s.heap H locs → W p l e ({ frames := 3, cells := 0, slots := 0, locals := 67 }) s m [.ref tl, .int v0, .int v1, .int v2].toArray below meth c H locs 0 0 Q (F0 m 44 ls [.int j44_s0, .ref tl]) := by
      intro j44_s0 H locs ls r44_1001 hl hP hD hS
      refine lv_iconst (v := 1) hx hb dX10_turnDivision_44 (by decide) ?_
      refine lv_iconst (v := 5) hx hb dX10_turnDivision_45 (by decide) ?_
      refine lv_iload_n hx hb dX10_turnDivision_46 rfl (lv_at hl 1 rfl) ?_
      refine lv_iload_n hx hb dX10_turnDivision_47 rfl (lv_at hl 1 rfl) ?_
      refine lv_iload hx hb dX10_turnDivision_48 (lv_at hl 2 rfl) ?_
      refine go_v (k1 := 0) (n1 := 0) (wr := []) [0, 1, 2] [] (rn_V (As := [.int j44_s0, .int 1, .int 5, .int v1, .int v1, .int j22_l4]) (rest := []) (c_X10_putOp l D ct tl j44_s0 (1 : Int32) (5 : Int32) v1 v1 j22_l4 tls o0 p0 x_tl_3 y_tl_429_4 o0r x_o0_1 k_o0r29_5 h_x_tl_3 (rg_of (show 0 ≤ y_tl_429_4.toInt ∧ y_tl_429_4.toInt ≤ 999990 by have q0 := hp29_6.1; have q1 := hp29_6.2; have q2 := r22_1001.1; have q3 := r22_1001.2; have q4 := h_x_tl_4.1; have q5 := h_x_tl_4.2; have q6 := ho22_1002; have q7 := hp29_7; omega)) h_x_o0_1 _) (cb_of (n := 6) hn mw_1329 mw_10 mw_1326 mhX10_putOp ⟨(Nat.le_of_ble_eq_true rfl), (Nat.le_of_ble_eq_true rfl)⟩) hx hb hml hown hn hK hSK hZ hS mw_1328 mw_s151 (ci := 10) (q0 := 0) rfl rfl rfl rfl hl.1 (Nat.le_of_ble_eq_true rfl) dX10_turnDivision_50 ⟨(Nat.le_of_ble_eq_true rfl), (Nat.le_of_ble_eq_true rfl)⟩) hP hD hS hA rfl rfl (by decide) (by decide) (by decide) (Nat.le_of_ble_eq_true rfl) (Nat.le_of_ble_eq_true rfl) (fun u50_2 H locs hp50_3 hP hD hS => ?_)
      obtain ⟨y_tl_450_4, k_o0r50_5⟩ := u50_2
      obtain ⟨hp50_6, hp50_7⟩ := hp50_3
      have hp50_6 : rg y_tl_450_4 1 1000001 := hp50_6
      have hp50_7 : y_tl_450_4.toInt = y_tl_429_4.toInt + 1 := hp50_7
      have hP : va_P D vwCl [(tl, .inr (10, [.ref tls, .ref o0, .ref p0, .int x_tl_3, .int y_tl_450_4])), (o0, .inr (5, [.ref o0r, .int x_o0_1])), (o0r, .inl (ct 1, 60000, .inl k_o0r50_5))] _ := hP
      have hD : va_D A [(tl, .inr (10, [.ref tls, .ref o0, .ref p0, .int x_tl_3, .int y_tl_450_4])), (o0, .inr (5, [.ref o0r, .int x_o0_1])), (o0r, .inl (ct 1, 60000, .inl k_o0r50_5))] := hD
      refine lv_aload_n hx hb dX10_turnDivision_53 rfl (lv_at hl 0 rfl) ?_
      refine lv_bipush (v := 8) hx hb dX10_turnDivision_54 (by decide) ?_
      refine go_v (k1 := 0) (n1 := 0) (wr := []) [0, 1, 2] [] (rn_V (As := [.int 8]) (rest := []) (c_X10_putGoing l D ct tl (8 : Int32) tls o0 p0 x_tl_3 y_tl_450_4 o0r x_o0_1 k_o0r50_5 h_x_tl_3 (rg_of (show 0 ≤ y_tl_450_4.toInt ∧ y_tl_450_4.toInt ≤ 999990 by have q0 := hp50_6.1; have q1 := hp50_6.2; have q2 := hp29_6.1; have q3 := hp29_6.2; have q4 := r22_1001.1; have q5 := r22_1001.2; have q6 := h_x_tl_4.1; have q7 := h_x_tl_4.2; have q8 := ho22_1002; have q9 := hp29_7; have q10 := hp50_7; omega)) h_x_o0_1 _) (cb_of (n := 1) hn mw_1349 mw_10 mw_1346 mhX10_putGoing ⟨(Nat.le_of_ble_eq_true rfl), (Nat.le_of_ble_eq_true rfl)⟩) hx hb hml hown hn hK hSK hZ hS mw_1348 mw_s156 (ci := 10) (q0 := 0) rfl rfl rfl rfl hl.1 (Nat.le_of_ble_eq_true rfl) dX10_turnDivision_56 ⟨(Nat.le_of_ble_eq_true rfl), (Nat.le_of_ble_eq_true rfl)⟩) hP hD hS hA rfl rfl (by decide) (by decide) (by decide) (Nat.le_of_ble_eq_true rfl) (Nat.le_of_ble_eq_true rfl) (fun u56_2 H locs hp56_3 hP hD hS => ?_)
      obtain ⟨y_tl_456_4, k_o0r56_5⟩ := u56_2
      obtain ⟨hp56_6, hp56_7⟩ := hp56_3
      have hp56_6 : rg y_tl_456_4 1 1000001 := hp56_6
      have hp56_7 : y_tl_456_4.toInt = y_tl_450_4.toInt + 1 := hp56_7
      have hP : va_P D vwCl [(tl, .inr (10, [.ref tls, .ref o0, .ref p0, .int x_tl_3, .int y_tl_456_4])), (o0, .inr (5, [.ref o0r, .int x_o0_1])), (o0r, .inl (ct 1, 60000, .inl k_o0r56_5))] _ := hP
      have hD : va_D A [(tl, .inr (10, [.ref tls, .ref o0, .ref p0, .int x_tl_3, .int y_tl_456_4])), (o0, .inr (5, [.ref o0r, .int x_o0_1])), (o0r, .inl (ct 1, 60000, .inl k_o0r56_5))] := hD
      refine lv_aload_n hx hb dX10_turnDivision_59 rfl (lv_at hl 0 rfl) ?_
      refine lv_iload_n hx hb dX10_turnDivision_60 rfl (lv_at hl 1 rfl) ?_
      refine lv_iconst (v := 0) hx hb dX10_turnDivision_61 (by decide) ?_
      refine lv_iconst (v := 0) hx hb dX10_turnDivision_62 (by decide) ?_
      refine go_v (k1 := 0) (n1 := 0) (wr := []) [0, 1, 2] [] (rn_V (As := [.int v1, .int 0, .int 0]) (rest := []) (c_X10_putAdd l D ct tl v1 (0 : Int32) (0 : Int32) tls o0 p0 x_tl_3 y_tl_456_4 o0r x_o0_1 k_o0r56_5 h_x_tl_3 (rg_of (show 0 ≤ y_tl_456_4.toInt ∧ y_tl_456_4.toInt ≤ 999990 by have q0 := hp56_6.1; have q1 := hp56_6.2; have q2 := hp50_6.1; have q3 := hp50_6.2; have q4 := hp29_6.1; have q5 := hp29_6.2; have q6 := r22_1001.1; have q7 := r22_1001.2; have q8 := h_x_tl_4.1; have q9 := h_x_tl_4.2; have q10 := ho22_1002; have q11 := hp29_7; have q12 := hp50_7; have q13 := hp56_7; omega)) h_x_o0_1 _) (cb_of (n := 3) hn mw_1325 mw_10 mw_1322 mhX10_putAdd ⟨(Nat.le_of_ble_eq_true rfl), (Nat.le_of_ble_eq_true rfl)⟩) hx hb hml hown hn hK hSK hZ hS mw_1324 mw_s150 (ci := 10) (q0 := 0) rfl rfl rfl rfl hl.1 (Nat.le_of_ble_eq_true rfl) dX10_turnDivision_63 ⟨(Nat.le_of_ble_eq_true rfl), (Nat.le_of_ble_eq_true rfl)⟩) hP hD hS hA rfl rfl (by decide) (by decide) (by decide) (Nat.le_of_ble_eq_true rfl) (Nat.le_of_ble_eq_true rfl) (fun u63_2 H locs hp63_3 hP hD hS => ?_)
      obtain ⟨y_tl_463_4, k_o0r63_5⟩ := u63_2
      obtain ⟨hp63_6, hp63_7⟩ := hp63_3
      have hp63_6 : rg y_tl_463_4 1 1000001 := hp63_6
      have hp63_7 : y_tl_463_4.toInt = y_tl_456_4.toInt + 1 := hp63_7
      have hP : va_P D vwCl [(tl, .inr (10, [.ref tls, .ref o0, .ref p0, .int x_tl_3, .int y_tl_463_4])), (o0, .inr (5, [.ref o0r, .int x_o0_1])), (o0r, .inl (ct 1, 60000, .inl k_o0r63_5))] _ := hP
      have hD : va_D A [(tl, .inr (10, [.ref tls, .ref o0, .ref p0, .int x_tl_3, .int y_tl_463_4])), (o0, .inr (5, [.ref o0r, .int x_o0_1])), (o0r, .inl (ct 1, 60000, .inl k_o0r63_5))] := hD
      exact endq_v hQ hx hb hr hlocks dX10_turnDivision_66 (y_tl_463_4, k_o0r63_5) ⟨hp63_6, (show x_tl_4.toInt + 4 ≤ y_tl_463_4.toInt ∧ y_tl_463_4.toInt ≤ x_tl_4.toInt + 5 by have q0 := h_x_tl_4.1; have q1 := h_x_tl_4.2; have q2 := hp63_6.1; have q3 := hp63_6.2; have q4 := r22_1001.1; have q5 := r22_1001.2; have q6 := hp56_6.1; have q7 := hp56_6.2; have q8 := hp29_6.1; have q9 := hp29_6.2; have q10 := hp50_6.1; have q11 := hp50_6.2; have q12 := ho22_1002; have q13 := hp29_7; have q14 := hp50_7; have q15 := hp56_7; have q16 := hp63_7; omega)⟩ hP hD hS [0, 1, 2] rfl (by decide) rfl (Nat.le_of_ble_eq_true rfl) (Nat.le_of_ble_eq_true rfl)
    refine lv_if_eq (tgt := 42) hx hb dX10_turnDivision_34 (by decide) (fun c34_1 => ?_) (fun c34_1 => ?_)
    · have t34_2 := (i_eq c34_1)
      have r34_3 : rg v0 0 0 := rg_eqA t34_2 h_v0 (show rg (0 : Int32) 0 0 from rg_l (by decide)) (by decide)
      refine lv_bipush (v := 59) hx hb dX10_turnDivision_42 (by decide) ?_
      exact b44 (59 : Int32) H locs ls (rg_w (show rg (59 : Int32) 59 59 from rg_l (by decide)) (by decide)) (lv_sub hl [0, 2, 3] rfl) hP hD hS
    · have t34_2 := (i_ne c34_1)
      have r34_3 : rg v0 1 1 := rg_neAl t34_2 h_v0 (show rg (0 : Int32) 0 0 from rg_l (by decide)) (by decide)
      refine lv_bipush (v := 51) hx hb dX10_turnDivision_37 (by decide) ?_
      refine lv_goto (tgt := 44) hx hb dX10_turnDivision_39 (by decide) ?_
      exact b44 (51 : Int32) H locs ls (rg_w (show rg (51 : Int32) 51 51 from rg_l (by decide)) (by decide)) (lv_sub hl [0, 2, 3] rfl) hP hD hS
  refine lv_if_ne (tgt := 22) hx hb dX10_turnDivision_4 (by decide) (fun c4_1 => ?_) (fun c4_1 => ?_)
  · have t4_2 := (i_ne c4_1)
    have r4_3 : rg v0 1 1 := rg_neAl t4_2 h_v0 (show rg (0 : Int32) 0 0 from rg_l (by decide)) (by decide)
    exact b22 v2 x_tl_4 g_o0r H locs ls (rg_w h_x_tl_4 (by decide)) (show x_tl_4.toInt ≤ x_tl_4.toInt ∧ x_tl_4.toInt ≤ x_tl_4.toInt + 1 by have q0 := h_x_tl_4.1; have q1 := h_x_tl_4.2; omega) (lv_sub hl [1, 2, 3, 0] rfl) hP hD hS
  · have t4_2 := (i_eq c4_1)
    have r4_3 : rg v0 0 0 := rg_eqA t4_2 h_v0 (show rg (0 : Int32) 0 0 from rg_l (by decide)) (by decide)
    refine lv_aload_n hx hb dX10_turnDivision_7 rfl (lv_at hl 1 rfl) ?_
    refine lv_bipush (v := 27) hx hb dX10_turnDivision_8 (by decide) ?_
    refine lv_iconst (v := 0) hx hb dX10_turnDivision_10 (by decide) ?_
    refine lv_bipush (v := 6) hx hb dX10_turnDivision_11 (by decide) ?_
    refine lv_iload_n hx hb dX10_turnDivision_13 rfl (lv_at hl 4 rfl) ?_
    refine lv_iconst (v := 0) hx hb dX10_turnDivision_14 (by decide) ?_
    refine go_v (k1 := 0) (n1 := 0) (wr := []) [0, 1, 2] [] (rn_V (As := [.int 27, .int 0, .int 6, .int v2, .int 0]) (rest := []) (c_X10_putImm l D ct tl (27 : Int32) (0 : Int32) (6 : Int32) v2 (0 : Int32) tls o0 p0 x_tl_3 x_tl_4 o0r x_o0_1 g_o0r h_x_tl_3 (rg_w h_x_tl_4 (by decide)) h_x_o0_1 _) (cb_of (n := 5) hn mw_1341 mw_10 mw_1338 mhX10_putImm ⟨(Nat.le_of_ble_eq_true rfl), (Nat.le_of_ble_eq_true rfl)⟩) hx hb hml hown hn hK hSK hZ hS mw_1340 mw_s154 (ci := 10) (q0 := 0) rfl rfl rfl rfl hl.1 (Nat.le_of_ble_eq_true rfl) dX10_turnDivision_15 ⟨(Nat.le_of_ble_eq_true rfl), (Nat.le_of_ble_eq_true rfl)⟩) hP hD hS hA rfl rfl (by decide) (by decide) (by decide) (Nat.le_of_ble_eq_true rfl) (Nat.le_of_ble_eq_true rfl) (fun u15_2 H locs hp15_3 hP hD hS => ?_)
    obtain ⟨y_tl_415_4, k_o0r15_5⟩ := u15_2
    obtain ⟨hp15_6, hp15_7⟩ := hp15_3
    have hp15_6 : rg y_tl_415_4 1 1000001 := hp15_6
    have hp15_7 : y_tl_415_4.toInt = x_tl_4.toInt + 1 := hp15_7
    have hP : va_P D vwCl [(tl, .inr (10, [.ref tls, .ref o0, .ref p0, .int x_tl_3, .int y_tl_415_4])), (o0, .inr (5, [.ref o0r, .int x_o0_1])), (o0r, .inl (ct 1, 60000, .inl k_o0r15_5))] _ := hP
    have hD : va_D A [(tl, .inr (10, [.ref tls, .ref o0, .ref p0, .int x_tl_3, .int y_tl_415_4])), (o0, .inr (5, [.ref o0r, .int x_o0_1])), (o0r, .inl (ct 1, 60000, .inl k_o0r15_5))] := hD
    refine lv_bipush (v := 6) hx hb dX10_turnDivision_18 (by decide) ?_
    refine lv_istore (lv' := [(4, .int 6), (0, .ref tl), (1, .int v0), (2, .int v1), (3, .int v2)]) hx hb dX10_turnDivision_20 hl (by decide) rfl (fun ls hl => ?_)
    exact b22 (6 : Int32) y_tl_415_4 k_o0r15_5 H locs ls (rg_w hp15_6 (by decide)) (show x_tl_4.toInt ≤ y_tl_415_4.toInt ∧ y_tl_415_4.toInt ≤ x_tl_4.toInt + 1 by have q0 := h_x_tl_4.1; have q1 := h_x_tl_4.2; have q2 := hp15_6.1; have q3 := hp15_6.2; have q4 := hp15_7; omega) (lv_sub hl [1, 2, 3, 0] rfl) hP hD hS
set_option maxHeartbeats 2000000 in
theorem c_X10_turnOp (l : Launch) (D : va_G) (ct : Nat → ClassId) (tl : Nat) (v0 : Int64) (tls : Nat) (o0 : Nat) (p0 : Nat) (x_tl_3 : Int32) (x_tl_4 : Int32) (o0r : Nat) (x_o0_1 : Int32) (g_o0r : Nat → Int32) (h_x_tl_3 : rg x_tl_3 0 1) (h_x_tl_4 : rg x_tl_4 0 999800) (h_x_o0_1 : rg x_o0_1 0 60000) (hq0 : v0.toInt % 256 ≤ 207) : KV (S := Int32 × (Nat → Int32)) l yX10_turnOp cX10_turnOp 9 none 4 91 D ct [.ref tl, .long v0] [(tl, .inr (10, [.ref tls, .ref o0, .ref p0, .int x_tl_3, .int x_tl_4])), (o0, .inr (5, [.ref o0r, .int x_o0_1])), (o0r, .inl (ct 1, 60000, .inl g_o0r))] 0 0 (fun (u : Int32 × (Nat → Int32)) => match u with | (y_tl_4, k_o0r) => rg y_tl_4 1 1000001 ∧ (x_tl_4.toInt + 1 ≤ y_tl_4.toInt ∧ y_tl_4.toInt ≤ x_tl_4.toInt + 9)) (fun (u : Int32 × (Nat → Int32)) => match u with | (y_tl_4, k_o0r) => [(tl, .inr (10, [.ref tls, .ref o0, .ref p0, .int x_tl_3, .int y_tl_4])), (o0, .inr (5, [.ref o0r, .int x_o0_1])), (o0r, .inl (ct 1, 60000, .inl k_o0r))]) := by
  refine KVq_of (by decide) (Nat.le_of_ble_eq_true rfl) (fun p e s m below meth c A Q C0 hA H locs hS hP hD hQ ls hl => ?_)
  obtain ⟨hx, hb, hr, hown, hin, hml, hlocks, hn, hK, hZ, hSK⟩ := C0
  have hl : lv_has ls 9 [(0, .ref tl), (1, .long v0)] := hl
  refine lv_lload_n hx hb dX10_turnOp_0 rfl (lv_at hl 1 rfl) ?_
  refine go_i (k1 := 0) (n1 := 0) (wr := [(tl, .inr (10, [.ref tls, .ref o0, .ref p0, .int x_tl_3, .int x_tl_4])), (o0, .inr (5, [.ref o0r, .int x_o0_1])), (o0r, .inl (ct 1, 60000, .inl g_o0r))]) [] [0, 1, 2] (rn_SN (As := [.long v0]) (rest := []) (c_X7_codeOf l D ct v0  _) (cn_of (n := 1) hn mw_956 mw_7 mw_1299 mhX7_codeOf ⟨(Nat.le_of_ble_eq_true rfl), (Nat.le_of_ble_eq_true rfl)⟩) hx hb hml hown hn hK hSK hZ hS mw_955 rfl hl.1 (Nat.le_of_ble_eq_true rfl) dX10_turnOp_1 ⟨(Nat.le_of_ble_eq_true rfl), (Nat.le_of_ble_eq_true rfl)⟩) hP hD hS hA rfl rfl (by decide) (by decide) (by decide) (Nat.le_of_ble_eq_true rfl) (Nat.le_of_ble_eq_true rfl) (fun r1_1 u1_2 H locs hp1_3 hP hD hS => ?_)
  obtain ⟨hp1_4, hp1_5⟩ := hp1_3
  have hp1_4 : rg r1_1 0 255 := hp1_4
  have hp1_5 : r1_1.toInt = v0.toInt % 256 := hp1_5
  have hP : va_P D vwCl [(tl, .inr (10, [.ref tls, .ref o0, .ref p0, .int x_tl_3, .int x_tl_4])), (o0, .inr (5, [.ref o0r, .int x_o0_1])), (o0r, .inl (ct 1, 60000, .inl g_o0r))] _ := hP
  have hD : va_D A [(tl, .inr (10, [.ref tls, .ref o0, .ref p0, .int x_tl_3, .int x_tl_4])), (o0, .inr (5, [.ref o0r, .int x_o0_1])), (o0r, .inl (ct 1, 60000, .inl g_o0r))] := hD
  refine lv_istore_n (lv' := [(3, .int r1_1), (0, .ref tl), (1, .long v0)]) hx hb dX10_turnOp_4 rfl hl (by decide) rfl (fun ls hl => ?_)
  refine lv_iload_n hx hb dX10_turnOp_5 rfl (lv_at hl 0 rfl) ?_
  refine lv_iconst (v := 4) hx hb dX10_turnOp_6 (by decide) ?_
  refine lv_ishr hx hb dX10_turnOp_7 ?_
  refine lv_topi (fun z7_1 ez7_1 => ?_)
  have r7_2 : rg z7_1 0 15 := rg_shr (k := 4) ez7_1 (by decide) hp1_4 (by decide)
  refine lv_istore (lv' := [(4, .int z7_1), (3, .int r1_1), (0, .ref tl), (1, .long v0)]) hx hb dX10_turnOp_8 hl (by decide) rfl (fun ls hl => ?_)
  refine lv_lload_n hx hb dX10_turnOp_10 rfl (lv_at hl 3 rfl) ?_
  refine go_i (k1 := 0) (n1 := 0) (wr := [(tl, .inr (10, [.ref tls, .ref o0, .ref p0, .int x_tl_3, .int x_tl_4])), (o0, .inr (5, [.ref o0r, .int x_o0_1])), (o0r, .inl (ct 1, 60000, .inl g_o0r))]) [] [0, 1, 2] (rn_SN (As := [.long v0]) (rest := []) (c_X7_dOf l D ct v0  _) (cn_of (n := 1) hn mw_986 mw_7 mw_1305 mhX7_dOf ⟨(Nat.le_of_ble_eq_true rfl), (Nat.le_of_ble_eq_true rfl)⟩) hx hb hml hown hn hK hSK hZ hS mw_985 rfl hl.1 (Nat.le_of_ble_eq_true rfl) dX10_turnOp_11 ⟨(Nat.le_of_ble_eq_true rfl), (Nat.le_of_ble_eq_true rfl)⟩) hP hD hS hA rfl rfl (by decide) (by decide) (by decide) (Nat.le_of_ble_eq_true rfl) (Nat.le_of_ble_eq_true rfl) (fun r11_1 u11_2 H locs hp11_3 hP hD hS => ?_)
  obtain ⟨hp11_4, hp11_5⟩ := hp11_3
  have hp11_4 : rg r11_1 0 15 := hp11_4
  have hp11_5 : r11_1.toInt = (v0.toInt / 256) % 16 := hp11_5
  have hP : va_P D vwCl [(tl, .inr (10, [.ref tls, .ref o0, .ref p0, .int x_tl_3, .int x_tl_4])), (o0, .inr (5, [.ref o0r, .int x_o0_1])), (o0r, .inl (ct 1, 60000, .inl g_o0r))] _ := hP
  have hD : va_D A [(tl, .inr (10, [.ref tls, .ref o0, .ref p0, .int x_tl_3, .int x_tl_4])), (o0, .inr (5, [.ref o0r, .int x_o0_1])), (o0r, .inl (ct 1, 60000, .inl g_o0r))] := hD
  refine go_i (k1 := 0) (n1 := 0) (wr := [(tl, .inr (10, [.ref tls, .ref o0, .ref p0, .int x_tl_3, .int x_tl_4])), (o0, .inr (5, [.ref o0r, .int x_o0_1])), (o0r, .inl (ct 1, 60000, .inl g_o0r))]) [] [0, 1, 2] (rn_S (As := [.int r11_1]) (rest := []) (c_X10_placeOf l D ct r11_1  _) (cb_of (n := 1) hn mw_1308 mw_10 mw_1306 mhX10_placeOf ⟨(Nat.le_of_ble_eq_true rfl), (Nat.le_of_ble_eq_true rfl)⟩) hx hb hml hown hn hK hSK hZ hS mw_1307 rfl hl.1 (Nat.le_of_ble_eq_true rfl) dX10_turnOp_14 ⟨(Nat.le_of_ble_eq_true rfl), (Nat.le_of_ble_eq_true rfl)⟩) hP hD hS hA rfl rfl (by decide) (by decide) (by decide) (Nat.le_of_ble_eq_true rfl) (Nat.le_of_ble_eq_true rfl) (fun r14_1 u14_2 H locs hp14_3 hP hD hS => ?_)
  have hP : va_P D vwCl [(tl, .inr (10, [.ref tls, .ref o0, .ref p0, .int x_tl_3, .int x_tl_4])), (o0, .inr (5, [.ref o0r, .int x_o0_1])), (o0r, .inl (ct 1, 60000, .inl g_o0r))] _ := hP
  have hD : va_D A [(tl, .inr (10, [.ref tls, .ref o0, .ref p0, .int x_tl_3, .int x_tl_4])), (o0, .inr (5, [.ref o0r, .int x_o0_1])), (o0r, .inl (ct 1, 60000, .inl g_o0r))] := hD
  refine lv_istore (lv' := [(5, .int r14_1), (4, .int z7_1), (3, .int r1_1), (0, .ref tl), (1, .long v0)]) hx hb dX10_turnOp_17 hl (by decide) rfl (fun ls hl => ?_)
  refine lv_iload_n hx hb dX10_turnOp_19 rfl (lv_at hl 2 rfl) ?_
  refine go_i (k1 := 0) (n1 := 0) (wr := [(tl, .inr (10, [.ref tls, .ref o0, .ref p0, .int x_tl_3, .int x_tl_4])), (o0, .inr (5, [.ref o0r, .int x_o0_1])), (o0r, .inl (ct 1, 60000, .inl g_o0r))]) [] [0, 1, 2] (rn_SN (As := [.int r1_1]) (rest := []) (c_X7_isWide l D ct r1_1  _) (cn_of (n := 1) hn mw_1062 mw_7 mw_1309 mhX7_isWide ⟨(Nat.le_of_ble_eq_true rfl), (Nat.le_of_ble_eq_true rfl)⟩) hx hb hml hown hn hK hSK hZ hS mw_1061 rfl hl.1 (Nat.le_of_ble_eq_true rfl) dX10_turnOp_20 ⟨(Nat.le_of_ble_eq_true rfl), (Nat.le_of_ble_eq_true rfl)⟩) hP hD hS hA rfl rfl (by decide) (by decide) (by decide) (Nat.le_of_ble_eq_true rfl) (Nat.le_of_ble_eq_true rfl) (fun r20_1 u20_2 H locs hp20_3 hP hD hS => ?_)
  have hp20_4 := hp20_3
  have hp20_4 : rg r20_1 0 1 := hp20_4
  have hP : va_P D vwCl [(tl, .inr (10, [.ref tls, .ref o0, .ref p0, .int x_tl_3, .int x_tl_4])), (o0, .inr (5, [.ref o0r, .int x_o0_1])), (o0r, .inl (ct 1, 60000, .inl g_o0r))] _ := hP
  have hD : va_D A [(tl, .inr (10, [.ref tls, .ref o0, .ref p0, .int x_tl_3, .int x_tl_4])), (o0, .inr (5, [.ref o0r, .int x_o0_1])), (o0r, .inl (ct 1, 60000, .inl g_o0r))] := hD
  refine lv_istore (lv' := [(6, .int r20_1), (5, .int r14_1), (4, .int z7_1), (3, .int r1_1), (0, .ref tl), (1, .long v0)]) hx hb dX10_turnOp_23 hl (by decide) rfl (fun ls hl => ?_)
  refine lv_iload hx hb dX10_turnOp_25 (lv_at hl 2 rfl) ?_
  refine lv_bipush (v := 11) hx hb dX10_turnOp_27 (by decide) ?_
  have b204 : ∀ (j204_ftl_4 : Int32) (j204_co0r : Nat → Int32) (H : Heap) (locs : List Loc) (ls : Array Slot), (rg j204_ftl_4 1 1000001) → (x_tl_4.toInt + 1 ≤ j204_ftl_4.toInt ∧ j204_ftl_4.toInt ≤ x_tl_4.toInt + 7) → lv_has ls 9 [(0, .ref tl), (5, .int r14_1), (6, .int r20_1)] → va_P D vwCl [(tl, .inr (10, [.ref tls, .ref o0, .ref p0, .int x_tl_3, .int j204_ftl_4])), (o0, .inr (5, [.ref o0r, .int x_o0_1])), (o0r, .inl (ct 1, 60000, .inl j204_co0r))] H → va_D A [(tl, .inr (10, [.ref tls, .ref o0, .ref p0, .int x_tl_3, .int j204_ftl_4])), (o0, .inr (5, [.ref o0r, .int x_o0_1])), (o0r, .inl (ct 1, 60000, .inl j204_co0r))] → va_S A s.heap H locs → W p l e ({ frames := 4, cells := 0, slots := 0, locals := 91 }) s m [.ref tl, .long v0].toArray below meth c H locs 0 0 Q (F0 m 204 ls []) := by
    intro j204_ftl_4 j204_co0r H locs ls r204_1001 ho204_1002 hl hP hD hS
    refine lv_iload hx hb dX10_turnOp_204 (lv_at hl 2 rfl) ?_
    refine lv_if_ne (tgt := 215) hx hb dX10_turnOp_206 (by decide) (fun c206_1 => ?_) (fun c206_1 => ?_)
    · have t206_2 := (i_ne c206_1)
      have r206_3 : rg r20_1 1 1 := rg_neAl t206_2 hp20_4 (show rg (0 : Int32) 0 0 from rg_l (by decide)) (by decide)
      exact endq_v hQ hx hb hr hlocks dX10_turnOp_215 (j204_ftl_4, j204_co0r) ⟨r204_1001, (show x_tl_4.toInt + 1 ≤ j204_ftl_4.toInt ∧ j204_ftl_4.toInt ≤ x_tl_4.toInt + 9 by have q0 := h_x_tl_4.1; have q1 := h_x_tl_4.2; have q2 := r204_1001.1; have q3 := r204_1001.2; have q4 := ho204_1002; omega)⟩ hP hD hS [0, 1, 2] rfl (by decide) rfl (Nat.le_of_ble_eq_true rfl) (Nat.le_of_ble_eq_true rfl)
    · have t206_2 := (i_eq c206_1)
      have r206_3 : rg r20_1 0 0 := rg_eqA t206_2 hp20_4 (show rg (0 : Int32) 0 0 from rg_l (by decide)) (by decide)
      refine lv_aload_n hx hb dX10_turnOp_209 rfl (lv_at hl 0 rfl) ?_
      refine lv_iload hx hb dX10_turnOp_210 (lv_at hl 1 rfl) ?_
      refine go_v (k1 := 0) (n1 := 0) (wr := []) [0, 1, 2] [] (rn_V (As := [.int r14_1]) (rest := []) (c_X10_putCut l D ct tl r14_1 tls o0 p0 x_tl_3 j204_ftl_4 o0r x_o0_1 j204_co0r h_x_tl_3 (rg_of (show 0 ≤ j204_ftl_4.toInt ∧ j204_ftl_4.toInt ≤ 999950 by have q0 := r204_1001.1; have q1 := r204_1001.2; have q2 := h_x_tl_4.1; have q3 := h_x_tl_4.2; have q4 := ho204_1002; omega)) h_x_o0_1 _) (cb_of (n := 1) hn mw_1358 mw_10 mw_1355 mhX10_putCut ⟨(Nat.le_of_ble_eq_true rfl), (Nat.le_of_ble_eq_true rfl)⟩) hx hb hml hown hn hK hSK hZ hS mw_1357 mw_s157 (ci := 10) (q0 := 0) rfl rfl rfl rfl hl.1 (Nat.le_of_ble_eq_true rfl) dX10_turnOp_212 ⟨(Nat.le_of_ble_eq_true rfl), (Nat.le_of_ble_eq_true rfl)⟩) hP hD hS hA rfl rfl (by decide) (by decide) (by decide) (Nat.le_of_ble_eq_true rfl) (Nat.le_of_ble_eq_true rfl) (fun u212_2 H locs hp212_3 hP hD hS => ?_)
      obtain ⟨y_tl_4212_4, k_o0r212_5⟩ := u212_2
      obtain ⟨hp212_6, hp212_7⟩ := hp212_3
      have hp212_6 : rg y_tl_4212_4 1 1000001 := hp212_6
      have hp212_7 : y_tl_4212_4.toInt = j204_ftl_4.toInt + 2 := hp212_7
      have hP : va_P D vwCl [(tl, .inr (10, [.ref tls, .ref o0, .ref p0, .int x_tl_3, .int y_tl_4212_4])), (o0, .inr (5, [.ref o0r, .int x_o0_1])), (o0r, .inl (ct 1, 60000, .inl k_o0r212_5))] _ := hP
      have hD : va_D A [(tl, .inr (10, [.ref tls, .ref o0, .ref p0, .int x_tl_3, .int y_tl_4212_4])), (o0, .inr (5, [.ref o0r, .int x_o0_1])), (o0r, .inl (ct 1, 60000, .inl k_o0r212_5))] := hD
      exact endq_v hQ hx hb hr hlocks dX10_turnOp_215 (y_tl_4212_4, k_o0r212_5) ⟨hp212_6, (show x_tl_4.toInt + 1 ≤ y_tl_4212_4.toInt ∧ y_tl_4212_4.toInt ≤ x_tl_4.toInt + 9 by have q0 := h_x_tl_4.1; have q1 := h_x_tl_4.2; have q2 := hp212_6.1; have q3 := hp212_6.2; have q4 := r204_1001.1; have q5 := r204_1001.2; have q6 := ho204_1002; have q7 := hp212_7; omega)⟩ hP hD hS [0, 1, 2] rfl (by decide) rfl (Nat.le_of_ble_eq_true rfl) (Nat.le_of_ble_eq_true rfl)
  have b52 : ∀  (H : Heap) (locs : List Loc) (ls : Array Slot), lv_has ls 9 [(0, .ref tl), (1, .long v0), (4, .int z7_1), (5, .int r14_1), (6, .int r20_1)] → va_P D vwCl [(tl, .inr (10, [.ref tls, .ref o0, .ref p0, .int x_tl_3, .int x_tl_4])), (o0, .inr (5, [.ref o0r, .int x_o0_1])), (o0r, .inl (ct 1, 60000, .inl g_o0r))] H → va_D A [(tl, .inr (10, [.ref tls, .ref o0, .ref p0, .int x_tl_3, .int x_tl_4])), (o0, .inr (5, [.ref o0r, .int x_o0_1])), (o0r, .inl (ct 1, 60000, .inl g_o0r))] → va_S A s.heap H locs → W p l e ({ frames := 4, cells := 0, slots := 0, locals := 91 }) s m [.ref tl, .long v0].toArray below meth c H locs 0 0 Q (F0 m 52 ls []) := by
    intro  H locs ls  hl hP hD hS
    refine lv_iload hx hb dX10_turnOp_52 (lv_at hl 2 rfl) ?_
    refine lv_bipush (v := 11) hx hb dX10_turnOp_54 (by decide) ?_
    refine lv_icmp_ne (tgt := 76) hx hb dX10_turnOp_56 (by decide) (fun c56_1 => ?_) (fun c56_1 => ?_)
    · have t56_2 := (i_ne c56_1)
      refine lv_iload hx hb dX10_turnOp_76 (lv_at hl 2 rfl) ?_
      refine lv_bipush (v := 8) hx hb dX10_turnOp_78 (by decide) ?_
      refine lv_icmp_ne (tgt := 110) hx hb dX10_turnOp_80 (by decide) (fun c80_1 => ?_) (fun c80_1 => ?_)
      · have t80_2 := (i_ne c80_1)
        refine lv_iload hx hb dX10_turnOp_110 (lv_at hl 2 rfl) ?_
        refine lv_iconst (v := 3) hx hb dX10_turnOp_112 (by decide) ?_
        refine lv_icmp_ne (tgt := 132) hx hb dX10_turnOp_113 (by decide) (fun c113_1 => ?_) (fun c113_1 => ?_)
        · have t113_2 := (i_ne c113_1)
          refine lv_aload_n hx hb dX10_turnOp_132 rfl (lv_at hl 0 rfl) ?_
          refine lv_lload_n hx hb dX10_turnOp_133 rfl (lv_at hl 1 rfl) ?_
          refine go_i (k1 := 0) (n1 := 0) (wr := []) [0, 1, 2] [] (rn_V (As := [.long v0]) (rest := []) (c_X10_putSide l D ct tl v0 tls o0 p0 x_tl_3 x_tl_4 o0r x_o0_1 g_o0r h_x_tl_3 (rg_w h_x_tl_4 (by decide)) h_x_o0_1 _) (cb_of (n := 1) hn mw_1333 mw_10 mw_1330 mhX10_putSide ⟨(Nat.le_of_ble_eq_true rfl), (Nat.le_of_ble_eq_true rfl)⟩) hx hb hml hown hn hK hSK hZ hS mw_1332 mw_s152 (ci := 10) (q0 := 0) rfl rfl rfl rfl hl.1 (Nat.le_of_ble_eq_true rfl) dX10_turnOp_134 ⟨(Nat.le_of_ble_eq_true rfl), (Nat.le_of_ble_eq_true rfl)⟩) hP hD hS hA rfl rfl (by decide) (by decide) (by decide) (Nat.le_of_ble_eq_true rfl) (Nat.le_of_ble_eq_true rfl) (fun r134_1 u134_2 H locs hp134_3 hP hD hS => ?_)
          obtain ⟨y_tl_4134_4, k_o0r134_5⟩ := u134_2
          obtain ⟨hp134_6, hp134_7⟩ := hp134_3
          have hp134_6 : rg y_tl_4134_4 0 1000001 := hp134_6
          have hp134_7 : x_tl_4.toInt + 0 ≤ y_tl_4134_4.toInt ∧ y_tl_4134_4.toInt ≤ x_tl_4.toInt + 2 := hp134_7
          have hP : va_P D vwCl [(tl, .inr (10, [.ref tls, .ref o0, .ref p0, .int x_tl_3, .int y_tl_4134_4])), (o0, .inr (5, [.ref o0r, .int x_o0_1])), (o0r, .inl (ct 1, 60000, .inl k_o0r134_5))] _ := hP
          have hD : va_D A [(tl, .inr (10, [.ref tls, .ref o0, .ref p0, .int x_tl_3, .int y_tl_4134_4])), (o0, .inr (5, [.ref o0r, .int x_o0_1])), (o0r, .inl (ct 1, 60000, .inl k_o0r134_5))] := hD
          refine lv_istore (lv' := [(7, .int r134_1), (0, .ref tl), (1, .long v0), (4, .int z7_1), (5, .int r14_1), (6, .int r20_1)]) hx hb dX10_turnOp_137 hl (by decide) rfl (fun ls hl => ?_)
          refine lv_iload hx hb dX10_turnOp_139 (lv_at hl 5 rfl) ?_
          have b168 : ∀ (j168_s0 : Int32) (H : Heap) (locs : List Loc) (ls : Array Slot), (rg j168_s0 0 1) → lv_has ls 9 [(0, .ref tl), (4, .int z7_1), (5, .int r14_1), (6, .int r20_1), (7, .int r134_1)] → va_P D vwCl [(tl, .inr (10, [.ref tls, .ref o0, .ref p0, .int x_tl_3, .int y_tl_4134_4])), (o0, .inr (5, [.ref o0r, .int x_o0_1])), (o0r, .inl (ct 1, 60000, .inl k_o0r134_5))] H → va_D A [(tl, .inr (10, [.ref tls, .ref o0, .ref p0, .int x_tl_3, .int y_tl_4134_4])), (o0, .inr (5, [.ref o0r, .int x_o0_1])), (o0r, .inl (ct 1, 60000, .inl k_o0r134_5))] → va_S A s.heap H locs → W p l e ({ frames := 4, cells := 0, slots := 0, locals := 91 }) s m [.ref tl, .long v0].toArray below meth c H locs 0 0 Q (F0 m 168 ls [.int j168_s0]) := by
            intro j168_s0 H locs ls r168_1001 hl hP hD hS
            refine lv_istore (lv' := [(8, .int j168_s0), (0, .ref tl), (4, .int z7_1), (5, .int r14_1), (6, .int r20_1), (7, .int r134_1)]) hx hb dX10_turnOp_168 hl (by decide) rfl (fun ls hl => ?_)
            refine lv_aload_n hx hb dX10_turnOp_170 rfl (lv_at hl 1 rfl) ?_
            refine lv_iload hx hb dX10_turnOp_171 (lv_at hl 0 rfl) ?_
            have b183 : ∀ (j183_s0 : Int32) (H : Heap) (locs : List Loc) (ls : Array Slot), (rg j183_s0 51 59) → lv_has ls 9 [(0, .ref tl), (4, .int z7_1), (5, .int r14_1), (6, .int r20_1), (7, .int r134_1)] → va_P D vwCl [(tl, .inr (10, [.ref tls, .ref o0, .ref p0, .int x_tl_3, .int y_tl_4134_4])), (o0, .inr (5, [.ref o0r, .int x_o0_1])), (o0r, .inl (ct 1, 60000, .inl k_o0r134_5))] H → va_D A [(tl, .inr (10, [.ref tls, .ref o0, .ref p0, .int x_tl_3, .int y_tl_4134_4])), (o0, .inr (5, [.ref o0r, .int x_o0_1])), (o0r, .inl (ct 1, 60000, .inl k_o0r134_5))] → va_S A s.heap H locs → W p l e ({ frames := 4, cells := 0, slots := 0, locals := 91 }) s m [.ref tl, .long v0].toArray below meth c H locs 0 0 Q (F0 m 183 ls [.int j183_s0, .ref tl]) := by
              intro j183_s0 H locs ls r183_1001 hl hP hD hS
              obtain ⟨ts183_1, fs183_1, hs183_1, gs183_1⟩ := hZ.2.1
              refine va_gets hx hb hs183_1 hS hown (hn.get mw_1351 rfl) (fun _ h9 => h9) dX10_turnOp_183 ?_
              refine lv_iload hx hb dX10_turnOp_186 (lv_at hl 1 rfl) ?_
              refine va_ti hx hb gs183_1 hS (in_of (show 0 ≤ z7_1.toInt ∧ z7_1.toInt < 13 by have q0 := r7_2.1; have q1 := r7_2.2; have q2 := (eq_shr (c := 16) (k := 4) ez7_1 (by decide) (by decide)); have q3 := hp1_4.1; have q4 := hp1_4.2; have q5 := (rl_any v0).1; have q6 := (rl_any v0).2; have q7 := (show rg (11 : Int32) 11 11 from rg_l (by decide)).1; have q8 := (show rg (11 : Int32) 11 11 from rg_l (by decide)).2; have q9 := (show rg (8 : Int32) 8 8 from rg_l (by decide)).1; have q10 := (show rg (8 : Int32) 8 8 from rg_l (by decide)).2; have q11 := (show rg (3 : Int32) 3 3 from rg_l (by decide)).1; have q12 := (show rg (3 : Int32) 3 3 from rg_l (by decide)).2; have q13 := hp11_4.1; have q14 := hp11_4.2; have q15 := hq0; have q16 := hp1_5; have q17 := hp11_5; have q18 := t56_2; have q19 := t80_2; have q20 := t113_2; omega)) (v := .int (fs183_1 z7_1.toNatClampNeg)) rfl dX10_turnOp_188 ?_
              refine lv_topi (fun z188_1 ez188_1 => ?_)
              obtain ⟨ts189_1, fs189_1, hs189_1, gs189_1⟩ := hZ.2.2.1
              refine va_gets hx hb hs189_1 hS hown (hn.get mw_1353 rfl) (fun _ h9 => h9) dX10_turnOp_189 ?_
              refine lv_iload hx hb dX10_turnOp_192 (lv_at hl 1 rfl) ?_
              refine va_ti hx hb gs189_1 hS (in_of (show 0 ≤ z7_1.toInt ∧ z7_1.toInt < 13 by have q0 := r7_2.1; have q1 := r7_2.2; have q2 := (eq_shr (c := 16) (k := 4) ez7_1 (by decide) (by decide)); have q3 := hp1_4.1; have q4 := hp1_4.2; have q5 := (rl_any v0).1; have q6 := (rl_any v0).2; have q7 := (show rg (11 : Int32) 11 11 from rg_l (by decide)).1; have q8 := (show rg (11 : Int32) 11 11 from rg_l (by decide)).2; have q9 := (show rg (8 : Int32) 8 8 from rg_l (by decide)).1; have q10 := (show rg (8 : Int32) 8 8 from rg_l (by decide)).2; have q11 := (show rg (3 : Int32) 3 3 from rg_l (by decide)).1; have q12 := (show rg (3 : Int32) 3 3 from rg_l (by decide)).2; have q13 := hp11_4.1; have q14 := hp11_4.2; have q15 := hq0; have q16 := hp1_5; have q17 := hp11_5; have q18 := t56_2; have q19 := t80_2; have q20 := t113_2; omega)) (v := .int (fs189_1 z7_1.toNatClampNeg)) rfl dX10_turnOp_194 ?_
              refine lv_topi (fun z194_1 ez194_1 => ?_)
              refine lv_iload hx hb dX10_turnOp_195 (lv_at hl 2 rfl) ?_
              refine lv_iload hx hb dX10_turnOp_197 (lv_at hl 2 rfl) ?_
              refine lv_iload hx hb dX10_turnOp_199 (lv_at hl 4 rfl) ?_
              refine go_v (k1 := 0) (n1 := 0) (wr := []) [0, 1, 2] [] (rn_V (As := [.int j183_s0, .int z188_1, .int z194_1, .int r14_1, .int r14_1, .int r134_1]) (rest := []) (c_X10_putOp l D ct tl j183_s0 z188_1 z194_1 r14_1 r14_1 r134_1 tls o0 p0 x_tl_3 y_tl_4134_4 o0r x_o0_1 k_o0r134_5 h_x_tl_3 (rg_of (show 0 ≤ y_tl_4134_4.toInt ∧ y_tl_4134_4.toInt ≤ 999990 by have q0 := hp134_6.1; have q1 := hp134_6.2; have q2 := h_x_tl_4.1; have q3 := h_x_tl_4.2; have q4 := hp134_7; omega)) h_x_o0_1 _) (cb_of (n := 6) hn mw_1329 mw_10 mw_1326 mhX10_putOp ⟨(Nat.le_of_ble_eq_true rfl), (Nat.le_of_ble_eq_true rfl)⟩) hx hb hml hown hn hK hSK hZ hS mw_1328 mw_s151 (ci := 10) (q0 := 0) rfl rfl rfl rfl hl.1 (Nat.le_of_ble_eq_true rfl) dX10_turnOp_201 ⟨(Nat.le_of_ble_eq_true rfl), (Nat.le_of_ble_eq_true rfl)⟩) hP hD hS hA rfl rfl (by decide) (by decide) (by decide) (Nat.le_of_ble_eq_true rfl) (Nat.le_of_ble_eq_true rfl) (fun u201_2 H locs hp201_3 hP hD hS => ?_)
              obtain ⟨y_tl_4201_4, k_o0r201_5⟩ := u201_2
              obtain ⟨hp201_6, hp201_7⟩ := hp201_3
              have hp201_6 : rg y_tl_4201_4 1 1000001 := hp201_6
              have hp201_7 : y_tl_4201_4.toInt = y_tl_4134_4.toInt + 1 := hp201_7
              have hP : va_P D vwCl [(tl, .inr (10, [.ref tls, .ref o0, .ref p0, .int x_tl_3, .int y_tl_4201_4])), (o0, .inr (5, [.ref o0r, .int x_o0_1])), (o0r, .inl (ct 1, 60000, .inl k_o0r201_5))] _ := hP
              have hD : va_D A [(tl, .inr (10, [.ref tls, .ref o0, .ref p0, .int x_tl_3, .int y_tl_4201_4])), (o0, .inr (5, [.ref o0r, .int x_o0_1])), (o0r, .inl (ct 1, 60000, .inl k_o0r201_5))] := hD
              exact b204 y_tl_4201_4 k_o0r201_5 H locs ls hp201_6 (show x_tl_4.toInt + 1 ≤ y_tl_4201_4.toInt ∧ y_tl_4201_4.toInt ≤ x_tl_4.toInt + 7 by have q0 := h_x_tl_4.1; have q1 := h_x_tl_4.2; have q2 := hp201_6.1; have q3 := hp201_6.2; have q4 := hp134_6.1; have q5 := hp134_6.2; have q6 := hp134_7; have q7 := hp201_7; omega) (lv_sub hl [0, 2, 3] rfl) hP hD hS
            refine lv_if_eq (tgt := 181) hx hb dX10_turnOp_173 (by decide) (fun c173_1 => ?_) (fun c173_1 => ?_)
            · have t173_2 := (i_eq c173_1)
              have r173_3 : rg j168_s0 0 0 := rg_eqA t173_2 r168_1001 (show rg (0 : Int32) 0 0 from rg_l (by decide)) (by decide)
              refine lv_bipush (v := 59) hx hb dX10_turnOp_181 (by decide) ?_
              exact b183 (59 : Int32) H locs ls (rg_w (show rg (59 : Int32) 59 59 from rg_l (by decide)) (by decide)) (lv_sub hl [1, 2, 3, 4, 5] rfl) hP hD hS
            · have t173_2 := (i_ne c173_1)
              have r173_3 : rg j168_s0 1 1 := rg_neAl t173_2 r168_1001 (show rg (0 : Int32) 0 0 from rg_l (by decide)) (by decide)
              refine lv_bipush (v := 51) hx hb dX10_turnOp_176 (by decide) ?_
              refine lv_goto (tgt := 183) hx hb dX10_turnOp_178 (by decide) ?_
              exact b183 (51 : Int32) H locs ls (rg_w (show rg (51 : Int32) 51 51 from rg_l (by decide)) (by decide)) (lv_sub hl [1, 2, 3, 4, 5] rfl) hP hD hS
          have b163 : ∀  (H : Heap) (locs : List Loc) (ls : Array Slot), lv_has ls 9 [(0, .ref tl), (4, .int z7_1), (5, .int r14_1), (6, .int r20_1), (7, .int r134_1)] → va_P D vwCl [(tl, .inr (10, [.ref tls, .ref o0, .ref p0, .int x_tl_3, .int y_tl_4134_4])), (o0, .inr (5, [.ref o0r, .int x_o0_1])), (o0r, .inl (ct 1, 60000, .inl k_o0r134_5))] H → va_D A [(tl, .inr (10, [.ref tls, .ref o0, .ref p0, .int x_tl_3, .int y_tl_4134_4])), (o0, .inr (5, [.ref o0r, .int x_o0_1])), (o0r, .inl (ct 1, 60000, .inl k_o0r134_5))] → va_S A s.heap H locs → W p l e ({ frames := 4, cells := 0, slots := 0, locals := 91 }) s m [.ref tl, .long v0].toArray below meth c H locs 0 0 Q (F0 m 163 ls []) := by
            intro  H locs ls  hl hP hD hS
            refine lv_iconst (v := 1) hx hb dX10_turnOp_163 (by decide) ?_
            refine lv_goto (tgt := 168) hx hb dX10_turnOp_164 (by decide) ?_
            exact b168 (1 : Int32) H locs ls (rg_w (show rg (1 : Int32) 1 1 from rg_l (by decide)) (by decide)) (lv_sub hl [0, 1, 2, 3, 4] rfl) hP hD hS
          refine lv_if_ne (tgt := 163) hx hb dX10_turnOp_141 (by decide) (fun c141_1 => ?_) (fun c141_1 => ?_)
          · have t141_2 := (i_ne c141_1)
            have r141_3 : rg r20_1 1 1 := rg_neAl t141_2 hp20_4 (show rg (0 : Int32) 0 0 from rg_l (by decide)) (by decide)
            exact b163  H locs ls  (lv_sub hl [1, 3, 4, 5, 0] rfl) hP hD hS
          · have t141_2 := (i_eq c141_1)
            have r141_3 : rg r20_1 0 0 := rg_eqA t141_2 hp20_4 (show rg (0 : Int32) 0 0 from rg_l (by decide)) (by decide)
            refine lv_iload hx hb dX10_turnOp_144 (lv_at hl 3 rfl) ?_
            refine lv_iconst (v := 4) hx hb dX10_turnOp_146 (by decide) ?_
            refine lv_icmp_eq (tgt := 163) hx hb dX10_turnOp_147 (by decide) (fun c147_1 => ?_) (fun c147_1 => ?_)
            · have t147_2 := (i_eq c147_1)
              have r147_3 : rg z7_1 4 4 := rg_eqA t147_2 r7_2 (show rg (4 : Int32) 4 4 from rg_l (by decide)) (by decide)
              exact b163  H locs ls  (lv_sub hl [1, 3, 4, 5, 0] rfl) hP hD hS
            · have t147_2 := (i_ne c147_1)
              refine lv_iload hx hb dX10_turnOp_150 (lv_at hl 3 rfl) ?_
              refine lv_iconst (v := 5) hx hb dX10_turnOp_152 (by decide) ?_
              refine lv_icmp_eq (tgt := 163) hx hb dX10_turnOp_153 (by decide) (fun c153_1 => ?_) (fun c153_1 => ?_)
              · have t153_2 := (i_eq c153_1)
                have r153_3 : rg z7_1 5 5 := rg_eqA t153_2 r7_2 (show rg (5 : Int32) 5 5 from rg_l (by decide)) (by decide)
                exact b163  H locs ls  (lv_sub hl [1, 3, 4, 5, 0] rfl) hP hD hS
              · have t153_2 := (i_ne c153_1)
                refine lv_iload hx hb dX10_turnOp_156 (lv_at hl 3 rfl) ?_
                refine lv_bipush (v := 10) hx hb dX10_turnOp_158 (by decide) ?_
                refine lv_icmp_ne (tgt := 167) hx hb dX10_turnOp_160 (by decide) (fun c160_1 => ?_) (fun c160_1 => ?_)
                · have t160_2 := (i_ne c160_1)
                  refine lv_iconst (v := 0) hx hb dX10_turnOp_167 (by decide) ?_
                  exact b168 (0 : Int32) H locs ls (rg_w (show rg (0 : Int32) 0 0 from rg_l (by decide)) (by decide)) (lv_sub hl [1, 3, 4, 5, 0] rfl) hP hD hS
                · have t160_2 := (i_eq c160_1)
                  have r160_3 : rg z7_1 10 10 := rg_eqA t160_2 r7_2 (show rg (10 : Int32) 10 10 from rg_l (by decide)) (by decide)
                  exact b163  H locs ls  (lv_sub hl [1, 3, 4, 5, 0] rfl) hP hD hS
        · have t113_2 := (i_eq c113_1)
          have r113_3 : rg z7_1 3 3 := rg_eqA t113_2 r7_2 (show rg (3 : Int32) 3 3 from rg_l (by decide)) (by decide)
          refine lv_aload_n hx hb dX10_turnOp_116 rfl (lv_at hl 0 rfl) ?_
          refine lv_iload hx hb dX10_turnOp_117 (lv_at hl 4 rfl) ?_
          refine lv_iload hx hb dX10_turnOp_119 (lv_at hl 3 rfl) ?_
          refine lv_aload_n hx hb dX10_turnOp_121 rfl (lv_at hl 0 rfl) ?_
          refine lv_lload_n hx hb dX10_turnOp_122 rfl (lv_at hl 1 rfl) ?_
          refine go_i (k1 := 0) (n1 := 0) (wr := []) [0, 1, 2] [] (rn_V (As := [.long v0]) (rest := [.int r14_1, .int r20_1, .ref tl]) (c_X10_putSide l D ct tl v0 tls o0 p0 x_tl_3 x_tl_4 o0r x_o0_1 g_o0r h_x_tl_3 (rg_w h_x_tl_4 (by decide)) h_x_o0_1 _) (cb_of (n := 1) hn mw_1333 mw_10 mw_1330 mhX10_putSide ⟨(Nat.le_of_ble_eq_true rfl), (Nat.le_of_ble_eq_true rfl)⟩) hx hb hml hown hn hK hSK hZ hS mw_1332 mw_s152 (ci := 10) (q0 := 0) rfl rfl rfl rfl hl.1 (Nat.le_of_ble_eq_true rfl) dX10_turnOp_123 ⟨(Nat.le_of_ble_eq_true rfl), (Nat.le_of_ble_eq_true rfl)⟩) hP hD hS hA rfl rfl (by decide) (by decide) (by decide) (Nat.le_of_ble_eq_true rfl) (Nat.le_of_ble_eq_true rfl) (fun r123_1 u123_2 H locs hp123_3 hP hD hS => ?_)
          obtain ⟨y_tl_4123_4, k_o0r123_5⟩ := u123_2
          obtain ⟨hp123_6, hp123_7⟩ := hp123_3
          have hp123_6 : rg y_tl_4123_4 0 1000001 := hp123_6
          have hp123_7 : x_tl_4.toInt + 0 ≤ y_tl_4123_4.toInt ∧ y_tl_4123_4.toInt ≤ x_tl_4.toInt + 2 := hp123_7
          have hP : va_P D vwCl [(tl, .inr (10, [.ref tls, .ref o0, .ref p0, .int x_tl_3, .int y_tl_4123_4])), (o0, .inr (5, [.ref o0r, .int x_o0_1])), (o0r, .inl (ct 1, 60000, .inl k_o0r123_5))] _ := hP
          have hD : va_D A [(tl, .inr (10, [.ref tls, .ref o0, .ref p0, .int x_tl_3, .int y_tl_4123_4])), (o0, .inr (5, [.ref o0r, .int x_o0_1])), (o0r, .inl (ct 1, 60000, .inl k_o0r123_5))] := hD
          refine go_v (k1 := 0) (n1 := 0) (wr := []) [0, 1, 2] [] (rn_V (As := [.int r20_1, .int r14_1, .int r123_1]) (rest := []) (c_X10_turnDivision l D ct tl r20_1 r14_1 r123_1 tls o0 p0 x_tl_3 y_tl_4123_4 o0r x_o0_1 k_o0r123_5 hp20_4 h_x_tl_3 (rg_of (show 0 ≤ y_tl_4123_4.toInt ∧ y_tl_4123_4.toInt ≤ 999900 by have q0 := hp123_6.1; have q1 := hp123_6.2; have q2 := h_x_tl_4.1; have q3 := h_x_tl_4.2; have q4 := hp123_7; omega)) h_x_o0_1 _) (cb_of (n := 3) hn mw_1337 mw_10 mw_1334 mhX10_turnDivision ⟨(Nat.le_of_ble_eq_true rfl), (Nat.le_of_ble_eq_true rfl)⟩) hx hb hml hown hn hK hSK hZ hS mw_1336 mw_s153 (ci := 10) (q0 := 0) rfl rfl rfl rfl hl.1 (Nat.le_of_ble_eq_true rfl) dX10_turnOp_126 ⟨(Nat.le_of_ble_eq_true rfl), (Nat.le_of_ble_eq_true rfl)⟩) hP hD hS hA rfl rfl (by decide) (by decide) (by decide) (Nat.le_of_ble_eq_true rfl) (Nat.le_of_ble_eq_true rfl) (fun u126_2 H locs hp126_3 hP hD hS => ?_)
          obtain ⟨y_tl_4126_4, k_o0r126_5⟩ := u126_2
          obtain ⟨hp126_6, hp126_7⟩ := hp126_3
          have hp126_6 : rg y_tl_4126_4 1 1000001 := hp126_6
          have hp126_7 : y_tl_4123_4.toInt + 4 ≤ y_tl_4126_4.toInt ∧ y_tl_4126_4.toInt ≤ y_tl_4123_4.toInt + 5 := hp126_7
          have hP : va_P D vwCl [(tl, .inr (10, [.ref tls, .ref o0, .ref p0, .int x_tl_3, .int y_tl_4126_4])), (o0, .inr (5, [.ref o0r, .int x_o0_1])), (o0r, .inl (ct 1, 60000, .inl k_o0r126_5))] _ := hP
          have hD : va_D A [(tl, .inr (10, [.ref tls, .ref o0, .ref p0, .int x_tl_3, .int y_tl_4126_4])), (o0, .inr (5, [.ref o0r, .int x_o0_1])), (o0r, .inl (ct 1, 60000, .inl k_o0r126_5))] := hD
          refine lv_goto (tgt := 204) hx hb dX10_turnOp_129 (by decide) ?_
          exact b204 y_tl_4126_4 k_o0r126_5 H locs ls hp126_6 (show x_tl_4.toInt + 1 ≤ y_tl_4126_4.toInt ∧ y_tl_4126_4.toInt ≤ x_tl_4.toInt + 7 by have q0 := h_x_tl_4.1; have q1 := h_x_tl_4.2; have q2 := hp126_6.1; have q3 := hp126_6.2; have q4 := hp123_6.1; have q5 := hp123_6.2; have q6 := hp123_7; have q7 := hp126_7; omega) (lv_sub hl [0, 3, 4] rfl) hP hD hS
      · have t80_2 := (i_eq c80_1)
        have r80_3 : rg z7_1 8 8 := rg_eqA t80_2 r7_2 (show rg (8 : Int32) 8 8 from rg_l (by decide)) (by decide)
        refine lv_aload_n hx hb dX10_turnOp_83 rfl (lv_at hl 0 rfl) ?_
        refine lv_iload hx hb dX10_turnOp_84 (lv_at hl 4 rfl) ?_
        have b96 : ∀ (j96_s0 : Int32) (H : Heap) (locs : List Loc) (ls : Array Slot), (rg j96_s0 51 59) → lv_has ls 9 [(0, .ref tl), (5, .int r14_1), (6, .int r20_1)] → va_P D vwCl [(tl, .inr (10, [.ref tls, .ref o0, .ref p0, .int x_tl_3, .int x_tl_4])), (o0, .inr (5, [.ref o0r, .int x_o0_1])), (o0r, .inl (ct 1, 60000, .inl g_o0r))] H → va_D A [(tl, .inr (10, [.ref tls, .ref o0, .ref p0, .int x_tl_3, .int x_tl_4])), (o0, .inr (5, [.ref o0r, .int x_o0_1])), (o0r, .inl (ct 1, 60000, .inl g_o0r))] → va_S A s.heap H locs → W p l e ({ frames := 4, cells := 0, slots := 0, locals := 91 }) s m [.ref tl, .long v0].toArray below meth c H locs 0 0 Q (F0 m 96 ls [.int j96_s0, .ref tl]) := by
          intro j96_s0 H locs ls r96_1001 hl hP hD hS
          refine lv_bipush (v := 32) hx hb dX10_turnOp_96 (by decide) ?_
          refine lv_iconst (v := 0) hx hb dX10_turnOp_98 (by decide) ?_
          refine lv_iload hx hb dX10_turnOp_99 (lv_at hl 1 rfl) ?_
          refine lv_iconst (v := 0) hx hb dX10_turnOp_101 (by decide) ?_
          refine lv_iload hx hb dX10_turnOp_102 (lv_at hl 1 rfl) ?_
          refine go_v (k1 := 0) (n1 := 0) (wr := []) [0, 1, 2] [] (rn_V (As := [.int j96_s0, .int 32, .int 0, .int r14_1, .int 0, .int r14_1]) (rest := []) (c_X10_putOp l D ct tl j96_s0 (32 : Int32) (0 : Int32) r14_1 (0 : Int32) r14_1 tls o0 p0 x_tl_3 x_tl_4 o0r x_o0_1 g_o0r h_x_tl_3 (rg_w h_x_tl_4 (by decide)) h_x_o0_1 _) (cb_of (n := 6) hn mw_1329 mw_10 mw_1326 mhX10_putOp ⟨(Nat.le_of_ble_eq_true rfl), (Nat.le_of_ble_eq_true rfl)⟩) hx hb hml hown hn hK hSK hZ hS mw_1328 mw_s151 (ci := 10) (q0 := 0) rfl rfl rfl rfl hl.1 (Nat.le_of_ble_eq_true rfl) dX10_turnOp_104 ⟨(Nat.le_of_ble_eq_true rfl), (Nat.le_of_ble_eq_true rfl)⟩) hP hD hS hA rfl rfl (by decide) (by decide) (by decide) (Nat.le_of_ble_eq_true rfl) (Nat.le_of_ble_eq_true rfl) (fun u104_2 H locs hp104_3 hP hD hS => ?_)
          obtain ⟨y_tl_4104_4, k_o0r104_5⟩ := u104_2
          obtain ⟨hp104_6, hp104_7⟩ := hp104_3
          have hp104_6 : rg y_tl_4104_4 1 1000001 := hp104_6
          have hp104_7 : y_tl_4104_4.toInt = x_tl_4.toInt + 1 := hp104_7
          have hP : va_P D vwCl [(tl, .inr (10, [.ref tls, .ref o0, .ref p0, .int x_tl_3, .int y_tl_4104_4])), (o0, .inr (5, [.ref o0r, .int x_o0_1])), (o0r, .inl (ct 1, 60000, .inl k_o0r104_5))] _ := hP
          have hD : va_D A [(tl, .inr (10, [.ref tls, .ref o0, .ref p0, .int x_tl_3, .int y_tl_4104_4])), (o0, .inr (5, [.ref o0r, .int x_o0_1])), (o0r, .inl (ct 1, 60000, .inl k_o0r104_5))] := hD
          refine lv_goto (tgt := 204) hx hb dX10_turnOp_107 (by decide) ?_
          exact b204 y_tl_4104_4 k_o0r104_5 H locs ls hp104_6 (show x_tl_4.toInt + 1 ≤ y_tl_4104_4.toInt ∧ y_tl_4104_4.toInt ≤ x_tl_4.toInt + 7 by have q0 := h_x_tl_4.1; have q1 := h_x_tl_4.2; have q2 := hp104_6.1; have q3 := hp104_6.2; have q4 := hp104_7; omega) (lv_sub hl [0, 1, 2] rfl) hP hD hS
        refine lv_if_eq (tgt := 94) hx hb dX10_turnOp_86 (by decide) (fun c86_1 => ?_) (fun c86_1 => ?_)
        · have t86_2 := (i_eq c86_1)
          have r86_3 : rg r20_1 0 0 := rg_eqA t86_2 hp20_4 (show rg (0 : Int32) 0 0 from rg_l (by decide)) (by decide)
          refine lv_bipush (v := 59) hx hb dX10_turnOp_94 (by decide) ?_
          exact b96 (59 : Int32) H locs ls (rg_w (show rg (59 : Int32) 59 59 from rg_l (by decide)) (by decide)) (lv_sub hl [0, 3, 4] rfl) hP hD hS
        · have t86_2 := (i_ne c86_1)
          have r86_3 : rg r20_1 1 1 := rg_neAl t86_2 hp20_4 (show rg (0 : Int32) 0 0 from rg_l (by decide)) (by decide)
          refine lv_bipush (v := 51) hx hb dX10_turnOp_89 (by decide) ?_
          refine lv_goto (tgt := 96) hx hb dX10_turnOp_91 (by decide) ?_
          exact b96 (51 : Int32) H locs ls (rg_w (show rg (51 : Int32) 51 51 from rg_l (by decide)) (by decide)) (lv_sub hl [0, 3, 4] rfl) hP hD hS
    · have t56_2 := (i_eq c56_1)
      have r56_3 : rg z7_1 11 11 := rg_eqA t56_2 r7_2 (show rg (11 : Int32) 11 11 from rg_l (by decide)) (by decide)
      refine lv_aload_n hx hb dX10_turnOp_59 rfl (lv_at hl 0 rfl) ?_
      refine lv_iload hx hb dX10_turnOp_60 (lv_at hl 3 rfl) ?_
      refine lv_lload_n hx hb dX10_turnOp_62 rfl (lv_at hl 1 rfl) ?_
      refine go_i (k1 := 0) (n1 := 0) (wr := [(tl, .inr (10, [.ref tls, .ref o0, .ref p0, .int x_tl_3, .int x_tl_4])), (o0, .inr (5, [.ref o0r, .int x_o0_1])), (o0r, .inl (ct 1, 60000, .inl g_o0r))]) [] [0, 1, 2] (rn_SN (As := [.long v0]) (rest := [.int r14_1, .ref tl]) (c_X7_sOf l D ct v0  _) (cn_of (n := 1) hn mw_989 mw_7 mw_1321 mhX7_sOf ⟨(Nat.le_of_ble_eq_true rfl), (Nat.le_of_ble_eq_true rfl)⟩) hx hb hml hown hn hK hSK hZ hS mw_988 rfl hl.1 (Nat.le_of_ble_eq_true rfl) dX10_turnOp_63 ⟨(Nat.le_of_ble_eq_true rfl), (Nat.le_of_ble_eq_true rfl)⟩) hP hD hS hA rfl rfl (by decide) (by decide) (by decide) (Nat.le_of_ble_eq_true rfl) (Nat.le_of_ble_eq_true rfl) (fun r63_1 u63_2 H locs hp63_3 hP hD hS => ?_)
      obtain ⟨hp63_4, hp63_5⟩ := hp63_3
      have hp63_4 : rg r63_1 0 15 := hp63_4
      have hp63_5 : r63_1.toInt = (v0.toInt / 4096) % 16 := hp63_5
      have hP : va_P D vwCl [(tl, .inr (10, [.ref tls, .ref o0, .ref p0, .int x_tl_3, .int x_tl_4])), (o0, .inr (5, [.ref o0r, .int x_o0_1])), (o0r, .inl (ct 1, 60000, .inl g_o0r))] _ := hP
      have hD : va_D A [(tl, .inr (10, [.ref tls, .ref o0, .ref p0, .int x_tl_3, .int x_tl_4])), (o0, .inr (5, [.ref o0r, .int x_o0_1])), (o0r, .inl (ct 1, 60000, .inl g_o0r))] := hD
      refine go_i (k1 := 0) (n1 := 0) (wr := [(tl, .inr (10, [.ref tls, .ref o0, .ref p0, .int x_tl_3, .int x_tl_4])), (o0, .inr (5, [.ref o0r, .int x_o0_1])), (o0r, .inl (ct 1, 60000, .inl g_o0r))]) [] [0, 1, 2] (rn_S (As := [.int r63_1]) (rest := [.int r14_1, .ref tl]) (c_X10_placeOf l D ct r63_1  _) (cb_of (n := 1) hn mw_1308 mw_10 mw_1306 mhX10_placeOf ⟨(Nat.le_of_ble_eq_true rfl), (Nat.le_of_ble_eq_true rfl)⟩) hx hb hml hown hn hK hSK hZ hS mw_1307 rfl hl.1 (Nat.le_of_ble_eq_true rfl) dX10_turnOp_66 ⟨(Nat.le_of_ble_eq_true rfl), (Nat.le_of_ble_eq_true rfl)⟩) hP hD hS hA rfl rfl (by decide) (by decide) (by decide) (Nat.le_of_ble_eq_true rfl) (Nat.le_of_ble_eq_true rfl) (fun r66_1 u66_2 H locs hp66_3 hP hD hS => ?_)
      have hP : va_P D vwCl [(tl, .inr (10, [.ref tls, .ref o0, .ref p0, .int x_tl_3, .int x_tl_4])), (o0, .inr (5, [.ref o0r, .int x_o0_1])), (o0r, .inl (ct 1, 60000, .inl g_o0r))] _ := hP
      have hD : va_D A [(tl, .inr (10, [.ref tls, .ref o0, .ref p0, .int x_tl_3, .int x_tl_4])), (o0, .inr (5, [.ref o0r, .int x_o0_1])), (o0r, .inl (ct 1, 60000, .inl g_o0r))] := hD
      refine lv_iconst (v := 0) hx hb dX10_turnOp_69 (by decide) ?_
      refine go_v (k1 := 0) (n1 := 0) (wr := []) [0, 1, 2] [] (rn_V (As := [.int r14_1, .int r66_1, .int 0]) (rest := []) (c_X10_putAdd l D ct tl r14_1 r66_1 (0 : Int32) tls o0 p0 x_tl_3 x_tl_4 o0r x_o0_1 g_o0r h_x_tl_3 (rg_w h_x_tl_4 (by decide)) h_x_o0_1 _) (cb_of (n := 3) hn mw_1325 mw_10 mw_1322 mhX10_putAdd ⟨(Nat.le_of_ble_eq_true rfl), (Nat.le_of_ble_eq_true rfl)⟩) hx hb hml hown hn hK hSK hZ hS mw_1324 mw_s150 (ci := 10) (q0 := 0) rfl rfl rfl rfl hl.1 (Nat.le_of_ble_eq_true rfl) dX10_turnOp_70 ⟨(Nat.le_of_ble_eq_true rfl), (Nat.le_of_ble_eq_true rfl)⟩) hP hD hS hA rfl rfl (by decide) (by decide) (by decide) (Nat.le_of_ble_eq_true rfl) (Nat.le_of_ble_eq_true rfl) (fun u70_2 H locs hp70_3 hP hD hS => ?_)
      obtain ⟨y_tl_470_4, k_o0r70_5⟩ := u70_2
      obtain ⟨hp70_6, hp70_7⟩ := hp70_3
      have hp70_6 : rg y_tl_470_4 1 1000001 := hp70_6
      have hp70_7 : y_tl_470_4.toInt = x_tl_4.toInt + 1 := hp70_7
      have hP : va_P D vwCl [(tl, .inr (10, [.ref tls, .ref o0, .ref p0, .int x_tl_3, .int y_tl_470_4])), (o0, .inr (5, [.ref o0r, .int x_o0_1])), (o0r, .inl (ct 1, 60000, .inl k_o0r70_5))] _ := hP
      have hD : va_D A [(tl, .inr (10, [.ref tls, .ref o0, .ref p0, .int x_tl_3, .int y_tl_470_4])), (o0, .inr (5, [.ref o0r, .int x_o0_1])), (o0r, .inl (ct 1, 60000, .inl k_o0r70_5))] := hD
      refine lv_goto (tgt := 204) hx hb dX10_turnOp_73 (by decide) ?_
      exact b204 y_tl_470_4 k_o0r70_5 H locs ls hp70_6 (show x_tl_4.toInt + 1 ≤ y_tl_470_4.toInt ∧ y_tl_470_4.toInt ≤ x_tl_4.toInt + 7 by have q0 := h_x_tl_4.1; have q1 := h_x_tl_4.2; have q2 := hp70_6.1; have q3 := hp70_6.2; have q4 := hp70_7; omega) (lv_sub hl [0, 3, 4] rfl) hP hD hS
  refine lv_icmp_ne (tgt := 52) hx hb dX10_turnOp_29 (by decide) (fun c29_1 => ?_) (fun c29_1 => ?_)
  · have t29_2 := (i_ne c29_1)
    exact b52  H locs ls  (lv_sub hl [4, 5, 2, 1, 0] rfl) hP hD hS
  · have t29_2 := (i_eq c29_1)
    have r29_3 : rg z7_1 11 11 := rg_eqA t29_2 r7_2 (show rg (11 : Int32) 11 11 from rg_l (by decide)) (by decide)
    refine lv_iload_n hx hb dX10_turnOp_32 rfl (lv_at hl 3 rfl) ?_
    refine go_i (k1 := 0) (n1 := 0) (wr := [(tl, .inr (10, [.ref tls, .ref o0, .ref p0, .int x_tl_3, .int x_tl_4])), (o0, .inr (5, [.ref o0r, .int x_o0_1])), (o0r, .inl (ct 1, 60000, .inl g_o0r))]) [] [0, 1, 2] (rn_SN (As := [.int r1_1]) (rest := []) (c_X7_hasS l D ct r1_1  _) (cn_of (n := 1) hn mw_968 mw_7 mw_1310 mhX7_hasS ⟨(Nat.le_of_ble_eq_true rfl), (Nat.le_of_ble_eq_true rfl)⟩) hx hb hml hown hn hK hSK hZ hS mw_967 rfl hl.1 (Nat.le_of_ble_eq_true rfl) dX10_turnOp_33 ⟨(Nat.le_of_ble_eq_true rfl), (Nat.le_of_ble_eq_true rfl)⟩) hP hD hS hA rfl rfl (by decide) (by decide) (by decide) (Nat.le_of_ble_eq_true rfl) (Nat.le_of_ble_eq_true rfl) (fun r33_1 u33_2 H locs hp33_3 hP hD hS => ?_)
    have hp33_4 := hp33_3
    have hp33_4 : rg r33_1 0 1 := hp33_4
    have hP : va_P D vwCl [(tl, .inr (10, [.ref tls, .ref o0, .ref p0, .int x_tl_3, .int x_tl_4])), (o0, .inr (5, [.ref o0r, .int x_o0_1])), (o0r, .inl (ct 1, 60000, .inl g_o0r))] _ := hP
    have hD : va_D A [(tl, .inr (10, [.ref tls, .ref o0, .ref p0, .int x_tl_3, .int x_tl_4])), (o0, .inr (5, [.ref o0r, .int x_o0_1])), (o0r, .inl (ct 1, 60000, .inl g_o0r))] := hD
    refine lv_if_ne (tgt := 52) hx hb dX10_turnOp_36 (by decide) (fun c36_1 => ?_) (fun c36_1 => ?_)
    · have t36_2 := (i_ne c36_1)
      have r36_3 : rg r33_1 1 1 := rg_neAl t36_2 hp33_4 (show rg (0 : Int32) 0 0 from rg_l (by decide)) (by decide)
      exact b52  H locs ls  (lv_sub hl [4, 5, 2, 1, 0] rfl) hP hD hS
    · have t36_2 := (i_eq c36_1)
      have r36_3 : rg r33_1 0 0 := rg_eqA t36_2 hp33_4 (show rg (0 : Int32) 0 0 from rg_l (by decide)) (by decide)
      refine lv_aload_n hx hb dX10_turnOp_39 rfl (lv_at hl 4 rfl) ?_
      refine lv_iload hx hb dX10_turnOp_40 (lv_at hl 1 rfl) ?_
      refine lv_lload_n hx hb dX10_turnOp_42 rfl (lv_at hl 5 rfl) ?_
      refine go_i (k1 := 0) (n1 := 0) (wr := [(tl, .inr (10, [.ref tls, .ref o0, .ref p0, .int x_tl_3, .int x_tl_4])), (o0, .inr (5, [.ref o0r, .int x_o0_1])), (o0r, .inl (ct 1, 60000, .inl g_o0r))]) [] [0, 1, 2] (rn_SN (As := [.long v0]) (rest := [.int r14_1, .ref tl]) (c_X7_kOf l D ct v0  _) (cn_of (n := 1) hn mw_995 mw_7 mw_1311 mhX7_kOf ⟨(Nat.le_of_ble_eq_true rfl), (Nat.le_of_ble_eq_true rfl)⟩) hx hb hml hown hn hK hSK hZ hS mw_994 rfl hl.1 (Nat.le_of_ble_eq_true rfl) dX10_turnOp_43 ⟨(Nat.le_of_ble_eq_true rfl), (Nat.le_of_ble_eq_true rfl)⟩) hP hD hS hA rfl rfl (by decide) (by decide) (by decide) (Nat.le_of_ble_eq_true rfl) (Nat.le_of_ble_eq_true rfl) (fun r43_1 u43_2 H locs hp43_3 hP hD hS => ?_)
      have hP : va_P D vwCl [(tl, .inr (10, [.ref tls, .ref o0, .ref p0, .int x_tl_3, .int x_tl_4])), (o0, .inr (5, [.ref o0r, .int x_o0_1])), (o0r, .inl (ct 1, 60000, .inl g_o0r))] _ := hP
      have hD : va_D A [(tl, .inr (10, [.ref tls, .ref o0, .ref p0, .int x_tl_3, .int x_tl_4])), (o0, .inr (5, [.ref o0r, .int x_o0_1])), (o0r, .inl (ct 1, 60000, .inl g_o0r))] := hD
      refine go_v (k1 := 0) (n1 := 0) (wr := []) [0, 1, 2] [] (rn_V (As := [.int r14_1, .int r43_1]) (rest := []) (c_X10_putNumber l D ct tl r14_1 r43_1 tls o0 p0 x_tl_3 x_tl_4 o0r x_o0_1 g_o0r h_x_tl_3 (rg_w h_x_tl_4 (by decide)) h_x_o0_1 _) (cb_of (n := 2) hn mw_1315 mw_10 mw_1312 mhX10_putNumber ⟨(Nat.le_of_ble_eq_true rfl), (Nat.le_of_ble_eq_true rfl)⟩) hx hb hml hown hn hK hSK hZ hS mw_1314 mw_s148 (ci := 10) (q0 := 0) rfl rfl rfl rfl hl.1 (Nat.le_of_ble_eq_true rfl) dX10_turnOp_46 ⟨(Nat.le_of_ble_eq_true rfl), (Nat.le_of_ble_eq_true rfl)⟩) hP hD hS hA rfl rfl (by decide) (by decide) (by decide) (Nat.le_of_ble_eq_true rfl) (Nat.le_of_ble_eq_true rfl) (fun u46_2 H locs hp46_3 hP hD hS => ?_)
      obtain ⟨y_tl_446_4, k_o0r46_5⟩ := u46_2
      obtain ⟨hp46_6, hp46_7⟩ := hp46_3
      have hp46_6 : rg y_tl_446_4 1 1000001 := hp46_6
      have hp46_7 : x_tl_4.toInt + 1 ≤ y_tl_446_4.toInt ∧ y_tl_446_4.toInt ≤ x_tl_4.toInt + 2 := hp46_7
      have hP : va_P D vwCl [(tl, .inr (10, [.ref tls, .ref o0, .ref p0, .int x_tl_3, .int y_tl_446_4])), (o0, .inr (5, [.ref o0r, .int x_o0_1])), (o0r, .inl (ct 1, 60000, .inl k_o0r46_5))] _ := hP
      have hD : va_D A [(tl, .inr (10, [.ref tls, .ref o0, .ref p0, .int x_tl_3, .int y_tl_446_4])), (o0, .inr (5, [.ref o0r, .int x_o0_1])), (o0r, .inl (ct 1, 60000, .inl k_o0r46_5))] := hD
      refine lv_goto (tgt := 204) hx hb dX10_turnOp_49 (by decide) ?_
      exact b204 y_tl_446_4 k_o0r46_5 H locs ls hp46_6 (show x_tl_4.toInt + 1 ≤ y_tl_446_4.toInt ∧ y_tl_446_4.toInt ≤ x_tl_4.toInt + 7 by have q0 := h_x_tl_4.1; have q1 := h_x_tl_4.2; have q2 := hp46_6.1; have q3 := hp46_6.2; have q4 := hp46_7; omega) (lv_sub hl [4, 1, 0] rfl) hP hD hS
set_option maxHeartbeats 2000000 in
theorem c_X10_putPassing (l : Launch) (D : va_G) (ct : Nat → ClassId) (tl : Nat) (v0 : Int32) (v1 : Int32) (v2 : Int32) (tls : Nat) (o0 : Nat) (p0 : Nat) (x_tl_3 : Int32) (x_tl_4 : Int32) (o0r : Nat) (x_o0_1 : Int32) (g_o0r : Nat → Int32) (h_x_tl_3 : rg x_tl_3 0 1) (h_x_tl_4 : rg x_tl_4 0 999900) (h_x_o0_1 : rg x_o0_1 0 60000) : KV (S := Int32 × (Nat → Int32)) l yX10_putPassing cX10_putPassing 4 none 3 67 D ct [.ref tl, .int v0, .int v1, .int v2] [(tl, .inr (10, [.ref tls, .ref o0, .ref p0, .int x_tl_3, .int x_tl_4])), (o0, .inr (5, [.ref o0r, .int x_o0_1])), (o0r, .inl (ct 1, 60000, .inl g_o0r))] 0 0 (fun (u : Int32 × (Nat → Int32)) => match u with | (y_tl_4, k_o0r) => rg y_tl_4 1 1000001 ∧ (x_tl_4.toInt + 1 ≤ y_tl_4.toInt ∧ y_tl_4.toInt ≤ x_tl_4.toInt + 2)) (fun (u : Int32 × (Nat → Int32)) => match u with | (y_tl_4, k_o0r) => [(tl, .inr (10, [.ref tls, .ref o0, .ref p0, .int x_tl_3, .int y_tl_4])), (o0, .inr (5, [.ref o0r, .int x_o0_1])), (o0r, .inl (ct 1, 60000, .inl k_o0r))]) := by
  refine KVq_of (by decide) (Nat.le_of_ble_eq_true rfl) (fun p e s m below meth c A Q C0 hA H locs hS hP hD hQ ls hl => ?_)
  obtain ⟨hx, hb, hr, hown, hin, hml, hlocks, hn, hK, hZ, hSK⟩ := C0
  have hl : lv_has ls 4 [(0, .ref tl), (1, .int v0), (2, .int v1), (3, .int v2)] := hl
  refine lv_iload_n hx hb dX10_putPassing_0 rfl (lv_at hl 1 rfl) ?_
  have b202 : ∀  (H : Heap) (locs : List Loc) (ls : Array Slot), lv_has ls 4 [(0, .ref tl), (2, .int v1), (3, .int v2)] → va_P D vwCl [(tl, .inr (10, [.ref tls, .ref o0, .ref p0, .int x_tl_3, .int x_tl_4])), (o0, .inr (5, [.ref o0r, .int x_o0_1])), (o0r, .inl (ct 1, 60000, .inl g_o0r))] H → va_D A [(tl, .inr (10, [.ref tls, .ref o0, .ref p0, .int x_tl_3, .int x_tl_4])), (o0, .inr (5, [.ref o0r, .int x_o0_1])), (o0r, .inl (ct 1, 60000, .inl g_o0r))] → va_S A s.heap H locs → W p l e ({ frames := 3, cells := 0, slots := 0, locals := 67 }) s m [.ref tl, .int v0, .int v1, .int v2].toArray below meth c H locs 0 0 Q (F0 m 202 ls []) := by
    intro  H locs ls  hl hP hD hS
    refine lv_aload_n hx hb dX10_putPassing_202 rfl (lv_at hl 0 rfl) ?_
    refine lv_iconst (v := 4) hx hb dX10_putPassing_203 (by decide) ?_
    refine lv_iload_n hx hb dX10_putPassing_204 rfl (lv_at hl 2 rfl) ?_
    refine lv_iload_n hx hb dX10_putPassing_205 rfl (lv_at hl 1 rfl) ?_
    refine lv_bipush (v := 8) hx hb dX10_putPassing_206 (by decide) ?_
    refine go_v (k1 := 0) (n1 := 0) (wr := []) [0, 1, 2] [] (rn_V (As := [.int 4, .int v2, .int v1, .int 8]) (rest := []) (c_X10_putBranch l D ct tl (4 : Int32) v2 v1 (8 : Int32) tls o0 p0 x_tl_3 x_tl_4 o0r x_o0_1 g_o0r h_x_tl_3 (rg_w h_x_tl_4 (by decide)) h_x_o0_1 _) (cb_of (n := 4) hn mw_1345 mw_10 mw_1342 mhX10_putBranch ⟨(Nat.le_of_ble_eq_true rfl), (Nat.le_of_ble_eq_true rfl)⟩) hx hb hml hown hn hK hSK hZ hS mw_1344 mw_s155 (ci := 10) (q0 := 0) rfl rfl rfl rfl hl.1 (Nat.le_of_ble_eq_true rfl) dX10_putPassing_208 ⟨(Nat.le_of_ble_eq_true rfl), (Nat.le_of_ble_eq_true rfl)⟩) hP hD hS hA rfl rfl (by decide) (by decide) (by decide) (Nat.le_of_ble_eq_true rfl) (Nat.le_of_ble_eq_true rfl) (fun u208_2 H locs hp208_3 hP hD hS => ?_)
    obtain ⟨y_tl_4208_4, k_o0r208_5⟩ := u208_2
    obtain ⟨hp208_6, hp208_7⟩ := hp208_3
    have hp208_6 : rg y_tl_4208_4 1 1000001 := hp208_6
    have hp208_7 : y_tl_4208_4.toInt = x_tl_4.toInt + 1 := hp208_7
    have hP : va_P D vwCl [(tl, .inr (10, [.ref tls, .ref o0, .ref p0, .int x_tl_3, .int y_tl_4208_4])), (o0, .inr (5, [.ref o0r, .int x_o0_1])), (o0r, .inl (ct 1, 60000, .inl k_o0r208_5))] _ := hP
    have hD : va_D A [(tl, .inr (10, [.ref tls, .ref o0, .ref p0, .int x_tl_3, .int y_tl_4208_4])), (o0, .inr (5, [.ref o0r, .int x_o0_1])), (o0r, .inl (ct 1, 60000, .inl k_o0r208_5))] := hD
    exact endq_v hQ hx hb hr hlocks dX10_putPassing_211 (y_tl_4208_4, k_o0r208_5) ⟨hp208_6, (show x_tl_4.toInt + 1 ≤ y_tl_4208_4.toInt ∧ y_tl_4208_4.toInt ≤ x_tl_4.toInt + 2 by have q0 := h_x_tl_4.1; have q1 := h_x_tl_4.2; have q2 := hp208_6.1; have q3 := hp208_6.2; have q4 := hp208_7; omega)⟩ hP hD hS [0, 1, 2] rfl (by decide) rfl (Nat.le_of_ble_eq_true rfl) (Nat.le_of_ble_eq_true rfl)
  by_cases h1_101 : v0.toInt = 1
  · have r1_102 : rg v0 1 1 := rg_at h1_101
    refine lv_tableIn (off := 89) (tgt := 90) hx hb dX10_putPassing_1 (by rw [h1_101]; decide) (by rw [h1_101]; decide) (by rw [h1_101]; rfl) (by decide) ?_
    refine lv_aload_n hx hb dX10_putPassing_90 rfl (lv_at hl 0 rfl) ?_
    refine lv_iconst (v := 1) hx hb dX10_putPassing_91 (by decide) ?_
    refine lv_iload_n hx hb dX10_putPassing_92 rfl (lv_at hl 2 rfl) ?_
    refine lv_iload_n hx hb dX10_putPassing_93 rfl (lv_at hl 3 rfl) ?_
    refine lv_bipush (v := 8) hx hb dX10_putPassing_94 (by decide) ?_
    refine go_v (k1 := 0) (n1 := 0) (wr := []) [0, 1, 2] [] (rn_V (As := [.int 1, .int v1, .int v2, .int 8]) (rest := []) (c_X10_putBranch l D ct tl (1 : Int32) v1 v2 (8 : Int32) tls o0 p0 x_tl_3 x_tl_4 o0r x_o0_1 g_o0r h_x_tl_3 (rg_w h_x_tl_4 (by decide)) h_x_o0_1 _) (cb_of (n := 4) hn mw_1345 mw_10 mw_1342 mhX10_putBranch ⟨(Nat.le_of_ble_eq_true rfl), (Nat.le_of_ble_eq_true rfl)⟩) hx hb hml hown hn hK hSK hZ hS mw_1344 mw_s155 (ci := 10) (q0 := 0) rfl rfl rfl rfl hl.1 (Nat.le_of_ble_eq_true rfl) dX10_putPassing_96 ⟨(Nat.le_of_ble_eq_true rfl), (Nat.le_of_ble_eq_true rfl)⟩) hP hD hS hA rfl rfl (by decide) (by decide) (by decide) (Nat.le_of_ble_eq_true rfl) (Nat.le_of_ble_eq_true rfl) (fun u96_2 H locs hp96_3 hP hD hS => ?_)
    obtain ⟨y_tl_496_4, k_o0r96_5⟩ := u96_2
    obtain ⟨hp96_6, hp96_7⟩ := hp96_3
    have hp96_6 : rg y_tl_496_4 1 1000001 := hp96_6
    have hp96_7 : y_tl_496_4.toInt = x_tl_4.toInt + 1 := hp96_7
    have hP : va_P D vwCl [(tl, .inr (10, [.ref tls, .ref o0, .ref p0, .int x_tl_3, .int y_tl_496_4])), (o0, .inr (5, [.ref o0r, .int x_o0_1])), (o0r, .inl (ct 1, 60000, .inl k_o0r96_5))] _ := hP
    have hD : va_D A [(tl, .inr (10, [.ref tls, .ref o0, .ref p0, .int x_tl_3, .int y_tl_496_4])), (o0, .inr (5, [.ref o0r, .int x_o0_1])), (o0r, .inl (ct 1, 60000, .inl k_o0r96_5))] := hD
    refine lv_goto (tgt := 211) hx hb dX10_putPassing_99 (by decide) ?_
    exact endq_v hQ hx hb hr hlocks dX10_putPassing_211 (y_tl_496_4, k_o0r96_5) ⟨hp96_6, (show x_tl_4.toInt + 1 ≤ y_tl_496_4.toInt ∧ y_tl_496_4.toInt ≤ x_tl_4.toInt + 2 by have q0 := h_x_tl_4.1; have q1 := h_x_tl_4.2; have q2 := hp96_6.1; have q3 := hp96_6.2; have q4 := hp96_7; omega)⟩ hP hD hS [0, 1, 2] rfl (by decide) rfl (Nat.le_of_ble_eq_true rfl) (Nat.le_of_ble_eq_true rfl)
  by_cases h1_111 : v0.toInt = 2
  · have r1_112 : rg v0 2 2 := rg_at h1_111
    refine lv_tableIn (off := 113) (tgt := 114) hx hb dX10_putPassing_1 (by rw [h1_111]; decide) (by rw [h1_111]; decide) (by rw [h1_111]; rfl) (by decide) ?_
    refine lv_aload_n hx hb dX10_putPassing_114 rfl (lv_at hl 0 rfl) ?_
    refine lv_bipush (v := 7) hx hb dX10_putPassing_115 (by decide) ?_
    refine lv_iload_n hx hb dX10_putPassing_117 rfl (lv_at hl 3 rfl) ?_
    refine lv_iload_n hx hb dX10_putPassing_118 rfl (lv_at hl 2 rfl) ?_
    refine lv_bipush (v := 8) hx hb dX10_putPassing_119 (by decide) ?_
    refine go_v (k1 := 0) (n1 := 0) (wr := []) [0, 1, 2] [] (rn_V (As := [.int 7, .int v2, .int v1, .int 8]) (rest := []) (c_X10_putBranch l D ct tl (7 : Int32) v2 v1 (8 : Int32) tls o0 p0 x_tl_3 x_tl_4 o0r x_o0_1 g_o0r h_x_tl_3 (rg_w h_x_tl_4 (by decide)) h_x_o0_1 _) (cb_of (n := 4) hn mw_1345 mw_10 mw_1342 mhX10_putBranch ⟨(Nat.le_of_ble_eq_true rfl), (Nat.le_of_ble_eq_true rfl)⟩) hx hb hml hown hn hK hSK hZ hS mw_1344 mw_s155 (ci := 10) (q0 := 0) rfl rfl rfl rfl hl.1 (Nat.le_of_ble_eq_true rfl) dX10_putPassing_121 ⟨(Nat.le_of_ble_eq_true rfl), (Nat.le_of_ble_eq_true rfl)⟩) hP hD hS hA rfl rfl (by decide) (by decide) (by decide) (Nat.le_of_ble_eq_true rfl) (Nat.le_of_ble_eq_true rfl) (fun u121_2 H locs hp121_3 hP hD hS => ?_)
    obtain ⟨y_tl_4121_4, k_o0r121_5⟩ := u121_2
    obtain ⟨hp121_6, hp121_7⟩ := hp121_3
    have hp121_6 : rg y_tl_4121_4 1 1000001 := hp121_6
    have hp121_7 : y_tl_4121_4.toInt = x_tl_4.toInt + 1 := hp121_7
    have hP : va_P D vwCl [(tl, .inr (10, [.ref tls, .ref o0, .ref p0, .int x_tl_3, .int y_tl_4121_4])), (o0, .inr (5, [.ref o0r, .int x_o0_1])), (o0r, .inl (ct 1, 60000, .inl k_o0r121_5))] _ := hP
    have hD : va_D A [(tl, .inr (10, [.ref tls, .ref o0, .ref p0, .int x_tl_3, .int y_tl_4121_4])), (o0, .inr (5, [.ref o0r, .int x_o0_1])), (o0r, .inl (ct 1, 60000, .inl k_o0r121_5))] := hD
    refine lv_goto (tgt := 211) hx hb dX10_putPassing_124 (by decide) ?_
    exact endq_v hQ hx hb hr hlocks dX10_putPassing_211 (y_tl_4121_4, k_o0r121_5) ⟨hp121_6, (show x_tl_4.toInt + 1 ≤ y_tl_4121_4.toInt ∧ y_tl_4121_4.toInt ≤ x_tl_4.toInt + 2 by have q0 := h_x_tl_4.1; have q1 := h_x_tl_4.2; have q2 := hp121_6.1; have q3 := hp121_6.2; have q4 := hp121_7; omega)⟩ hP hD hS [0, 1, 2] rfl (by decide) rfl (Nat.le_of_ble_eq_true rfl) (Nat.le_of_ble_eq_true rfl)
  by_cases h1_121 : v0.toInt = 3
  · have r1_122 : rg v0 3 3 := rg_at h1_121
    refine lv_tableIn (off := 126) (tgt := 127) hx hb dX10_putPassing_1 (by rw [h1_121]; decide) (by rw [h1_121]; decide) (by rw [h1_121]; rfl) (by decide) ?_
    refine lv_aload_n hx hb dX10_putPassing_127 rfl (lv_at hl 0 rfl) ?_
    refine lv_bipush (v := 6) hx hb dX10_putPassing_128 (by decide) ?_
    refine lv_iload_n hx hb dX10_putPassing_130 rfl (lv_at hl 2 rfl) ?_
    refine lv_iload_n hx hb dX10_putPassing_131 rfl (lv_at hl 3 rfl) ?_
    refine lv_bipush (v := 8) hx hb dX10_putPassing_132 (by decide) ?_
    refine go_v (k1 := 0) (n1 := 0) (wr := []) [0, 1, 2] [] (rn_V (As := [.int 6, .int v1, .int v2, .int 8]) (rest := []) (c_X10_putBranch l D ct tl (6 : Int32) v1 v2 (8 : Int32) tls o0 p0 x_tl_3 x_tl_4 o0r x_o0_1 g_o0r h_x_tl_3 (rg_w h_x_tl_4 (by decide)) h_x_o0_1 _) (cb_of (n := 4) hn mw_1345 mw_10 mw_1342 mhX10_putBranch ⟨(Nat.le_of_ble_eq_true rfl), (Nat.le_of_ble_eq_true rfl)⟩) hx hb hml hown hn hK hSK hZ hS mw_1344 mw_s155 (ci := 10) (q0 := 0) rfl rfl rfl rfl hl.1 (Nat.le_of_ble_eq_true rfl) dX10_putPassing_134 ⟨(Nat.le_of_ble_eq_true rfl), (Nat.le_of_ble_eq_true rfl)⟩) hP hD hS hA rfl rfl (by decide) (by decide) (by decide) (Nat.le_of_ble_eq_true rfl) (Nat.le_of_ble_eq_true rfl) (fun u134_2 H locs hp134_3 hP hD hS => ?_)
    obtain ⟨y_tl_4134_4, k_o0r134_5⟩ := u134_2
    obtain ⟨hp134_6, hp134_7⟩ := hp134_3
    have hp134_6 : rg y_tl_4134_4 1 1000001 := hp134_6
    have hp134_7 : y_tl_4134_4.toInt = x_tl_4.toInt + 1 := hp134_7
    have hP : va_P D vwCl [(tl, .inr (10, [.ref tls, .ref o0, .ref p0, .int x_tl_3, .int y_tl_4134_4])), (o0, .inr (5, [.ref o0r, .int x_o0_1])), (o0r, .inl (ct 1, 60000, .inl k_o0r134_5))] _ := hP
    have hD : va_D A [(tl, .inr (10, [.ref tls, .ref o0, .ref p0, .int x_tl_3, .int y_tl_4134_4])), (o0, .inr (5, [.ref o0r, .int x_o0_1])), (o0r, .inl (ct 1, 60000, .inl k_o0r134_5))] := hD
    refine lv_goto (tgt := 211) hx hb dX10_putPassing_137 (by decide) ?_
    exact endq_v hQ hx hb hr hlocks dX10_putPassing_211 (y_tl_4134_4, k_o0r134_5) ⟨hp134_6, (show x_tl_4.toInt + 1 ≤ y_tl_4134_4.toInt ∧ y_tl_4134_4.toInt ≤ x_tl_4.toInt + 2 by have q0 := h_x_tl_4.1; have q1 := h_x_tl_4.2; have q2 := hp134_6.1; have q3 := hp134_6.2; have q4 := hp134_7; omega)⟩ hP hD hS [0, 1, 2] rfl (by decide) rfl (Nat.le_of_ble_eq_true rfl) (Nat.le_of_ble_eq_true rfl)
  by_cases h1_131 : v0.toInt = 4
  · have r1_132 : rg v0 4 4 := rg_at h1_131
    refine lv_tableIn (off := 63) (tgt := 64) hx hb dX10_putPassing_1 (by rw [h1_131]; decide) (by rw [h1_131]; decide) (by rw [h1_131]; rfl) (by decide) ?_
    refine lv_aload_n hx hb dX10_putPassing_64 rfl (lv_at hl 0 rfl) ?_
    refine lv_bipush (v := 51) hx hb dX10_putPassing_65 (by decide) ?_
    refine lv_iconst (v := 0) hx hb dX10_putPassing_67 (by decide) ?_
    refine lv_bipush (v := 7) hx hb dX10_putPassing_68 (by decide) ?_
    refine lv_bipush (v := 6) hx hb dX10_putPassing_70 (by decide) ?_
    refine lv_iload_n hx hb dX10_putPassing_72 rfl (lv_at hl 2 rfl) ?_
    refine lv_iload_n hx hb dX10_putPassing_73 rfl (lv_at hl 3 rfl) ?_
    refine go_v (k1 := 0) (n1 := 0) (wr := []) [0, 1, 2] [] (rn_V (As := [.int 51, .int 0, .int 7, .int 6, .int v1, .int v2]) (rest := []) (c_X10_putOp l D ct tl (51 : Int32) (0 : Int32) (7 : Int32) (6 : Int32) v1 v2 tls o0 p0 x_tl_3 x_tl_4 o0r x_o0_1 g_o0r h_x_tl_3 (rg_w h_x_tl_4 (by decide)) h_x_o0_1 _) (cb_of (n := 6) hn mw_1329 mw_10 mw_1326 mhX10_putOp ⟨(Nat.le_of_ble_eq_true rfl), (Nat.le_of_ble_eq_true rfl)⟩) hx hb hml hown hn hK hSK hZ hS mw_1328 mw_s151 (ci := 10) (q0 := 0) rfl rfl rfl rfl hl.1 (Nat.le_of_ble_eq_true rfl) dX10_putPassing_74 ⟨(Nat.le_of_ble_eq_true rfl), (Nat.le_of_ble_eq_true rfl)⟩) hP hD hS hA rfl rfl (by decide) (by decide) (by decide) (Nat.le_of_ble_eq_true rfl) (Nat.le_of_ble_eq_true rfl) (fun u74_2 H locs hp74_3 hP hD hS => ?_)
    obtain ⟨y_tl_474_4, k_o0r74_5⟩ := u74_2
    obtain ⟨hp74_6, hp74_7⟩ := hp74_3
    have hp74_6 : rg y_tl_474_4 1 1000001 := hp74_6
    have hp74_7 : y_tl_474_4.toInt = x_tl_4.toInt + 1 := hp74_7
    have hP : va_P D vwCl [(tl, .inr (10, [.ref tls, .ref o0, .ref p0, .int x_tl_3, .int y_tl_474_4])), (o0, .inr (5, [.ref o0r, .int x_o0_1])), (o0r, .inl (ct 1, 60000, .inl k_o0r74_5))] _ := hP
    have hD : va_D A [(tl, .inr (10, [.ref tls, .ref o0, .ref p0, .int x_tl_3, .int y_tl_474_4])), (o0, .inr (5, [.ref o0r, .int x_o0_1])), (o0r, .inl (ct 1, 60000, .inl k_o0r74_5))] := hD
    refine lv_aload_n hx hb dX10_putPassing_77 rfl (lv_at hl 0 rfl) ?_
    refine lv_iconst (v := 0) hx hb dX10_putPassing_78 (by decide) ?_
    refine lv_bipush (v := 6) hx hb dX10_putPassing_79 (by decide) ?_
    refine lv_iconst (v := 0) hx hb dX10_putPassing_81 (by decide) ?_
    refine lv_bipush (v := 8) hx hb dX10_putPassing_82 (by decide) ?_
    refine go_v (k1 := 0) (n1 := 0) (wr := []) [0, 1, 2] [] (rn_V (As := [.int 0, .int 6, .int 0, .int 8]) (rest := []) (c_X10_putBranch l D ct tl (0 : Int32) (6 : Int32) (0 : Int32) (8 : Int32) tls o0 p0 x_tl_3 y_tl_474_4 o0r x_o0_1 k_o0r74_5 h_x_tl_3 (rg_of (show 0 ≤ y_tl_474_4.toInt ∧ y_tl_474_4.toInt ≤ 999990 by have q0 := hp74_6.1; have q1 := hp74_6.2; have q2 := h_x_tl_4.1; have q3 := h_x_tl_4.2; have q4 := hp74_7; omega)) h_x_o0_1 _) (cb_of (n := 4) hn mw_1345 mw_10 mw_1342 mhX10_putBranch ⟨(Nat.le_of_ble_eq_true rfl), (Nat.le_of_ble_eq_true rfl)⟩) hx hb hml hown hn hK hSK hZ hS mw_1344 mw_s155 (ci := 10) (q0 := 0) rfl rfl rfl rfl hl.1 (Nat.le_of_ble_eq_true rfl) dX10_putPassing_84 ⟨(Nat.le_of_ble_eq_true rfl), (Nat.le_of_ble_eq_true rfl)⟩) hP hD hS hA rfl rfl (by decide) (by decide) (by decide) (Nat.le_of_ble_eq_true rfl) (Nat.le_of_ble_eq_true rfl) (fun u84_2 H locs hp84_3 hP hD hS => ?_)
    obtain ⟨y_tl_484_4, k_o0r84_5⟩ := u84_2
    obtain ⟨hp84_6, hp84_7⟩ := hp84_3
    have hp84_6 : rg y_tl_484_4 1 1000001 := hp84_6
    have hp84_7 : y_tl_484_4.toInt = y_tl_474_4.toInt + 1 := hp84_7
    have hP : va_P D vwCl [(tl, .inr (10, [.ref tls, .ref o0, .ref p0, .int x_tl_3, .int y_tl_484_4])), (o0, .inr (5, [.ref o0r, .int x_o0_1])), (o0r, .inl (ct 1, 60000, .inl k_o0r84_5))] _ := hP
    have hD : va_D A [(tl, .inr (10, [.ref tls, .ref o0, .ref p0, .int x_tl_3, .int y_tl_484_4])), (o0, .inr (5, [.ref o0r, .int x_o0_1])), (o0r, .inl (ct 1, 60000, .inl k_o0r84_5))] := hD
    refine lv_goto (tgt := 211) hx hb dX10_putPassing_87 (by decide) ?_
    exact endq_v hQ hx hb hr hlocks dX10_putPassing_211 (y_tl_484_4, k_o0r84_5) ⟨hp84_6, (show x_tl_4.toInt + 1 ≤ y_tl_484_4.toInt ∧ y_tl_484_4.toInt ≤ x_tl_4.toInt + 2 by have q0 := h_x_tl_4.1; have q1 := h_x_tl_4.2; have q2 := hp84_6.1; have q3 := hp84_6.2; have q4 := hp74_6.1; have q5 := hp74_6.2; have q6 := hp74_7; have q7 := hp84_7; omega)⟩ hP hD hS [0, 1, 2] rfl (by decide) rfl (Nat.le_of_ble_eq_true rfl) (Nat.le_of_ble_eq_true rfl)
  by_cases h1_141 : v0.toInt = 5
  · have r1_142 : rg v0 5 5 := rg_at h1_141
    refine lv_tableIn (off := 101) (tgt := 102) hx hb dX10_putPassing_1 (by rw [h1_141]; decide) (by rw [h1_141]; decide) (by rw [h1_141]; rfl) (by decide) ?_
    refine lv_aload_n hx hb dX10_putPassing_102 rfl (lv_at hl 0 rfl) ?_
    refine lv_iconst (v := 0) hx hb dX10_putPassing_103 (by decide) ?_
    refine lv_iload_n hx hb dX10_putPassing_104 rfl (lv_at hl 2 rfl) ?_
    refine lv_iload_n hx hb dX10_putPassing_105 rfl (lv_at hl 3 rfl) ?_
    refine lv_bipush (v := 8) hx hb dX10_putPassing_106 (by decide) ?_
    refine go_v (k1 := 0) (n1 := 0) (wr := []) [0, 1, 2] [] (rn_V (As := [.int 0, .int v1, .int v2, .int 8]) (rest := []) (c_X10_putBranch l D ct tl (0 : Int32) v1 v2 (8 : Int32) tls o0 p0 x_tl_3 x_tl_4 o0r x_o0_1 g_o0r h_x_tl_3 (rg_w h_x_tl_4 (by decide)) h_x_o0_1 _) (cb_of (n := 4) hn mw_1345 mw_10 mw_1342 mhX10_putBranch ⟨(Nat.le_of_ble_eq_true rfl), (Nat.le_of_ble_eq_true rfl)⟩) hx hb hml hown hn hK hSK hZ hS mw_1344 mw_s155 (ci := 10) (q0 := 0) rfl rfl rfl rfl hl.1 (Nat.le_of_ble_eq_true rfl) dX10_putPassing_108 ⟨(Nat.le_of_ble_eq_true rfl), (Nat.le_of_ble_eq_true rfl)⟩) hP hD hS hA rfl rfl (by decide) (by decide) (by decide) (Nat.le_of_ble_eq_true rfl) (Nat.le_of_ble_eq_true rfl) (fun u108_2 H locs hp108_3 hP hD hS => ?_)
    obtain ⟨y_tl_4108_4, k_o0r108_5⟩ := u108_2
    obtain ⟨hp108_6, hp108_7⟩ := hp108_3
    have hp108_6 : rg y_tl_4108_4 1 1000001 := hp108_6
    have hp108_7 : y_tl_4108_4.toInt = x_tl_4.toInt + 1 := hp108_7
    have hP : va_P D vwCl [(tl, .inr (10, [.ref tls, .ref o0, .ref p0, .int x_tl_3, .int y_tl_4108_4])), (o0, .inr (5, [.ref o0r, .int x_o0_1])), (o0r, .inl (ct 1, 60000, .inl k_o0r108_5))] _ := hP
    have hD : va_D A [(tl, .inr (10, [.ref tls, .ref o0, .ref p0, .int x_tl_3, .int y_tl_4108_4])), (o0, .inr (5, [.ref o0r, .int x_o0_1])), (o0r, .inl (ct 1, 60000, .inl k_o0r108_5))] := hD
    refine lv_goto (tgt := 211) hx hb dX10_putPassing_111 (by decide) ?_
    exact endq_v hQ hx hb hr hlocks dX10_putPassing_211 (y_tl_4108_4, k_o0r108_5) ⟨hp108_6, (show x_tl_4.toInt + 1 ≤ y_tl_4108_4.toInt ∧ y_tl_4108_4.toInt ≤ x_tl_4.toInt + 2 by have q0 := h_x_tl_4.1; have q1 := h_x_tl_4.2; have q2 := hp108_6.1; have q3 := hp108_6.2; have q4 := hp108_7; omega)⟩ hP hD hS [0, 1, 2] rfl (by decide) rfl (Nat.le_of_ble_eq_true rfl) (Nat.le_of_ble_eq_true rfl)
  by_cases h1_151 : v0.toInt = 6
  · have r1_152 : rg v0 6 6 := rg_at h1_151
    refine lv_tableIn (off := 165) (tgt := 166) hx hb dX10_putPassing_1 (by rw [h1_151]; decide) (by rw [h1_151]; decide) (by rw [h1_151]; rfl) (by decide) ?_
    refine lv_aload_n hx hb dX10_putPassing_166 rfl (lv_at hl 0 rfl) ?_
    refine lv_iconst (v := 5) hx hb dX10_putPassing_167 (by decide) ?_
    refine lv_iload_n hx hb dX10_putPassing_168 rfl (lv_at hl 3 rfl) ?_
    refine lv_iload_n hx hb dX10_putPassing_169 rfl (lv_at hl 2 rfl) ?_
    refine lv_bipush (v := 8) hx hb dX10_putPassing_170 (by decide) ?_
    refine go_v (k1 := 0) (n1 := 0) (wr := []) [0, 1, 2] [] (rn_V (As := [.int 5, .int v2, .int v1, .int 8]) (rest := []) (c_X10_putBranch l D ct tl (5 : Int32) v2 v1 (8 : Int32) tls o0 p0 x_tl_3 x_tl_4 o0r x_o0_1 g_o0r h_x_tl_3 (rg_w h_x_tl_4 (by decide)) h_x_o0_1 _) (cb_of (n := 4) hn mw_1345 mw_10 mw_1342 mhX10_putBranch ⟨(Nat.le_of_ble_eq_true rfl), (Nat.le_of_ble_eq_true rfl)⟩) hx hb hml hown hn hK hSK hZ hS mw_1344 mw_s155 (ci := 10) (q0 := 0) rfl rfl rfl rfl hl.1 (Nat.le_of_ble_eq_true rfl) dX10_putPassing_172 ⟨(Nat.le_of_ble_eq_true rfl), (Nat.le_of_ble_eq_true rfl)⟩) hP hD hS hA rfl rfl (by decide) (by decide) (by decide) (Nat.le_of_ble_eq_true rfl) (Nat.le_of_ble_eq_true rfl) (fun u172_2 H locs hp172_3 hP hD hS => ?_)
    obtain ⟨y_tl_4172_4, k_o0r172_5⟩ := u172_2
    obtain ⟨hp172_6, hp172_7⟩ := hp172_3
    have hp172_6 : rg y_tl_4172_4 1 1000001 := hp172_6
    have hp172_7 : y_tl_4172_4.toInt = x_tl_4.toInt + 1 := hp172_7
    have hP : va_P D vwCl [(tl, .inr (10, [.ref tls, .ref o0, .ref p0, .int x_tl_3, .int y_tl_4172_4])), (o0, .inr (5, [.ref o0r, .int x_o0_1])), (o0r, .inl (ct 1, 60000, .inl k_o0r172_5))] _ := hP
    have hD : va_D A [(tl, .inr (10, [.ref tls, .ref o0, .ref p0, .int x_tl_3, .int y_tl_4172_4])), (o0, .inr (5, [.ref o0r, .int x_o0_1])), (o0r, .inl (ct 1, 60000, .inl k_o0r172_5))] := hD
    refine lv_goto (tgt := 211) hx hb dX10_putPassing_175 (by decide) ?_
    exact endq_v hQ hx hb hr hlocks dX10_putPassing_211 (y_tl_4172_4, k_o0r172_5) ⟨hp172_6, (show x_tl_4.toInt + 1 ≤ y_tl_4172_4.toInt ∧ y_tl_4172_4.toInt ≤ x_tl_4.toInt + 2 by have q0 := h_x_tl_4.1; have q1 := h_x_tl_4.2; have q2 := hp172_6.1; have q3 := hp172_6.2; have q4 := hp172_7; omega)⟩ hP hD hS [0, 1, 2] rfl (by decide) rfl (Nat.le_of_ble_eq_true rfl) (Nat.le_of_ble_eq_true rfl)
  by_cases h1_161 : v0.toInt = 7
  · have r1_162 : rg v0 7 7 := rg_at h1_161
    refine lv_tableIn (off := 177) (tgt := 178) hx hb dX10_putPassing_1 (by rw [h1_161]; decide) (by rw [h1_161]; decide) (by rw [h1_161]; rfl) (by decide) ?_
    refine lv_aload_n hx hb dX10_putPassing_178 rfl (lv_at hl 0 rfl) ?_
    refine lv_iconst (v := 4) hx hb dX10_putPassing_179 (by decide) ?_
    refine lv_iload_n hx hb dX10_putPassing_180 rfl (lv_at hl 2 rfl) ?_
    refine lv_iload_n hx hb dX10_putPassing_181 rfl (lv_at hl 3 rfl) ?_
    refine lv_bipush (v := 8) hx hb dX10_putPassing_182 (by decide) ?_
    refine go_v (k1 := 0) (n1 := 0) (wr := []) [0, 1, 2] [] (rn_V (As := [.int 4, .int v1, .int v2, .int 8]) (rest := []) (c_X10_putBranch l D ct tl (4 : Int32) v1 v2 (8 : Int32) tls o0 p0 x_tl_3 x_tl_4 o0r x_o0_1 g_o0r h_x_tl_3 (rg_w h_x_tl_4 (by decide)) h_x_o0_1 _) (cb_of (n := 4) hn mw_1345 mw_10 mw_1342 mhX10_putBranch ⟨(Nat.le_of_ble_eq_true rfl), (Nat.le_of_ble_eq_true rfl)⟩) hx hb hml hown hn hK hSK hZ hS mw_1344 mw_s155 (ci := 10) (q0 := 0) rfl rfl rfl rfl hl.1 (Nat.le_of_ble_eq_true rfl) dX10_putPassing_184 ⟨(Nat.le_of_ble_eq_true rfl), (Nat.le_of_ble_eq_true rfl)⟩) hP hD hS hA rfl rfl (by decide) (by decide) (by decide) (Nat.le_of_ble_eq_true rfl) (Nat.le_of_ble_eq_true rfl) (fun u184_2 H locs hp184_3 hP hD hS => ?_)
    obtain ⟨y_tl_4184_4, k_o0r184_5⟩ := u184_2
    obtain ⟨hp184_6, hp184_7⟩ := hp184_3
    have hp184_6 : rg y_tl_4184_4 1 1000001 := hp184_6
    have hp184_7 : y_tl_4184_4.toInt = x_tl_4.toInt + 1 := hp184_7
    have hP : va_P D vwCl [(tl, .inr (10, [.ref tls, .ref o0, .ref p0, .int x_tl_3, .int y_tl_4184_4])), (o0, .inr (5, [.ref o0r, .int x_o0_1])), (o0r, .inl (ct 1, 60000, .inl k_o0r184_5))] _ := hP
    have hD : va_D A [(tl, .inr (10, [.ref tls, .ref o0, .ref p0, .int x_tl_3, .int y_tl_4184_4])), (o0, .inr (5, [.ref o0r, .int x_o0_1])), (o0r, .inl (ct 1, 60000, .inl k_o0r184_5))] := hD
    refine lv_goto (tgt := 211) hx hb dX10_putPassing_187 (by decide) ?_
    exact endq_v hQ hx hb hr hlocks dX10_putPassing_211 (y_tl_4184_4, k_o0r184_5) ⟨hp184_6, (show x_tl_4.toInt + 1 ≤ y_tl_4184_4.toInt ∧ y_tl_4184_4.toInt ≤ x_tl_4.toInt + 2 by have q0 := h_x_tl_4.1; have q1 := h_x_tl_4.2; have q2 := hp184_6.1; have q3 := hp184_6.2; have q4 := hp184_7; omega)⟩ hP hD hS [0, 1, 2] rfl (by decide) rfl (Nat.le_of_ble_eq_true rfl) (Nat.le_of_ble_eq_true rfl)
  by_cases h1_171 : v0.toInt = 8
  · have r1_172 : rg v0 8 8 := rg_at h1_171
    refine lv_tableIn (off := 201) (tgt := 202) hx hb dX10_putPassing_1 (by rw [h1_171]; decide) (by rw [h1_171]; decide) (by rw [h1_171]; rfl) (by decide) ?_
    exact b202  H locs ls  (lv_sub hl [0, 2, 3] rfl) hP hD hS
  by_cases h1_181 : v0.toInt = 9
  · have r1_182 : rg v0 9 9 := rg_at h1_181
    refine lv_tableIn (off := 201) (tgt := 202) hx hb dX10_putPassing_1 (by rw [h1_181]; decide) (by rw [h1_181]; decide) (by rw [h1_181]; rfl) (by decide) ?_
    exact b202  H locs ls  (lv_sub hl [0, 2, 3] rfl) hP hD hS
  by_cases h1_191 : v0.toInt = 10
  · have r1_192 : rg v0 10 10 := rg_at h1_191
    refine lv_tableIn (off := 139) (tgt := 140) hx hb dX10_putPassing_1 (by rw [h1_191]; decide) (by rw [h1_191]; decide) (by rw [h1_191]; rfl) (by decide) ?_
    refine lv_aload_n hx hb dX10_putPassing_140 rfl (lv_at hl 0 rfl) ?_
    refine lv_bipush (v := 7) hx hb dX10_putPassing_141 (by decide) ?_
    refine lv_iload_n hx hb dX10_putPassing_143 rfl (lv_at hl 2 rfl) ?_
    refine lv_iload_n hx hb dX10_putPassing_144 rfl (lv_at hl 3 rfl) ?_
    refine lv_bipush (v := 8) hx hb dX10_putPassing_145 (by decide) ?_
    refine go_v (k1 := 0) (n1 := 0) (wr := []) [0, 1, 2] [] (rn_V (As := [.int 7, .int v1, .int v2, .int 8]) (rest := []) (c_X10_putBranch l D ct tl (7 : Int32) v1 v2 (8 : Int32) tls o0 p0 x_tl_3 x_tl_4 o0r x_o0_1 g_o0r h_x_tl_3 (rg_w h_x_tl_4 (by decide)) h_x_o0_1 _) (cb_of (n := 4) hn mw_1345 mw_10 mw_1342 mhX10_putBranch ⟨(Nat.le_of_ble_eq_true rfl), (Nat.le_of_ble_eq_true rfl)⟩) hx hb hml hown hn hK hSK hZ hS mw_1344 mw_s155 (ci := 10) (q0 := 0) rfl rfl rfl rfl hl.1 (Nat.le_of_ble_eq_true rfl) dX10_putPassing_147 ⟨(Nat.le_of_ble_eq_true rfl), (Nat.le_of_ble_eq_true rfl)⟩) hP hD hS hA rfl rfl (by decide) (by decide) (by decide) (Nat.le_of_ble_eq_true rfl) (Nat.le_of_ble_eq_true rfl) (fun u147_2 H locs hp147_3 hP hD hS => ?_)
    obtain ⟨y_tl_4147_4, k_o0r147_5⟩ := u147_2
    obtain ⟨hp147_6, hp147_7⟩ := hp147_3
    have hp147_6 : rg y_tl_4147_4 1 1000001 := hp147_6
    have hp147_7 : y_tl_4147_4.toInt = x_tl_4.toInt + 1 := hp147_7
    have hP : va_P D vwCl [(tl, .inr (10, [.ref tls, .ref o0, .ref p0, .int x_tl_3, .int y_tl_4147_4])), (o0, .inr (5, [.ref o0r, .int x_o0_1])), (o0r, .inl (ct 1, 60000, .inl k_o0r147_5))] _ := hP
    have hD : va_D A [(tl, .inr (10, [.ref tls, .ref o0, .ref p0, .int x_tl_3, .int y_tl_4147_4])), (o0, .inr (5, [.ref o0r, .int x_o0_1])), (o0r, .inl (ct 1, 60000, .inl k_o0r147_5))] := hD
    refine lv_goto (tgt := 211) hx hb dX10_putPassing_150 (by decide) ?_
    exact endq_v hQ hx hb hr hlocks dX10_putPassing_211 (y_tl_4147_4, k_o0r147_5) ⟨hp147_6, (show x_tl_4.toInt + 1 ≤ y_tl_4147_4.toInt ∧ y_tl_4147_4.toInt ≤ x_tl_4.toInt + 2 by have q0 := h_x_tl_4.1; have q1 := h_x_tl_4.2; have q2 := hp147_6.1; have q3 := hp147_6.2; have q4 := hp147_7; omega)⟩ hP hD hS [0, 1, 2] rfl (by decide) rfl (Nat.le_of_ble_eq_true rfl) (Nat.le_of_ble_eq_true rfl)
  by_cases h1_201 : v0.toInt = 11
  · have r1_202 : rg v0 11 11 := rg_at h1_201
    refine lv_tableIn (off := 152) (tgt := 153) hx hb dX10_putPassing_1 (by rw [h1_201]; decide) (by rw [h1_201]; decide) (by rw [h1_201]; rfl) (by decide) ?_
    refine lv_aload_n hx hb dX10_putPassing_153 rfl (lv_at hl 0 rfl) ?_
    refine lv_bipush (v := 6) hx hb dX10_putPassing_154 (by decide) ?_
    refine lv_iload_n hx hb dX10_putPassing_156 rfl (lv_at hl 3 rfl) ?_
    refine lv_iload_n hx hb dX10_putPassing_157 rfl (lv_at hl 2 rfl) ?_
    refine lv_bipush (v := 8) hx hb dX10_putPassing_158 (by decide) ?_
    refine go_v (k1 := 0) (n1 := 0) (wr := []) [0, 1, 2] [] (rn_V (As := [.int 6, .int v2, .int v1, .int 8]) (rest := []) (c_X10_putBranch l D ct tl (6 : Int32) v2 v1 (8 : Int32) tls o0 p0 x_tl_3 x_tl_4 o0r x_o0_1 g_o0r h_x_tl_3 (rg_w h_x_tl_4 (by decide)) h_x_o0_1 _) (cb_of (n := 4) hn mw_1345 mw_10 mw_1342 mhX10_putBranch ⟨(Nat.le_of_ble_eq_true rfl), (Nat.le_of_ble_eq_true rfl)⟩) hx hb hml hown hn hK hSK hZ hS mw_1344 mw_s155 (ci := 10) (q0 := 0) rfl rfl rfl rfl hl.1 (Nat.le_of_ble_eq_true rfl) dX10_putPassing_160 ⟨(Nat.le_of_ble_eq_true rfl), (Nat.le_of_ble_eq_true rfl)⟩) hP hD hS hA rfl rfl (by decide) (by decide) (by decide) (Nat.le_of_ble_eq_true rfl) (Nat.le_of_ble_eq_true rfl) (fun u160_2 H locs hp160_3 hP hD hS => ?_)
    obtain ⟨y_tl_4160_4, k_o0r160_5⟩ := u160_2
    obtain ⟨hp160_6, hp160_7⟩ := hp160_3
    have hp160_6 : rg y_tl_4160_4 1 1000001 := hp160_6
    have hp160_7 : y_tl_4160_4.toInt = x_tl_4.toInt + 1 := hp160_7
    have hP : va_P D vwCl [(tl, .inr (10, [.ref tls, .ref o0, .ref p0, .int x_tl_3, .int y_tl_4160_4])), (o0, .inr (5, [.ref o0r, .int x_o0_1])), (o0r, .inl (ct 1, 60000, .inl k_o0r160_5))] _ := hP
    have hD : va_D A [(tl, .inr (10, [.ref tls, .ref o0, .ref p0, .int x_tl_3, .int y_tl_4160_4])), (o0, .inr (5, [.ref o0r, .int x_o0_1])), (o0r, .inl (ct 1, 60000, .inl k_o0r160_5))] := hD
    refine lv_goto (tgt := 211) hx hb dX10_putPassing_163 (by decide) ?_
    exact endq_v hQ hx hb hr hlocks dX10_putPassing_211 (y_tl_4160_4, k_o0r160_5) ⟨hp160_6, (show x_tl_4.toInt + 1 ≤ y_tl_4160_4.toInt ∧ y_tl_4160_4.toInt ≤ x_tl_4.toInt + 2 by have q0 := h_x_tl_4.1; have q1 := h_x_tl_4.2; have q2 := hp160_6.1; have q3 := hp160_6.2; have q4 := hp160_7; omega)⟩ hP hD hS [0, 1, 2] rfl (by decide) rfl (Nat.le_of_ble_eq_true rfl) (Nat.le_of_ble_eq_true rfl)
  by_cases h1_211 : v0.toInt = 12
  · have r1_212 : rg v0 12 12 := rg_at h1_211
    refine lv_tableIn (off := 189) (tgt := 190) hx hb dX10_putPassing_1 (by rw [h1_211]; decide) (by rw [h1_211]; decide) (by rw [h1_211]; rfl) (by decide) ?_
    refine lv_aload_n hx hb dX10_putPassing_190 rfl (lv_at hl 0 rfl) ?_
    refine lv_iconst (v := 5) hx hb dX10_putPassing_191 (by decide) ?_
    refine lv_iload_n hx hb dX10_putPassing_192 rfl (lv_at hl 2 rfl) ?_
    refine lv_iload_n hx hb dX10_putPassing_193 rfl (lv_at hl 3 rfl) ?_
    refine lv_bipush (v := 8) hx hb dX10_putPassing_194 (by decide) ?_
    refine go_v (k1 := 0) (n1 := 0) (wr := []) [0, 1, 2] [] (rn_V (As := [.int 5, .int v1, .int v2, .int 8]) (rest := []) (c_X10_putBranch l D ct tl (5 : Int32) v1 v2 (8 : Int32) tls o0 p0 x_tl_3 x_tl_4 o0r x_o0_1 g_o0r h_x_tl_3 (rg_w h_x_tl_4 (by decide)) h_x_o0_1 _) (cb_of (n := 4) hn mw_1345 mw_10 mw_1342 mhX10_putBranch ⟨(Nat.le_of_ble_eq_true rfl), (Nat.le_of_ble_eq_true rfl)⟩) hx hb hml hown hn hK hSK hZ hS mw_1344 mw_s155 (ci := 10) (q0 := 0) rfl rfl rfl rfl hl.1 (Nat.le_of_ble_eq_true rfl) dX10_putPassing_196 ⟨(Nat.le_of_ble_eq_true rfl), (Nat.le_of_ble_eq_true rfl)⟩) hP hD hS hA rfl rfl (by decide) (by decide) (by decide) (Nat.le_of_ble_eq_true rfl) (Nat.le_of_ble_eq_true rfl) (fun u196_2 H locs hp196_3 hP hD hS => ?_)
    obtain ⟨y_tl_4196_4, k_o0r196_5⟩ := u196_2
    obtain ⟨hp196_6, hp196_7⟩ := hp196_3
    have hp196_6 : rg y_tl_4196_4 1 1000001 := hp196_6
    have hp196_7 : y_tl_4196_4.toInt = x_tl_4.toInt + 1 := hp196_7
    have hP : va_P D vwCl [(tl, .inr (10, [.ref tls, .ref o0, .ref p0, .int x_tl_3, .int y_tl_4196_4])), (o0, .inr (5, [.ref o0r, .int x_o0_1])), (o0r, .inl (ct 1, 60000, .inl k_o0r196_5))] _ := hP
    have hD : va_D A [(tl, .inr (10, [.ref tls, .ref o0, .ref p0, .int x_tl_3, .int y_tl_4196_4])), (o0, .inr (5, [.ref o0r, .int x_o0_1])), (o0r, .inl (ct 1, 60000, .inl k_o0r196_5))] := hD
    refine lv_goto (tgt := 211) hx hb dX10_putPassing_199 (by decide) ?_
    exact endq_v hQ hx hb hr hlocks dX10_putPassing_211 (y_tl_4196_4, k_o0r196_5) ⟨hp196_6, (show x_tl_4.toInt + 1 ≤ y_tl_4196_4.toInt ∧ y_tl_4196_4.toInt ≤ x_tl_4.toInt + 2 by have q0 := h_x_tl_4.1; have q1 := h_x_tl_4.2; have q2 := hp196_6.1; have q3 := hp196_6.2; have q4 := hp196_7; omega)⟩ hP hD hS [0, 1, 2] rfl (by decide) rfl (Nat.le_of_ble_eq_true rfl) (Nat.le_of_ble_eq_true rfl)
  refine lv_tableOut (tgt := 202) hx hb dX10_putPassing_1 (by have q0 := (rg_any v0); have q1 := q0.1; have q2 := q0.2; omega) (by decide) ?_
  exact b202  H locs ls  (lv_sub hl [0, 2, 3] rfl) hP hD hS
set_option maxHeartbeats 2000000 in
theorem c_X10_turnJump (l : Launch) (D : va_G) (ct : Nat → ClassId) (tl : Nat) (v0 : Int64) (v1 : Int32) (tls : Nat) (o0 : Nat) (p0 : Nat) (x_tl_3 : Int32) (x_tl_4 : Int32) (o0r : Nat) (x_o0_1 : Int32) (g_o0r : Nat → Int32) (g_tls : Nat → Int32) (h_x_tl_3 : rg x_tl_3 0 1) (h_x_tl_4 : rg x_tl_4 0 999800) (h_x_o0_1 : rg x_o0_1 0 60000) (h_g_tls : Rg g_tls 4001 0 1073741824) : KV (S := Int32 × (Nat → Int32)) l yX10_turnJump cX10_turnJump 7 none 4 90 D ct [.ref tl, .long v0, .int v1] [(tl, .inr (10, [.ref tls, .ref o0, .ref p0, .int x_tl_3, .int x_tl_4])), (o0, .inr (5, [.ref o0r, .int x_o0_1])), (o0r, .inl (ct 1, 60000, .inl g_o0r)), (tls, .inl (ct 1, 4001, .inl g_tls))] 0 0 (fun (u : Int32 × (Nat → Int32)) => match u with | (y_tl_4, k_o0r) => rg y_tl_4 1 1000001 ∧ (x_tl_4.toInt + 1 ≤ y_tl_4.toInt ∧ y_tl_4.toInt ≤ x_tl_4.toInt + 7)) (fun (u : Int32 × (Nat → Int32)) => match u with | (y_tl_4, k_o0r) => [(tl, .inr (10, [.ref tls, .ref o0, .ref p0, .int x_tl_3, .int y_tl_4])), (o0, .inr (5, [.ref o0r, .int x_o0_1])), (o0r, .inl (ct 1, 60000, .inl k_o0r)), (tls, .inl (ct 1, 4001, .inl g_tls))]) := by
  refine KVq_of (by decide) (Nat.le_of_ble_eq_true rfl) (fun p e s m below meth c A Q C0 hA H locs hS hP hD hQ ls hl => ?_)
  obtain ⟨hx, hb, hr, hown, hin, hml, hlocks, hn, hK, hZ, hSK⟩ := C0
  have hl : lv_has ls 7 [(0, .ref tl), (1, .long v0), (3, .int v1)] := hl
  refine lv_lload_n hx hb dX10_turnJump_0 rfl (lv_at hl 1 rfl) ?_
  refine go_i (k1 := 0) (n1 := 0) (wr := [(tl, .inr (10, [.ref tls, .ref o0, .ref p0, .int x_tl_3, .int x_tl_4])), (o0, .inr (5, [.ref o0r, .int x_o0_1])), (o0r, .inl (ct 1, 60000, .inl g_o0r)), (tls, .inl (ct 1, 4001, .inl g_tls))]) [] [0, 1, 2, 3] (rn_SN (As := [.long v0]) (rest := []) (c_X7_codeOf l D ct v0  _) (cn_of (n := 1) hn mw_956 mw_7 mw_1299 mhX7_codeOf ⟨(Nat.le_of_ble_eq_true rfl), (Nat.le_of_ble_eq_true rfl)⟩) hx hb hml hown hn hK hSK hZ hS mw_955 rfl hl.1 (Nat.le_of_ble_eq_true rfl) dX10_turnJump_1 ⟨(Nat.le_of_ble_eq_true rfl), (Nat.le_of_ble_eq_true rfl)⟩) hP hD hS hA rfl rfl (by decide) (by decide) (by decide) (Nat.le_of_ble_eq_true rfl) (Nat.le_of_ble_eq_true rfl) (fun r1_1 u1_2 H locs hp1_3 hP hD hS => ?_)
  obtain ⟨hp1_4, hp1_5⟩ := hp1_3
  have hp1_4 : rg r1_1 0 255 := hp1_4
  have hp1_5 : r1_1.toInt = v0.toInt % 256 := hp1_5
  have hP : va_P D vwCl [(tl, .inr (10, [.ref tls, .ref o0, .ref p0, .int x_tl_3, .int x_tl_4])), (o0, .inr (5, [.ref o0r, .int x_o0_1])), (o0r, .inl (ct 1, 60000, .inl g_o0r)), (tls, .inl (ct 1, 4001, .inl g_tls))] _ := hP
  have hD : va_D A [(tl, .inr (10, [.ref tls, .ref o0, .ref p0, .int x_tl_3, .int x_tl_4])), (o0, .inr (5, [.ref o0r, .int x_o0_1])), (o0r, .inl (ct 1, 60000, .inl g_o0r)), (tls, .inl (ct 1, 4001, .inl g_tls))] := hD
  refine lv_istore (lv' := [(4, .int r1_1), (0, .ref tl), (1, .long v0), (3, .int v1)]) hx hb dX10_turnJump_4 hl (by decide) rfl (fun ls hl => ?_)
  refine lv_iload hx hb dX10_turnJump_6 (lv_at hl 0 rfl) ?_
  refine lv_iconst (v := 5) hx hb dX10_turnJump_8 (by decide) ?_
  have b80 : ∀ (j80_ftl_4 : Int32) (j80_co0r : Nat → Int32) (H : Heap) (locs : List Loc) (ls : Array Slot), (rg j80_ftl_4 0 1000001) → (x_tl_4.toInt ≤ j80_ftl_4.toInt ∧ j80_ftl_4.toInt ≤ x_tl_4.toInt + 6) → lv_has ls 7 [(0, .ref tl), (1, .long v0), (3, .int v1)] → va_P D vwCl [(tl, .inr (10, [.ref tls, .ref o0, .ref p0, .int x_tl_3, .int j80_ftl_4])), (o0, .inr (5, [.ref o0r, .int x_o0_1])), (o0r, .inl (ct 1, 60000, .inl j80_co0r)), (tls, .inl (ct 1, 4001, .inl g_tls))] H → va_D A [(tl, .inr (10, [.ref tls, .ref o0, .ref p0, .int x_tl_3, .int j80_ftl_4])), (o0, .inr (5, [.ref o0r, .int x_o0_1])), (o0r, .inl (ct 1, 60000, .inl j80_co0r)), (tls, .inl (ct 1, 4001, .inl g_tls))] → va_S A s.heap H locs → W p l e ({ frames := 4, cells := 0, slots := 0, locals := 90 }) s m [.ref tl, .long v0, .int v1].toArray below meth c H locs 0 0 Q (F0 m 80 ls []) := by
    intro j80_ftl_4 j80_co0r H locs ls r80_1001 ho80_1002 hl hP hD hS
    refine lv_iload_n hx hb dX10_turnJump_80 rfl (lv_at hl 2 rfl) ?_
    refine lv_iconst (v := 1) hx hb dX10_turnJump_81 (by decide) ?_
    refine lv_iadd hx hb dX10_turnJump_82 ?_
    refine lv_topi (fun z82_1 ez82_1 => ?_)
    refine lv_lload_n hx hb dX10_turnJump_83 rfl (lv_at hl 1 rfl) ?_
    refine go_i (k1 := 0) (n1 := 0) (wr := [(tl, .inr (10, [.ref tls, .ref o0, .ref p0, .int x_tl_3, .int j80_ftl_4])), (o0, .inr (5, [.ref o0r, .int x_o0_1])), (o0r, .inl (ct 1, 60000, .inl j80_co0r)), (tls, .inl (ct 1, 4001, .inl g_tls))]) [] [0, 1, 2, 3] (rn_SN (As := [.long v0]) (rest := [.int z82_1]) (c_X7_offOf l D ct v0  _) (cn_of (n := 1) hn mw_992 mw_7 mw_1368 mhX7_offOf ⟨(Nat.le_of_ble_eq_true rfl), (Nat.le_of_ble_eq_true rfl)⟩) hx hb hml hown hn hK hSK hZ hS mw_991 rfl hl.1 (Nat.le_of_ble_eq_true rfl) dX10_turnJump_84 ⟨(Nat.le_of_ble_eq_true rfl), (Nat.le_of_ble_eq_true rfl)⟩) hP hD hS hA rfl rfl (by decide) (by decide) (by decide) (Nat.le_of_ble_eq_true rfl) (Nat.le_of_ble_eq_true rfl) (fun r84_1 u84_2 H locs hp84_3 hP hD hS => ?_)
    have hp84_4 := hp84_3
    have hp84_4 : rg r84_1 (-32768) 32767 := hp84_4
    have hP : va_P D vwCl [(tl, .inr (10, [.ref tls, .ref o0, .ref p0, .int x_tl_3, .int j80_ftl_4])), (o0, .inr (5, [.ref o0r, .int x_o0_1])), (o0r, .inl (ct 1, 60000, .inl j80_co0r)), (tls, .inl (ct 1, 4001, .inl g_tls))] _ := hP
    have hD : va_D A [(tl, .inr (10, [.ref tls, .ref o0, .ref p0, .int x_tl_3, .int j80_ftl_4])), (o0, .inr (5, [.ref o0r, .int x_o0_1])), (o0r, .inl (ct 1, 60000, .inl j80_co0r)), (tls, .inl (ct 1, 4001, .inl g_tls))] := hD
    refine lv_iadd hx hb dX10_turnJump_87 ?_
    refine lv_topi (fun z87_1 ez87_1 => ?_)
    refine lv_istore (lv' := [(5, .int z87_1), (0, .ref tl), (1, .long v0), (3, .int v1)]) hx hb dX10_turnJump_88 hl (by decide) rfl (fun ls hl => ?_)
    refine lv_aload_n hx hb dX10_turnJump_90 rfl (lv_at hl 1 rfl) ?_
    refine lv_iload hx hb dX10_turnJump_91 (lv_at hl 0 rfl) ?_
    have b124 : ∀ (j124_s0 : Int32) (H : Heap) (locs : List Loc) (ls : Array Slot), lv_has ls 7 [] → va_P D vwCl [(tl, .inr (10, [.ref tls, .ref o0, .ref p0, .int x_tl_3, .int j80_ftl_4])), (o0, .inr (5, [.ref o0r, .int x_o0_1])), (o0r, .inl (ct 1, 60000, .inl j80_co0r)), (tls, .inl (ct 1, 4001, .inl g_tls))] H → va_D A [(tl, .inr (10, [.ref tls, .ref o0, .ref p0, .int x_tl_3, .int j80_ftl_4])), (o0, .inr (5, [.ref o0r, .int x_o0_1])), (o0r, .inl (ct 1, 60000, .inl j80_co0r)), (tls, .inl (ct 1, 4001, .inl g_tls))] → va_S A s.heap H locs → W p l e ({ frames := 4, cells := 0, slots := 0, locals := 90 }) s m [.ref tl, .long v0, .int v1].toArray below meth c H locs 0 0 Q (F0 m 124 ls [.int j124_s0, .ref tl]) := by
      intro j124_s0 H locs ls  hl hP hD hS
      refine go_v (k1 := 0) (n1 := 0) (wr := [(tls, .inl (ct 1, 4001, .inl g_tls))]) [0, 1, 2] [3] (rn_V (As := [.int j124_s0]) (rest := []) (c_X10_putGoing l D ct tl j124_s0 tls o0 p0 x_tl_3 j80_ftl_4 o0r x_o0_1 j80_co0r h_x_tl_3 (rg_of (show 0 ≤ j80_ftl_4.toInt ∧ j80_ftl_4.toInt ≤ 999990 by have q0 := r80_1001.1; have q1 := r80_1001.2; have q2 := h_x_tl_4.1; have q3 := h_x_tl_4.2; have q4 := ho80_1002; omega)) h_x_o0_1 _) (cb_of (n := 1) hn mw_1349 mw_10 mw_1346 mhX10_putGoing ⟨(Nat.le_of_ble_eq_true rfl), (Nat.le_of_ble_eq_true rfl)⟩) hx hb hml hown hn hK hSK hZ hS mw_1348 mw_s156 (ci := 10) (q0 := 0) rfl rfl rfl rfl hl.1 (Nat.le_of_ble_eq_true rfl) dX10_turnJump_124 ⟨(Nat.le_of_ble_eq_true rfl), (Nat.le_of_ble_eq_true rfl)⟩) hP hD hS hA rfl rfl (by decide) (by decide) (by decide) (Nat.le_of_ble_eq_true rfl) (Nat.le_of_ble_eq_true rfl) (fun u124_2 H locs hp124_3 hP hD hS => ?_)
      obtain ⟨y_tl_4124_4, k_o0r124_5⟩ := u124_2
      obtain ⟨hp124_6, hp124_7⟩ := hp124_3
      have hp124_6 : rg y_tl_4124_4 1 1000001 := hp124_6
      have hp124_7 : y_tl_4124_4.toInt = j80_ftl_4.toInt + 1 := hp124_7
      have hP : va_P D vwCl [(tls, .inl (ct 1, 4001, .inl g_tls)), (tl, .inr (10, [.ref tls, .ref o0, .ref p0, .int x_tl_3, .int y_tl_4124_4])), (o0, .inr (5, [.ref o0r, .int x_o0_1])), (o0r, .inl (ct 1, 60000, .inl k_o0r124_5))] _ := hP
      have hD : va_D A [(tls, .inl (ct 1, 4001, .inl g_tls)), (tl, .inr (10, [.ref tls, .ref o0, .ref p0, .int x_tl_3, .int y_tl_4124_4])), (o0, .inr (5, [.ref o0r, .int x_o0_1])), (o0r, .inl (ct 1, 60000, .inl k_o0r124_5))] := hD
      exact endq_v hQ hx hb hr hlocks dX10_turnJump_127 (y_tl_4124_4, k_o0r124_5) ⟨hp124_6, (show x_tl_4.toInt + 1 ≤ y_tl_4124_4.toInt ∧ y_tl_4124_4.toInt ≤ x_tl_4.toInt + 7 by have q0 := h_x_tl_4.1; have q1 := h_x_tl_4.2; have q2 := hp124_6.1; have q3 := hp124_6.2; have q4 := r80_1001.1; have q5 := r80_1001.2; have q6 := ho80_1002; have q7 := hp124_7; omega)⟩ hP hD hS [1, 2, 3, 0] rfl (by decide) rfl (Nat.le_of_ble_eq_true rfl) (Nat.le_of_ble_eq_true rfl)
    have b106 : ∀  (H : Heap) (locs : List Loc) (ls : Array Slot), lv_has ls 7 [] → va_P D vwCl [(tl, .inr (10, [.ref tls, .ref o0, .ref p0, .int x_tl_3, .int j80_ftl_4])), (o0, .inr (5, [.ref o0r, .int x_o0_1])), (o0r, .inl (ct 1, 60000, .inl j80_co0r)), (tls, .inl (ct 1, 4001, .inl g_tls))] H → va_D A [(tl, .inr (10, [.ref tls, .ref o0, .ref p0, .int x_tl_3, .int j80_ftl_4])), (o0, .inr (5, [.ref o0r, .int x_o0_1])), (o0r, .inl (ct 1, 60000, .inl j80_co0r)), (tls, .inl (ct 1, 4001, .inl g_tls))] → va_S A s.heap H locs → W p l e ({ frames := 4, cells := 0, slots := 0, locals := 90 }) s m [.ref tl, .long v0, .int v1].toArray below meth c H locs 0 0 Q (F0 m 106 ls [.ref tl]) := by
      intro  H locs ls  hl hP hD hS
      refine lv_iconst (v := 0) hx hb dX10_turnJump_106 (by decide) ?_
      refine lv_goto (tgt := 124) hx hb dX10_turnJump_107 (by decide) ?_
      exact b124 (0 : Int32) H locs ls  (lv_sub hl [] rfl) hP hD hS
    refine lv_if_lt (tgt := 106) hx hb dX10_turnJump_93 (by decide) (fun c93_1 => ?_) (fun c93_1 => ?_)
    · have t93_2 := (i_lt c93_1)
      have r93_3 : rg z87_1 (-2147483648) (-1) := rg_ltA t93_2 (rg_any z87_1) (show rg (0 : Int32) 0 0 from rg_l (by decide)) (by decide)
      exact b106  H locs ls  (lv_sub hl [] rfl) hP hD hS
    · have t93_2 := (i_nlt c93_1)
      have r93_3 : rg z87_1 0 2147483647 := rg_leB t93_2 (show rg (0 : Int32) 0 0 from rg_l (by decide)) (rg_any z87_1) (by decide)
      refine lv_iload hx hb dX10_turnJump_96 (lv_at hl 0 rfl) ?_
      refine lv_aload_n hx hb dX10_turnJump_98 rfl (lv_at hl 1 rfl) ?_
      refine va_get (D := D) (ci := 10) (v := .ref tls) (C := RX10) (T := TX10) (N := 5) hx hb (htX10 hn) (fun _ h => h) hown hK hP 0 rfl rfl 0 (by decide) (hn.get mw_288 rfl) (fun _ h9 => h9) rfl dX10_turnJump_99 ?_
      refine va_alen (v := 4001) hx hb hK hP 3 1 rfl rfl (show Int32.ofNat 4001 = 4001 by decide) dX10_turnJump_102 ?_
      refine lv_icmp_lt (tgt := 110) hx hb dX10_turnJump_103 (by decide) (fun c103_1 => ?_) (fun c103_1 => ?_)
      · have t103_2 := (i_lt c103_1)
        have r103_3 : rg z87_1 0 4000 := rg_ltA t103_2 r93_3 (show rg (4001 : Int32) 4001 4001 from rg_l (by decide)) (by decide)
        refine lv_iconst (v := 4) hx hb dX10_turnJump_110 (by decide) ?_
        refine lv_aload_n hx hb dX10_turnJump_111 rfl (lv_at hl 1 rfl) ?_
        refine va_get (D := D) (ci := 10) (v := .ref tls) (C := RX10) (T := TX10) (N := 5) hx hb (htX10 hn) (fun _ h => h) hown hK hP 0 rfl rfl 0 (by decide) (hn.get mw_288 rfl) (fun _ h9 => h9) rfl dX10_turnJump_112 ?_
        refine lv_iload hx hb dX10_turnJump_115 (lv_at hl 0 rfl) ?_
        have hi117_1 : vp_in z87_1 4001 := (in_rg r103_3 (by decide))
        refine va_iald hx hb hK hP 3 1 rfl rfl hi117_1 dX10_turnJump_117 ?_
        refine lv_topi (fun z117_2 ez117_2 => ?_)
        have r117_3 : rg z117_2 0 1073741824 := Rg_at h_g_tls hi117_1 ez117_2
        refine lv_aload_n hx hb dX10_turnJump_118 rfl (lv_at hl 1 rfl) ?_
        refine va_get (D := D) (ci := 10) (v := .int j80_ftl_4) (C := RX10) (T := TX10) (N := 5) hx hb (htX10 hn) (fun _ h => h) hown hK hP 0 rfl rfl 4 (by decide) (hn.get mw_292 rfl) (fun _ h9 => h9) rfl dX10_turnJump_119 ?_
        refine lv_isub hx hb dX10_turnJump_122 ?_
        refine lv_topi (fun z122_1 ez122_1 => ?_)
        have r122_2 : rg z122_1 (-1000001) 1073741824 := rg_sub ez122_1 r117_3 r80_1001 (by decide)
        refine lv_imul hx hb dX10_turnJump_123 ?_
        refine lv_topi (fun z123_1 ez123_1 => ?_)
        exact b124 z123_1 H locs ls  (lv_sub hl [] rfl) hP hD hS
      · have t103_2 := (i_nlt c103_1)
        have r103_3 : rg z87_1 4001 2147483647 := rg_leB t103_2 (show rg (4001 : Int32) 4001 4001 from rg_l (by decide)) r93_3 (by decide)
        exact b106  H locs ls  (lv_sub hl [] rfl) hP hD hS
  refine lv_icmp_eq (tgt := 80) hx hb dX10_turnJump_9 (by decide) (fun c9_1 => ?_) (fun c9_1 => ?_)
  · have t9_2 := (i_eq c9_1)
    have r9_3 : rg r1_1 5 5 := rg_eqA t9_2 hp1_4 (show rg (5 : Int32) 5 5 from rg_l (by decide)) (by decide)
    exact b80 x_tl_4 g_o0r H locs ls (rg_w h_x_tl_4 (by decide)) (show x_tl_4.toInt ≤ x_tl_4.toInt ∧ x_tl_4.toInt ≤ x_tl_4.toInt + 6 by have q0 := h_x_tl_4.1; have q1 := h_x_tl_4.2; omega) (lv_sub hl [1, 2, 3] rfl) hP hD hS
  · have t9_2 := (i_ne c9_1)
    refine lv_lload_n hx hb dX10_turnJump_12 rfl (lv_at hl 2 rfl) ?_
    refine go_i (k1 := 0) (n1 := 0) (wr := [(tl, .inr (10, [.ref tls, .ref o0, .ref p0, .int x_tl_3, .int x_tl_4])), (o0, .inr (5, [.ref o0r, .int x_o0_1])), (o0r, .inl (ct 1, 60000, .inl g_o0r)), (tls, .inl (ct 1, 4001, .inl g_tls))]) [] [0, 1, 2, 3] (rn_SN (As := [.long v0]) (rest := []) (c_X7_dOf l D ct v0  _) (cn_of (n := 1) hn mw_986 mw_7 mw_1305 mhX7_dOf ⟨(Nat.le_of_ble_eq_true rfl), (Nat.le_of_ble_eq_true rfl)⟩) hx hb hml hown hn hK hSK hZ hS mw_985 rfl hl.1 (Nat.le_of_ble_eq_true rfl) dX10_turnJump_13 ⟨(Nat.le_of_ble_eq_true rfl), (Nat.le_of_ble_eq_true rfl)⟩) hP hD hS hA rfl rfl (by decide) (by decide) (by decide) (Nat.le_of_ble_eq_true rfl) (Nat.le_of_ble_eq_true rfl) (fun r13_1 u13_2 H locs hp13_3 hP hD hS => ?_)
    obtain ⟨hp13_4, hp13_5⟩ := hp13_3
    have hp13_4 : rg r13_1 0 15 := hp13_4
    have hp13_5 : r13_1.toInt = (v0.toInt / 256) % 16 := hp13_5
    have hP : va_P D vwCl [(tl, .inr (10, [.ref tls, .ref o0, .ref p0, .int x_tl_3, .int x_tl_4])), (o0, .inr (5, [.ref o0r, .int x_o0_1])), (o0r, .inl (ct 1, 60000, .inl g_o0r)), (tls, .inl (ct 1, 4001, .inl g_tls))] _ := hP
    have hD : va_D A [(tl, .inr (10, [.ref tls, .ref o0, .ref p0, .int x_tl_3, .int x_tl_4])), (o0, .inr (5, [.ref o0r, .int x_o0_1])), (o0r, .inl (ct 1, 60000, .inl g_o0r)), (tls, .inl (ct 1, 4001, .inl g_tls))] := hD
    refine go_i (k1 := 0) (n1 := 0) (wr := [(tl, .inr (10, [.ref tls, .ref o0, .ref p0, .int x_tl_3, .int x_tl_4])), (o0, .inr (5, [.ref o0r, .int x_o0_1])), (o0r, .inl (ct 1, 60000, .inl g_o0r)), (tls, .inl (ct 1, 4001, .inl g_tls))]) [] [0, 1, 2, 3] (rn_S (As := [.int r13_1]) (rest := []) (c_X10_placeOf l D ct r13_1  _) (cb_of (n := 1) hn mw_1308 mw_10 mw_1306 mhX10_placeOf ⟨(Nat.le_of_ble_eq_true rfl), (Nat.le_of_ble_eq_true rfl)⟩) hx hb hml hown hn hK hSK hZ hS mw_1307 rfl hl.1 (Nat.le_of_ble_eq_true rfl) dX10_turnJump_16 ⟨(Nat.le_of_ble_eq_true rfl), (Nat.le_of_ble_eq_true rfl)⟩) hP hD hS hA rfl rfl (by decide) (by decide) (by decide) (Nat.le_of_ble_eq_true rfl) (Nat.le_of_ble_eq_true rfl) (fun r16_1 u16_2 H locs hp16_3 hP hD hS => ?_)
    have hP : va_P D vwCl [(tl, .inr (10, [.ref tls, .ref o0, .ref p0, .int x_tl_3, .int x_tl_4])), (o0, .inr (5, [.ref o0r, .int x_o0_1])), (o0r, .inl (ct 1, 60000, .inl g_o0r)), (tls, .inl (ct 1, 4001, .inl g_tls))] _ := hP
    have hD : va_D A [(tl, .inr (10, [.ref tls, .ref o0, .ref p0, .int x_tl_3, .int x_tl_4])), (o0, .inr (5, [.ref o0r, .int x_o0_1])), (o0r, .inl (ct 1, 60000, .inl g_o0r)), (tls, .inl (ct 1, 4001, .inl g_tls))] := hD
    refine lv_istore (lv' := [(5, .int r16_1), (4, .int r1_1), (0, .ref tl), (1, .long v0), (3, .int v1)]) hx hb dX10_turnJump_19 hl (by decide) rfl (fun ls hl => ?_)
    refine lv_aload_n hx hb dX10_turnJump_21 rfl (lv_at hl 2 rfl) ?_
    refine lv_lload_n hx hb dX10_turnJump_22 rfl (lv_at hl 3 rfl) ?_
    refine go_i (k1 := 0) (n1 := 0) (wr := [(tls, .inl (ct 1, 4001, .inl g_tls))]) [0, 1, 2] [3] (rn_V (As := [.long v0]) (rest := []) (c_X10_putSide l D ct tl v0 tls o0 p0 x_tl_3 x_tl_4 o0r x_o0_1 g_o0r h_x_tl_3 (rg_w h_x_tl_4 (by decide)) h_x_o0_1 _) (cb_of (n := 1) hn mw_1333 mw_10 mw_1330 mhX10_putSide ⟨(Nat.le_of_ble_eq_true rfl), (Nat.le_of_ble_eq_true rfl)⟩) hx hb hml hown hn hK hSK hZ hS mw_1332 mw_s152 (ci := 10) (q0 := 0) rfl rfl rfl rfl hl.1 (Nat.le_of_ble_eq_true rfl) dX10_turnJump_23 ⟨(Nat.le_of_ble_eq_true rfl), (Nat.le_of_ble_eq_true rfl)⟩) hP hD hS hA rfl rfl (by decide) (by decide) (by decide) (Nat.le_of_ble_eq_true rfl) (Nat.le_of_ble_eq_true rfl) (fun r23_1 u23_2 H locs hp23_3 hP hD hS => ?_)
    obtain ⟨y_tl_423_4, k_o0r23_5⟩ := u23_2
    obtain ⟨hp23_6, hp23_7⟩ := hp23_3
    have hp23_6 : rg y_tl_423_4 0 1000001 := hp23_6
    have hp23_7 : x_tl_4.toInt + 0 ≤ y_tl_423_4.toInt ∧ y_tl_423_4.toInt ≤ x_tl_4.toInt + 2 := hp23_7
    have hP : va_P D vwCl [(tls, .inl (ct 1, 4001, .inl g_tls)), (tl, .inr (10, [.ref tls, .ref o0, .ref p0, .int x_tl_3, .int y_tl_423_4])), (o0, .inr (5, [.ref o0r, .int x_o0_1])), (o0r, .inl (ct 1, 60000, .inl k_o0r23_5))] _ := hP
    have hD : va_D A [(tls, .inl (ct 1, 4001, .inl g_tls)), (tl, .inr (10, [.ref tls, .ref o0, .ref p0, .int x_tl_3, .int y_tl_423_4])), (o0, .inr (5, [.ref o0r, .int x_o0_1])), (o0r, .inl (ct 1, 60000, .inl k_o0r23_5))] := hD
    refine lv_istore (lv' := [(6, .int r23_1), (5, .int r16_1), (4, .int r1_1), (0, .ref tl), (1, .long v0), (3, .int v1)]) hx hb dX10_turnJump_26 hl (by decide) rfl (fun ls hl => ?_)
    refine lv_iload hx hb dX10_turnJump_28 (lv_at hl 2 rfl) ?_
    refine go_i (k1 := 0) (n1 := 0) (wr := [(tls, .inl (ct 1, 4001, .inl g_tls)), (tl, .inr (10, [.ref tls, .ref o0, .ref p0, .int x_tl_3, .int y_tl_423_4])), (o0, .inr (5, [.ref o0r, .int x_o0_1])), (o0r, .inl (ct 1, 60000, .inl k_o0r23_5))]) [] [0, 1, 2, 3] (rn_SN (As := [.int r1_1]) (rest := []) (c_X7_isWide l D ct r1_1  _) (cn_of (n := 1) hn mw_1062 mw_7 mw_1309 mhX7_isWide ⟨(Nat.le_of_ble_eq_true rfl), (Nat.le_of_ble_eq_true rfl)⟩) hx hb hml hown hn hK hSK hZ hS mw_1061 rfl hl.1 (Nat.le_of_ble_eq_true rfl) dX10_turnJump_30 ⟨(Nat.le_of_ble_eq_true rfl), (Nat.le_of_ble_eq_true rfl)⟩) hP hD hS hA rfl rfl (by decide) (by decide) (by decide) (Nat.le_of_ble_eq_true rfl) (Nat.le_of_ble_eq_true rfl) (fun r30_1 u30_2 H locs hp30_3 hP hD hS => ?_)
    have hp30_4 := hp30_3
    have hp30_4 : rg r30_1 0 1 := hp30_4
    have hP : va_P D vwCl [(tls, .inl (ct 1, 4001, .inl g_tls)), (tl, .inr (10, [.ref tls, .ref o0, .ref p0, .int x_tl_3, .int y_tl_423_4])), (o0, .inr (5, [.ref o0r, .int x_o0_1])), (o0r, .inl (ct 1, 60000, .inl k_o0r23_5))] _ := hP
    have hD : va_D A [(tls, .inl (ct 1, 4001, .inl g_tls)), (tl, .inr (10, [.ref tls, .ref o0, .ref p0, .int x_tl_3, .int y_tl_423_4])), (o0, .inr (5, [.ref o0r, .int x_o0_1])), (o0r, .inl (ct 1, 60000, .inl k_o0r23_5))] := hD
    have b68 : ∀ (j68_l5 : Int32) (j68_l6 : Int32) (j68_ftl_4 : Int32) (j68_co0r : Nat → Int32) (H : Heap) (locs : List Loc) (ls : Array Slot), (rg j68_ftl_4 0 1000001) → (x_tl_4.toInt ≤ j68_ftl_4.toInt ∧ j68_ftl_4.toInt ≤ x_tl_4.toInt + 4) → lv_has ls 7 [(0, .ref tl), (1, .long v0), (3, .int v1), (4, .int r1_1), (5, .int j68_l5), (6, .int j68_l6)] → va_P D vwCl [(tls, .inl (ct 1, 4001, .inl g_tls)), (tl, .inr (10, [.ref tls, .ref o0, .ref p0, .int x_tl_3, .int j68_ftl_4])), (o0, .inr (5, [.ref o0r, .int x_o0_1])), (o0r, .inl (ct 1, 60000, .inl j68_co0r))] H → va_D A [(tls, .inl (ct 1, 4001, .inl g_tls)), (tl, .inr (10, [.ref tls, .ref o0, .ref p0, .int x_tl_3, .int j68_ftl_4])), (o0, .inr (5, [.ref o0r, .int x_o0_1])), (o0r, .inl (ct 1, 60000, .inl j68_co0r))] → va_S A s.heap H locs → W p l e ({ frames := 4, cells := 0, slots := 0, locals := 90 }) s m [.ref tl, .long v0, .int v1].toArray below meth c H locs 0 0 Q (F0 m 68 ls []) := by
      intro j68_l5 j68_l6 j68_ftl_4 j68_co0r H locs ls r68_1001 ho68_1002 hl hP hD hS
      refine lv_aload_n hx hb dX10_turnJump_68 rfl (lv_at hl 0 rfl) ?_
      refine lv_iload hx hb dX10_turnJump_69 (lv_at hl 3 rfl) ?_
      refine lv_iconst (v := 4) hx hb dX10_turnJump_71 (by decide) ?_
      refine lv_ishr hx hb dX10_turnJump_72 ?_
      refine lv_topi (fun z72_1 ez72_1 => ?_)
      have r72_2 : rg z72_1 0 15 := rg_shr (k := 4) ez72_1 (by decide) hp1_4 (by decide)
      refine lv_iload hx hb dX10_turnJump_73 (lv_at hl 4 rfl) ?_
      refine lv_iload hx hb dX10_turnJump_75 (lv_at hl 5 rfl) ?_
      refine go_v (k1 := 0) (n1 := 0) (wr := [(tls, .inl (ct 1, 4001, .inl g_tls))]) [1, 2, 3] [0] (rn_V (As := [.int z72_1, .int j68_l5, .int j68_l6]) (rest := []) (c_X10_putPassing l D ct tl z72_1 j68_l5 j68_l6 tls o0 p0 x_tl_3 j68_ftl_4 o0r x_o0_1 j68_co0r h_x_tl_3 (rg_of (show 0 ≤ j68_ftl_4.toInt ∧ j68_ftl_4.toInt ≤ 999900 by have q0 := r68_1001.1; have q1 := r68_1001.2; have q2 := h_x_tl_4.1; have q3 := h_x_tl_4.2; have q4 := hp23_6.1; have q5 := hp23_6.2; have q6 := hp23_7; have q7 := ho68_1002; omega)) h_x_o0_1 _) (cb_of (n := 3) hn mw_1367 mw_10 mw_1364 mhX10_putPassing ⟨(Nat.le_of_ble_eq_true rfl), (Nat.le_of_ble_eq_true rfl)⟩) hx hb hml hown hn hK hSK hZ hS mw_1366 mw_s159 (ci := 10) (q0 := 0) rfl rfl rfl rfl hl.1 (Nat.le_of_ble_eq_true rfl) dX10_turnJump_77 ⟨(Nat.le_of_ble_eq_true rfl), (Nat.le_of_ble_eq_true rfl)⟩) hP hD hS hA rfl rfl (by decide) (by decide) (by decide) (Nat.le_of_ble_eq_true rfl) (Nat.le_of_ble_eq_true rfl) (fun u77_2 H locs hp77_3 hP hD hS => ?_)
      obtain ⟨y_tl_477_4, k_o0r77_5⟩ := u77_2
      obtain ⟨hp77_6, hp77_7⟩ := hp77_3
      have hp77_6 : rg y_tl_477_4 1 1000001 := hp77_6
      have hp77_7 : j68_ftl_4.toInt + 1 ≤ y_tl_477_4.toInt ∧ y_tl_477_4.toInt ≤ j68_ftl_4.toInt + 2 := hp77_7
      have hP : va_P D vwCl [(tls, .inl (ct 1, 4001, .inl g_tls)), (tl, .inr (10, [.ref tls, .ref o0, .ref p0, .int x_tl_3, .int y_tl_477_4])), (o0, .inr (5, [.ref o0r, .int x_o0_1])), (o0r, .inl (ct 1, 60000, .inl k_o0r77_5))] _ := hP
      have hD : va_D A [(tls, .inl (ct 1, 4001, .inl g_tls)), (tl, .inr (10, [.ref tls, .ref o0, .ref p0, .int x_tl_3, .int y_tl_477_4])), (o0, .inr (5, [.ref o0r, .int x_o0_1])), (o0r, .inl (ct 1, 60000, .inl k_o0r77_5))] := hD
      have hP := hP.sub (ws' := [(tl, .inr (10, [.ref tls, .ref o0, .ref p0, .int x_tl_3, .int y_tl_477_4])), (o0, .inr (5, [.ref o0r, .int x_o0_1])), (o0r, .inl (ct 1, 60000, .inl k_o0r77_5)), (tls, .inl (ct 1, 4001, .inl g_tls))]) [1, 2, 3, 0] rfl
      have hD := hD.sub (ws' := [(tl, .inr (10, [.ref tls, .ref o0, .ref p0, .int x_tl_3, .int y_tl_477_4])), (o0, .inr (5, [.ref o0r, .int x_o0_1])), (o0r, .inl (ct 1, 60000, .inl k_o0r77_5)), (tls, .inl (ct 1, 4001, .inl g_tls))]) [1, 2, 3, 0] (by decide) rfl
      exact b80 y_tl_477_4 k_o0r77_5 H locs ls (rg_w hp77_6 (by decide)) (show x_tl_4.toInt ≤ y_tl_477_4.toInt ∧ y_tl_477_4.toInt ≤ x_tl_4.toInt + 6 by have q0 := h_x_tl_4.1; have q1 := h_x_tl_4.2; have q2 := hp77_6.1; have q3 := hp77_6.2; have q4 := hp23_6.1; have q5 := hp23_6.2; have q6 := r68_1001.1; have q7 := r68_1001.2; have q8 := hp23_7; have q9 := ho68_1002; have q10 := hp77_7; omega) (lv_sub hl [0, 1, 2] rfl) hP hD hS
    refine lv_if_ne (tgt := 68) hx hb dX10_turnJump_33 (by decide) (fun c33_1 => ?_) (fun c33_1 => ?_)
    · have t33_2 := (i_ne c33_1)
      have r33_3 : rg r30_1 1 1 := rg_neAl t33_2 hp30_4 (show rg (0 : Int32) 0 0 from rg_l (by decide)) (by decide)
      exact b68 r16_1 r23_1 y_tl_423_4 k_o0r23_5 H locs ls hp23_6 (show x_tl_4.toInt ≤ y_tl_423_4.toInt ∧ y_tl_423_4.toInt ≤ x_tl_4.toInt + 4 by have q0 := h_x_tl_4.1; have q1 := h_x_tl_4.2; have q2 := hp23_6.1; have q3 := hp23_6.2; have q4 := hp23_7; omega) (lv_sub hl [3, 4, 5, 2, 1, 0] rfl) hP hD hS
    · have t33_2 := (i_eq c33_1)
      have r33_3 : rg r30_1 0 0 := rg_eqA t33_2 hp30_4 (show rg (0 : Int32) 0 0 from rg_l (by decide)) (by decide)
      refine lv_aload_n hx hb dX10_turnJump_36 rfl (lv_at hl 3 rfl) ?_
      refine lv_bipush (v := 27) hx hb dX10_turnJump_37 (by decide) ?_
      refine lv_iconst (v := 0) hx hb dX10_turnJump_39 (by decide) ?_
      refine lv_bipush (v := 6) hx hb dX10_turnJump_40 (by decide) ?_
      refine lv_iload hx hb dX10_turnJump_42 (lv_at hl 1 rfl) ?_
      refine lv_iconst (v := 0) hx hb dX10_turnJump_44 (by decide) ?_
      refine go_v (k1 := 0) (n1 := 0) (wr := [(tls, .inl (ct 1, 4001, .inl g_tls))]) [1, 2, 3] [0] (rn_V (As := [.int 27, .int 0, .int 6, .int r16_1, .int 0]) (rest := []) (c_X10_putImm l D ct tl (27 : Int32) (0 : Int32) (6 : Int32) r16_1 (0 : Int32) tls o0 p0 x_tl_3 y_tl_423_4 o0r x_o0_1 k_o0r23_5 h_x_tl_3 (rg_of (show 0 ≤ y_tl_423_4.toInt ∧ y_tl_423_4.toInt ≤ 999990 by have q0 := hp23_6.1; have q1 := hp23_6.2; have q2 := h_x_tl_4.1; have q3 := h_x_tl_4.2; have q4 := hp23_7; omega)) h_x_o0_1 _) (cb_of (n := 5) hn mw_1341 mw_10 mw_1338 mhX10_putImm ⟨(Nat.le_of_ble_eq_true rfl), (Nat.le_of_ble_eq_true rfl)⟩) hx hb hml hown hn hK hSK hZ hS mw_1340 mw_s154 (ci := 10) (q0 := 0) rfl rfl rfl rfl hl.1 (Nat.le_of_ble_eq_true rfl) dX10_turnJump_45 ⟨(Nat.le_of_ble_eq_true rfl), (Nat.le_of_ble_eq_true rfl)⟩) hP hD hS hA rfl rfl (by decide) (by decide) (by decide) (Nat.le_of_ble_eq_true rfl) (Nat.le_of_ble_eq_true rfl) (fun u45_2 H locs hp45_3 hP hD hS => ?_)
      obtain ⟨y_tl_445_4, k_o0r45_5⟩ := u45_2
      obtain ⟨hp45_6, hp45_7⟩ := hp45_3
      have hp45_6 : rg y_tl_445_4 1 1000001 := hp45_6
      have hp45_7 : y_tl_445_4.toInt = y_tl_423_4.toInt + 1 := hp45_7
      have hP : va_P D vwCl [(tls, .inl (ct 1, 4001, .inl g_tls)), (tl, .inr (10, [.ref tls, .ref o0, .ref p0, .int x_tl_3, .int y_tl_445_4])), (o0, .inr (5, [.ref o0r, .int x_o0_1])), (o0r, .inl (ct 1, 60000, .inl k_o0r45_5))] _ := hP
      have hD : va_D A [(tls, .inl (ct 1, 4001, .inl g_tls)), (tl, .inr (10, [.ref tls, .ref o0, .ref p0, .int x_tl_3, .int y_tl_445_4])), (o0, .inr (5, [.ref o0r, .int x_o0_1])), (o0r, .inl (ct 1, 60000, .inl k_o0r45_5))] := hD
      refine lv_aload_n hx hb dX10_turnJump_48 rfl (lv_at hl 3 rfl) ?_
      refine lv_bipush (v := 27) hx hb dX10_turnJump_49 (by decide) ?_
      refine lv_iconst (v := 0) hx hb dX10_turnJump_51 (by decide) ?_
      refine lv_bipush (v := 7) hx hb dX10_turnJump_52 (by decide) ?_
      refine lv_iload hx hb dX10_turnJump_54 (lv_at hl 0 rfl) ?_
      refine lv_iconst (v := 0) hx hb dX10_turnJump_56 (by decide) ?_
      refine go_v (k1 := 0) (n1 := 0) (wr := [(tls, .inl (ct 1, 4001, .inl g_tls))]) [1, 2, 3] [0] (rn_V (As := [.int 27, .int 0, .int 7, .int r23_1, .int 0]) (rest := []) (c_X10_putImm l D ct tl (27 : Int32) (0 : Int32) (7 : Int32) r23_1 (0 : Int32) tls o0 p0 x_tl_3 y_tl_445_4 o0r x_o0_1 k_o0r45_5 h_x_tl_3 (rg_of (show 0 ≤ y_tl_445_4.toInt ∧ y_tl_445_4.toInt ≤ 999990 by have q0 := hp45_6.1; have q1 := hp45_6.2; have q2 := hp23_6.1; have q3 := hp23_6.2; have q4 := h_x_tl_4.1; have q5 := h_x_tl_4.2; have q6 := hp23_7; have q7 := hp45_7; omega)) h_x_o0_1 _) (cb_of (n := 5) hn mw_1341 mw_10 mw_1338 mhX10_putImm ⟨(Nat.le_of_ble_eq_true rfl), (Nat.le_of_ble_eq_true rfl)⟩) hx hb hml hown hn hK hSK hZ hS mw_1340 mw_s154 (ci := 10) (q0 := 0) rfl rfl rfl rfl hl.1 (Nat.le_of_ble_eq_true rfl) dX10_turnJump_57 ⟨(Nat.le_of_ble_eq_true rfl), (Nat.le_of_ble_eq_true rfl)⟩) hP hD hS hA rfl rfl (by decide) (by decide) (by decide) (Nat.le_of_ble_eq_true rfl) (Nat.le_of_ble_eq_true rfl) (fun u57_2 H locs hp57_3 hP hD hS => ?_)
      obtain ⟨y_tl_457_4, k_o0r57_5⟩ := u57_2
      obtain ⟨hp57_6, hp57_7⟩ := hp57_3
      have hp57_6 : rg y_tl_457_4 1 1000001 := hp57_6
      have hp57_7 : y_tl_457_4.toInt = y_tl_445_4.toInt + 1 := hp57_7
      have hP : va_P D vwCl [(tls, .inl (ct 1, 4001, .inl g_tls)), (tl, .inr (10, [.ref tls, .ref o0, .ref p0, .int x_tl_3, .int y_tl_457_4])), (o0, .inr (5, [.ref o0r, .int x_o0_1])), (o0r, .inl (ct 1, 60000, .inl k_o0r57_5))] _ := hP
      have hD : va_D A [(tls, .inl (ct 1, 4001, .inl g_tls)), (tl, .inr (10, [.ref tls, .ref o0, .ref p0, .int x_tl_3, .int y_tl_457_4])), (o0, .inr (5, [.ref o0r, .int x_o0_1])), (o0r, .inl (ct 1, 60000, .inl k_o0r57_5))] := hD
      refine lv_bipush (v := 6) hx hb dX10_turnJump_60 (by decide) ?_
      refine lv_istore (lv' := [(5, .int 6), (6, .int r23_1), (4, .int r1_1), (0, .ref tl), (1, .long v0), (3, .int v1)]) hx hb dX10_turnJump_62 hl (by decide) rfl (fun ls hl => ?_)
      refine lv_bipush (v := 7) hx hb dX10_turnJump_64 (by decide) ?_
      refine lv_istore (lv' := [(6, .int 7), (5, .int 6), (4, .int r1_1), (0, .ref tl), (1, .long v0), (3, .int v1)]) hx hb dX10_turnJump_66 hl (by decide) rfl (fun ls hl => ?_)
      exact b68 (6 : Int32) (7 : Int32) y_tl_457_4 k_o0r57_5 H locs ls (rg_w hp57_6 (by decide)) (show x_tl_4.toInt ≤ y_tl_457_4.toInt ∧ y_tl_457_4.toInt ≤ x_tl_4.toInt + 4 by have q0 := h_x_tl_4.1; have q1 := h_x_tl_4.2; have q2 := hp57_6.1; have q3 := hp57_6.2; have q4 := hp23_6.1; have q5 := hp23_6.2; have q6 := hp45_6.1; have q7 := hp45_6.2; have q8 := hp23_7; have q9 := hp45_7; have q10 := hp57_7; omega) (lv_sub hl [3, 4, 5, 2, 1, 0] rfl) hP hD hS
set_option maxHeartbeats 2000000 in
theorem c_X10_turnMemory (l : Launch) (D : va_G) (ct : Nat → ClassId) (tl : Nat) (v0 : Int64) (tls : Nat) (o0 : Nat) (p0 : Nat) (x_tl_3 : Int32) (x_tl_4 : Int32) (o0r : Nat) (x_o0_1 : Int32) (g_o0r : Nat → Int32) (h_x_tl_3 : rg x_tl_3 0 1) (h_x_tl_4 : rg x_tl_4 0 999800) (h_x_o0_1 : rg x_o0_1 0 60000) : KV (S := Int32 × (Nat → Int32)) l yX10_turnMemory cX10_turnMemory 8 none 3 67 D ct [.ref tl, .long v0] [(tl, .inr (10, [.ref tls, .ref o0, .ref p0, .int x_tl_3, .int x_tl_4])), (o0, .inr (5, [.ref o0r, .int x_o0_1])), (o0r, .inl (ct 1, 60000, .inl g_o0r))] 0 0 (fun (u : Int32 × (Nat → Int32)) => match u with | (y_tl_4, k_o0r) => rg y_tl_4 1 1000001 ∧ (x_tl_4.toInt + 3 ≤ y_tl_4.toInt ∧ y_tl_4.toInt ≤ x_tl_4.toInt + 6)) (fun (u : Int32 × (Nat → Int32)) => match u with | (y_tl_4, k_o0r) => [(tl, .inr (10, [.ref tls, .ref o0, .ref p0, .int x_tl_3, .int y_tl_4])), (o0, .inr (5, [.ref o0r, .int x_o0_1])), (o0r, .inl (ct 1, 60000, .inl k_o0r))]) := by
  refine KVq_of (by decide) (Nat.le_of_ble_eq_true rfl) (fun p e s m below meth c A Q C0 hA H locs hS hP hD hQ ls hl => ?_)
  obtain ⟨hx, hb, hr, hown, hin, hml, hlocks, hn, hK, hZ, hSK⟩ := C0
  have hl : lv_has ls 8 [(0, .ref tl), (1, .long v0)] := hl
  refine lv_lload_n hx hb dX10_turnMemory_0 rfl (lv_at hl 1 rfl) ?_
  refine go_i (k1 := 0) (n1 := 0) (wr := [(tl, .inr (10, [.ref tls, .ref o0, .ref p0, .int x_tl_3, .int x_tl_4])), (o0, .inr (5, [.ref o0r, .int x_o0_1])), (o0r, .inl (ct 1, 60000, .inl g_o0r))]) [] [0, 1, 2] (rn_SN (As := [.long v0]) (rest := []) (c_X7_codeOf l D ct v0  _) (cn_of (n := 1) hn mw_956 mw_7 mw_1299 mhX7_codeOf ⟨(Nat.le_of_ble_eq_true rfl), (Nat.le_of_ble_eq_true rfl)⟩) hx hb hml hown hn hK hSK hZ hS mw_955 rfl hl.1 (Nat.le_of_ble_eq_true rfl) dX10_turnMemory_1 ⟨(Nat.le_of_ble_eq_true rfl), (Nat.le_of_ble_eq_true rfl)⟩) hP hD hS hA rfl rfl (by decide) (by decide) (by decide) (Nat.le_of_ble_eq_true rfl) (Nat.le_of_ble_eq_true rfl) (fun r1_1 u1_2 H locs hp1_3 hP hD hS => ?_)
  obtain ⟨hp1_4, hp1_5⟩ := hp1_3
  have hp1_4 : rg r1_1 0 255 := hp1_4
  have hp1_5 : r1_1.toInt = v0.toInt % 256 := hp1_5
  have hP : va_P D vwCl [(tl, .inr (10, [.ref tls, .ref o0, .ref p0, .int x_tl_3, .int x_tl_4])), (o0, .inr (5, [.ref o0r, .int x_o0_1])), (o0r, .inl (ct 1, 60000, .inl g_o0r))] _ := hP
  have hD : va_D A [(tl, .inr (10, [.ref tls, .ref o0, .ref p0, .int x_tl_3, .int x_tl_4])), (o0, .inr (5, [.ref o0r, .int x_o0_1])), (o0r, .inl (ct 1, 60000, .inl g_o0r))] := hD
  refine lv_istore_n (lv' := [(3, .int r1_1), (0, .ref tl), (1, .long v0)]) hx hb dX10_turnMemory_4 rfl hl (by decide) rfl (fun ls hl => ?_)
  refine lv_iload_n hx hb dX10_turnMemory_5 rfl (lv_at hl 0 rfl) ?_
  refine go_i (k1 := 0) (n1 := 0) (wr := [(tl, .inr (10, [.ref tls, .ref o0, .ref p0, .int x_tl_3, .int x_tl_4])), (o0, .inr (5, [.ref o0r, .int x_o0_1])), (o0r, .inl (ct 1, 60000, .inl g_o0r))]) [] [0, 1, 2] (rn_SN (As := [.int r1_1]) (rest := []) (c_X7_isLoad l D ct r1_1  _) (cn_of (n := 1) hn mw_977 mw_7 mw_1379 mhX7_isLoad ⟨(Nat.le_of_ble_eq_true rfl), (Nat.le_of_ble_eq_true rfl)⟩) hx hb hml hown hn hK hSK hZ hS mw_976 rfl hl.1 (Nat.le_of_ble_eq_true rfl) dX10_turnMemory_6 ⟨(Nat.le_of_ble_eq_true rfl), (Nat.le_of_ble_eq_true rfl)⟩) hP hD hS hA rfl rfl (by decide) (by decide) (by decide) (Nat.le_of_ble_eq_true rfl) (Nat.le_of_ble_eq_true rfl) (fun r6_1 u6_2 H locs hp6_3 hP hD hS => ?_)
  have hp6_4 := hp6_3
  have hp6_4 : rg r6_1 0 1 := hp6_4
  have hP : va_P D vwCl [(tl, .inr (10, [.ref tls, .ref o0, .ref p0, .int x_tl_3, .int x_tl_4])), (o0, .inr (5, [.ref o0r, .int x_o0_1])), (o0r, .inl (ct 1, 60000, .inl g_o0r))] _ := hP
  have hD : va_D A [(tl, .inr (10, [.ref tls, .ref o0, .ref p0, .int x_tl_3, .int x_tl_4])), (o0, .inr (5, [.ref o0r, .int x_o0_1])), (o0r, .inl (ct 1, 60000, .inl g_o0r))] := hD
  refine lv_istore (lv' := [(4, .int r6_1), (3, .int r1_1), (0, .ref tl), (1, .long v0)]) hx hb dX10_turnMemory_9 hl (by decide) rfl (fun ls hl => ?_)
  refine lv_iload_n hx hb dX10_turnMemory_11 rfl (lv_at hl 1 rfl) ?_
  refine go_i (k1 := 0) (n1 := 0) (wr := [(tl, .inr (10, [.ref tls, .ref o0, .ref p0, .int x_tl_3, .int x_tl_4])), (o0, .inr (5, [.ref o0r, .int x_o0_1])), (o0r, .inl (ct 1, 60000, .inl g_o0r))]) [] [0, 1, 2] (rn_SN (As := [.int r1_1]) (rest := []) (c_X7_sizeOf l D ct r1_1  _) (cn_of (n := 1) hn mw_1150 mw_7 mw_1374 mhX7_sizeOf ⟨(Nat.le_of_ble_eq_true rfl), (Nat.le_of_ble_eq_true rfl)⟩) hx hb hml hown hn hK hSK hZ hS mw_1149 rfl hl.1 (Nat.le_of_ble_eq_true rfl) dX10_turnMemory_12 ⟨(Nat.le_of_ble_eq_true rfl), (Nat.le_of_ble_eq_true rfl)⟩) hP hD hS hA rfl rfl (by decide) (by decide) (by decide) (Nat.le_of_ble_eq_true rfl) (Nat.le_of_ble_eq_true rfl) (fun r12_1 u12_2 H locs hp12_3 hP hD hS => ?_)
  have hp12_4 := hp12_3
  have hp12_4 : rg r12_1 1 8 := hp12_4
  have hP : va_P D vwCl [(tl, .inr (10, [.ref tls, .ref o0, .ref p0, .int x_tl_3, .int x_tl_4])), (o0, .inr (5, [.ref o0r, .int x_o0_1])), (o0r, .inl (ct 1, 60000, .inl g_o0r))] _ := hP
  have hD : va_D A [(tl, .inr (10, [.ref tls, .ref o0, .ref p0, .int x_tl_3, .int x_tl_4])), (o0, .inr (5, [.ref o0r, .int x_o0_1])), (o0r, .inl (ct 1, 60000, .inl g_o0r))] := hD
  refine lv_istore (lv' := [(5, .int r12_1), (4, .int r6_1), (3, .int r1_1), (0, .ref tl), (1, .long v0)]) hx hb dX10_turnMemory_15 hl (by decide) rfl (fun ls hl => ?_)
  refine lv_iload hx hb dX10_turnMemory_17 (lv_at hl 1 rfl) ?_
  have b33 : ∀ (j33_s0 : Int32) (H : Heap) (locs : List Loc) (ls : Array Slot), (rg j33_s0 0 15) → lv_has ls 8 [(0, .ref tl), (1, .long v0), (3, .int r1_1), (4, .int r6_1), (5, .int r12_1)] → va_P D vwCl [(tl, .inr (10, [.ref tls, .ref o0, .ref p0, .int x_tl_3, .int x_tl_4])), (o0, .inr (5, [.ref o0r, .int x_o0_1])), (o0r, .inl (ct 1, 60000, .inl g_o0r))] H → va_D A [(tl, .inr (10, [.ref tls, .ref o0, .ref p0, .int x_tl_3, .int x_tl_4])), (o0, .inr (5, [.ref o0r, .int x_o0_1])), (o0r, .inl (ct 1, 60000, .inl g_o0r))] → va_S A s.heap H locs → W p l e ({ frames := 3, cells := 0, slots := 0, locals := 67 }) s m [.ref tl, .long v0].toArray below meth c H locs 0 0 Q (F0 m 33 ls [.int j33_s0]) := by
    intro j33_s0 H locs ls r33_1001 hl hP hD hS
    refine lv_istore (lv' := [(6, .int j33_s0), (0, .ref tl), (1, .long v0), (3, .int r1_1), (4, .int r6_1), (5, .int r12_1)]) hx hb dX10_turnMemory_33 hl (by decide) rfl (fun ls hl => ?_)
    refine lv_iload hx hb dX10_turnMemory_35 (lv_at hl 5 rfl) ?_
    refine lv_bipush (v := 8) hx hb dX10_turnMemory_37 (by decide) ?_
    have b67 : ∀ (j67_s0 : Int32) (H : Heap) (locs : List Loc) (ls : Array Slot), (rg j67_s0 0 3) → lv_has ls 8 [(0, .ref tl), (1, .long v0), (3, .int r1_1), (4, .int r6_1), (5, .int r12_1), (6, .int j33_s0)] → va_P D vwCl [(tl, .inr (10, [.ref tls, .ref o0, .ref p0, .int x_tl_3, .int x_tl_4])), (o0, .inr (5, [.ref o0r, .int x_o0_1])), (o0r, .inl (ct 1, 60000, .inl g_o0r))] H → va_D A [(tl, .inr (10, [.ref tls, .ref o0, .ref p0, .int x_tl_3, .int x_tl_4])), (o0, .inr (5, [.ref o0r, .int x_o0_1])), (o0r, .inl (ct 1, 60000, .inl g_o0r))] → va_S A s.heap H locs → W p l e ({ frames := 3, cells := 0, slots := 0, locals := 67 }) s m [.ref tl, .long v0].toArray below meth c H locs 0 0 Q (F0 m 67 ls [.int j67_s0]) := by
      intro j67_s0 H locs ls r67_1001 hl hP hD hS
      refine lv_istore (lv' := [(7, .int j67_s0), (0, .ref tl), (1, .long v0), (3, .int r1_1), (4, .int r6_1), (5, .int r12_1), (6, .int j33_s0)]) hx hb dX10_turnMemory_67 hl (by decide) rfl (fun ls hl => ?_)
      refine lv_aload_n hx hb dX10_turnMemory_69 rfl (lv_at hl 1 rfl) ?_
      refine lv_iconst (v := 5) hx hb dX10_turnMemory_70 (by decide) ?_
      refine lv_lload_n hx hb dX10_turnMemory_71 rfl (lv_at hl 2 rfl) ?_
      refine go_i (k1 := 0) (n1 := 0) (wr := [(tl, .inr (10, [.ref tls, .ref o0, .ref p0, .int x_tl_3, .int x_tl_4])), (o0, .inr (5, [.ref o0r, .int x_o0_1])), (o0r, .inl (ct 1, 60000, .inl g_o0r))]) [] [0, 1, 2] (rn_SN (As := [.long v0]) (rest := [.int 5, .ref tl]) (c_X7_offOf l D ct v0  _) (cn_of (n := 1) hn mw_992 mw_7 mw_1368 mhX7_offOf ⟨(Nat.le_of_ble_eq_true rfl), (Nat.le_of_ble_eq_true rfl)⟩) hx hb hml hown hn hK hSK hZ hS mw_991 rfl hl.1 (Nat.le_of_ble_eq_true rfl) dX10_turnMemory_72 ⟨(Nat.le_of_ble_eq_true rfl), (Nat.le_of_ble_eq_true rfl)⟩) hP hD hS hA rfl rfl (by decide) (by decide) (by decide) (Nat.le_of_ble_eq_true rfl) (Nat.le_of_ble_eq_true rfl) (fun r72_1 u72_2 H locs hp72_3 hP hD hS => ?_)
      have hp72_4 := hp72_3
      have hp72_4 : rg r72_1 (-32768) 32767 := hp72_4
      have hP : va_P D vwCl [(tl, .inr (10, [.ref tls, .ref o0, .ref p0, .int x_tl_3, .int x_tl_4])), (o0, .inr (5, [.ref o0r, .int x_o0_1])), (o0r, .inl (ct 1, 60000, .inl g_o0r))] _ := hP
      have hD : va_D A [(tl, .inr (10, [.ref tls, .ref o0, .ref p0, .int x_tl_3, .int x_tl_4])), (o0, .inr (5, [.ref o0r, .int x_o0_1])), (o0r, .inl (ct 1, 60000, .inl g_o0r))] := hD
      refine go_v (k1 := 0) (n1 := 0) (wr := []) [0, 1, 2] [] (rn_V (As := [.int 5, .int r72_1]) (rest := []) (c_X10_putNumber l D ct tl (5 : Int32) r72_1 tls o0 p0 x_tl_3 x_tl_4 o0r x_o0_1 g_o0r h_x_tl_3 (rg_w h_x_tl_4 (by decide)) h_x_o0_1 _) (cb_of (n := 2) hn mw_1315 mw_10 mw_1312 mhX10_putNumber ⟨(Nat.le_of_ble_eq_true rfl), (Nat.le_of_ble_eq_true rfl)⟩) hx hb hml hown hn hK hSK hZ hS mw_1314 mw_s148 (ci := 10) (q0 := 0) rfl rfl rfl rfl hl.1 (Nat.le_of_ble_eq_true rfl) dX10_turnMemory_75 ⟨(Nat.le_of_ble_eq_true rfl), (Nat.le_of_ble_eq_true rfl)⟩) hP hD hS hA rfl rfl (by decide) (by decide) (by decide) (Nat.le_of_ble_eq_true rfl) (Nat.le_of_ble_eq_true rfl) (fun u75_2 H locs hp75_3 hP hD hS => ?_)
      obtain ⟨y_tl_475_4, k_o0r75_5⟩ := u75_2
      obtain ⟨hp75_6, hp75_7⟩ := hp75_3
      have hp75_6 : rg y_tl_475_4 1 1000001 := hp75_6
      have hp75_7 : x_tl_4.toInt + 1 ≤ y_tl_475_4.toInt ∧ y_tl_475_4.toInt ≤ x_tl_4.toInt + 2 := hp75_7
      have hP : va_P D vwCl [(tl, .inr (10, [.ref tls, .ref o0, .ref p0, .int x_tl_3, .int y_tl_475_4])), (o0, .inr (5, [.ref o0r, .int x_o0_1])), (o0r, .inl (ct 1, 60000, .inl k_o0r75_5))] _ := hP
      have hD : va_D A [(tl, .inr (10, [.ref tls, .ref o0, .ref p0, .int x_tl_3, .int y_tl_475_4])), (o0, .inr (5, [.ref o0r, .int x_o0_1])), (o0r, .inl (ct 1, 60000, .inl k_o0r75_5))] := hD
      refine lv_aload_n hx hb dX10_turnMemory_78 rfl (lv_at hl 1 rfl) ?_
      refine lv_bipush (v := 51) hx hb dX10_turnMemory_79 (by decide) ?_
      refine lv_iconst (v := 0) hx hb dX10_turnMemory_81 (by decide) ?_
      refine lv_iconst (v := 0) hx hb dX10_turnMemory_82 (by decide) ?_
      refine lv_iconst (v := 5) hx hb dX10_turnMemory_83 (by decide) ?_
      refine lv_iconst (v := 5) hx hb dX10_turnMemory_84 (by decide) ?_
      refine lv_iload hx hb dX10_turnMemory_85 (lv_at hl 6 rfl) ?_
      refine go_i (k1 := 0) (n1 := 0) (wr := [(tl, .inr (10, [.ref tls, .ref o0, .ref p0, .int x_tl_3, .int y_tl_475_4])), (o0, .inr (5, [.ref o0r, .int x_o0_1])), (o0r, .inl (ct 1, 60000, .inl k_o0r75_5))]) [] [0, 1, 2] (rn_S (As := [.int j33_s0]) (rest := [.int 5, .int 5, .int 0, .int 0, .int 51, .ref tl]) (c_X10_placeOf l D ct j33_s0  _) (cb_of (n := 1) hn mw_1308 mw_10 mw_1306 mhX10_placeOf ⟨(Nat.le_of_ble_eq_true rfl), (Nat.le_of_ble_eq_true rfl)⟩) hx hb hml hown hn hK hSK hZ hS mw_1307 rfl hl.1 (Nat.le_of_ble_eq_true rfl) dX10_turnMemory_87 ⟨(Nat.le_of_ble_eq_true rfl), (Nat.le_of_ble_eq_true rfl)⟩) hP hD hS hA rfl rfl (by decide) (by decide) (by decide) (Nat.le_of_ble_eq_true rfl) (Nat.le_of_ble_eq_true rfl) (fun r87_1 u87_2 H locs hp87_3 hP hD hS => ?_)
      have hP : va_P D vwCl [(tl, .inr (10, [.ref tls, .ref o0, .ref p0, .int x_tl_3, .int y_tl_475_4])), (o0, .inr (5, [.ref o0r, .int x_o0_1])), (o0r, .inl (ct 1, 60000, .inl k_o0r75_5))] _ := hP
      have hD : va_D A [(tl, .inr (10, [.ref tls, .ref o0, .ref p0, .int x_tl_3, .int y_tl_475_4])), (o0, .inr (5, [.ref o0r, .int x_o0_1])), (o0r, .inl (ct 1, 60000, .inl k_o0r75_5))] := hD
      refine go_v (k1 := 0) (n1 := 0) (wr := []) [0, 1, 2] [] (rn_V (As := [.int 51, .int 0, .int 0, .int 5, .int 5, .int r87_1]) (rest := []) (c_X10_putOp l D ct tl (51 : Int32) (0 : Int32) (0 : Int32) (5 : Int32) (5 : Int32) r87_1 tls o0 p0 x_tl_3 y_tl_475_4 o0r x_o0_1 k_o0r75_5 h_x_tl_3 (rg_of (show 0 ≤ y_tl_475_4.toInt ∧ y_tl_475_4.toInt ≤ 999990 by have q0 := hp75_6.1; have q1 := hp75_6.2; have q2 := h_x_tl_4.1; have q3 := h_x_tl_4.2; have q4 := hp75_7; omega)) h_x_o0_1 _) (cb_of (n := 6) hn mw_1329 mw_10 mw_1326 mhX10_putOp ⟨(Nat.le_of_ble_eq_true rfl), (Nat.le_of_ble_eq_true rfl)⟩) hx hb hml hown hn hK hSK hZ hS mw_1328 mw_s151 (ci := 10) (q0 := 0) rfl rfl rfl rfl hl.1 (Nat.le_of_ble_eq_true rfl) dX10_turnMemory_90 ⟨(Nat.le_of_ble_eq_true rfl), (Nat.le_of_ble_eq_true rfl)⟩) hP hD hS hA rfl rfl (by decide) (by decide) (by decide) (Nat.le_of_ble_eq_true rfl) (Nat.le_of_ble_eq_true rfl) (fun u90_2 H locs hp90_3 hP hD hS => ?_)
      obtain ⟨y_tl_490_4, k_o0r90_5⟩ := u90_2
      obtain ⟨hp90_6, hp90_7⟩ := hp90_3
      have hp90_6 : rg y_tl_490_4 1 1000001 := hp90_6
      have hp90_7 : y_tl_490_4.toInt = y_tl_475_4.toInt + 1 := hp90_7
      have hP : va_P D vwCl [(tl, .inr (10, [.ref tls, .ref o0, .ref p0, .int x_tl_3, .int y_tl_490_4])), (o0, .inr (5, [.ref o0r, .int x_o0_1])), (o0r, .inl (ct 1, 60000, .inl k_o0r90_5))] _ := hP
      have hD : va_D A [(tl, .inr (10, [.ref tls, .ref o0, .ref p0, .int x_tl_3, .int y_tl_490_4])), (o0, .inr (5, [.ref o0r, .int x_o0_1])), (o0r, .inl (ct 1, 60000, .inl k_o0r90_5))] := hD
      refine lv_iload hx hb dX10_turnMemory_93 (lv_at hl 4 rfl) ?_
      refine lv_if_eq (tgt := 130) hx hb dX10_turnMemory_95 (by decide) (fun c95_1 => ?_) (fun c95_1 => ?_)
      · have t95_2 := (i_eq c95_1)
        have r95_3 : rg r6_1 0 0 := rg_eqA t95_2 hp6_4 (show rg (0 : Int32) 0 0 from rg_l (by decide)) (by decide)
        refine lv_iload_n hx hb dX10_turnMemory_130 rfl (lv_at hl 3 rfl) ?_
        refine lv_iconst (v := 1) hx hb dX10_turnMemory_131 (by decide) ?_
        refine lv_iand hx hb dX10_turnMemory_132 ?_
        refine lv_topi (fun z132_1 ez132_1 => ?_)
        have r132_2 : rg z132_1 0 1 := rg_andr ez132_1 (show rg (1 : Int32) 1 1 from rg_l (by decide)) (by decide)
        refine lv_if_eq (tgt := 153) hx hb dX10_turnMemory_133 (by decide) (fun c133_1 => ?_) (fun c133_1 => ?_)
        · have t133_2 := (i_eq c133_1)
          have r133_3 : rg z132_1 0 0 := rg_eqA t133_2 r132_2 (show rg (0 : Int32) 0 0 from rg_l (by decide)) (by decide)
          refine lv_aload_n hx hb dX10_turnMemory_153 rfl (lv_at hl 1 rfl) ?_
          refine lv_bipush (v := 6) hx hb dX10_turnMemory_154 (by decide) ?_
          refine lv_lload_n hx hb dX10_turnMemory_156 rfl (lv_at hl 2 rfl) ?_
          refine go_i (k1 := 0) (n1 := 0) (wr := [(tl, .inr (10, [.ref tls, .ref o0, .ref p0, .int x_tl_3, .int y_tl_490_4])), (o0, .inr (5, [.ref o0r, .int x_o0_1])), (o0r, .inl (ct 1, 60000, .inl k_o0r90_5))]) [] [0, 1, 2] (rn_SN (As := [.long v0]) (rest := [.int 6, .ref tl]) (c_X7_kOf l D ct v0  _) (cn_of (n := 1) hn mw_995 mw_7 mw_1311 mhX7_kOf ⟨(Nat.le_of_ble_eq_true rfl), (Nat.le_of_ble_eq_true rfl)⟩) hx hb hml hown hn hK hSK hZ hS mw_994 rfl hl.1 (Nat.le_of_ble_eq_true rfl) dX10_turnMemory_157 ⟨(Nat.le_of_ble_eq_true rfl), (Nat.le_of_ble_eq_true rfl)⟩) hP hD hS hA rfl rfl (by decide) (by decide) (by decide) (Nat.le_of_ble_eq_true rfl) (Nat.le_of_ble_eq_true rfl) (fun r157_1 u157_2 H locs hp157_3 hP hD hS => ?_)
          have hP : va_P D vwCl [(tl, .inr (10, [.ref tls, .ref o0, .ref p0, .int x_tl_3, .int y_tl_490_4])), (o0, .inr (5, [.ref o0r, .int x_o0_1])), (o0r, .inl (ct 1, 60000, .inl k_o0r90_5))] _ := hP
          have hD : va_D A [(tl, .inr (10, [.ref tls, .ref o0, .ref p0, .int x_tl_3, .int y_tl_490_4])), (o0, .inr (5, [.ref o0r, .int x_o0_1])), (o0r, .inl (ct 1, 60000, .inl k_o0r90_5))] := hD
          refine go_v (k1 := 0) (n1 := 0) (wr := []) [0, 1, 2] [] (rn_V (As := [.int 6, .int r157_1]) (rest := []) (c_X10_putNumber l D ct tl (6 : Int32) r157_1 tls o0 p0 x_tl_3 y_tl_490_4 o0r x_o0_1 k_o0r90_5 h_x_tl_3 (rg_of (show 0 ≤ y_tl_490_4.toInt ∧ y_tl_490_4.toInt ≤ 999950 by have q0 := hp90_6.1; have q1 := hp90_6.2; have q2 := hp75_6.1; have q3 := hp75_6.2; have q4 := h_x_tl_4.1; have q5 := h_x_tl_4.2; have q6 := hp75_7; have q7 := hp90_7; omega)) h_x_o0_1 _) (cb_of (n := 2) hn mw_1315 mw_10 mw_1312 mhX10_putNumber ⟨(Nat.le_of_ble_eq_true rfl), (Nat.le_of_ble_eq_true rfl)⟩) hx hb hml hown hn hK hSK hZ hS mw_1314 mw_s148 (ci := 10) (q0 := 0) rfl rfl rfl rfl hl.1 (Nat.le_of_ble_eq_true rfl) dX10_turnMemory_160 ⟨(Nat.le_of_ble_eq_true rfl), (Nat.le_of_ble_eq_true rfl)⟩) hP hD hS hA rfl rfl (by decide) (by decide) (by decide) (Nat.le_of_ble_eq_true rfl) (Nat.le_of_ble_eq_true rfl) (fun u160_2 H locs hp160_3 hP hD hS => ?_)
          obtain ⟨y_tl_4160_4, k_o0r160_5⟩ := u160_2
          obtain ⟨hp160_6, hp160_7⟩ := hp160_3
          have hp160_6 : rg y_tl_4160_4 1 1000001 := hp160_6
          have hp160_7 : y_tl_490_4.toInt + 1 ≤ y_tl_4160_4.toInt ∧ y_tl_4160_4.toInt ≤ y_tl_490_4.toInt + 2 := hp160_7
          have hP : va_P D vwCl [(tl, .inr (10, [.ref tls, .ref o0, .ref p0, .int x_tl_3, .int y_tl_4160_4])), (o0, .inr (5, [.ref o0r, .int x_o0_1])), (o0r, .inl (ct 1, 60000, .inl k_o0r160_5))] _ := hP
          have hD : va_D A [(tl, .inr (10, [.ref tls, .ref o0, .ref p0, .int x_tl_3, .int y_tl_4160_4])), (o0, .inr (5, [.ref o0r, .int x_o0_1])), (o0r, .inl (ct 1, 60000, .inl k_o0r160_5))] := hD
          refine lv_aload_n hx hb dX10_turnMemory_163 rfl (lv_at hl 1 rfl) ?_
          refine lv_iload hx hb dX10_turnMemory_164 (lv_at hl 0 rfl) ?_
          refine lv_iconst (v := 5) hx hb dX10_turnMemory_166 (by decide) ?_
          refine lv_bipush (v := 6) hx hb dX10_turnMemory_167 (by decide) ?_
          refine go_v (k1 := 0) (n1 := 0) (wr := []) [0, 1, 2] [] (rn_V (As := [.int j67_s0, .int 5, .int 6]) (rest := []) (c_X10_putStore l D ct tl j67_s0 (5 : Int32) (6 : Int32) tls o0 p0 x_tl_3 y_tl_4160_4 o0r x_o0_1 k_o0r160_5 h_x_tl_3 (rg_of (show 0 ≤ y_tl_4160_4.toInt ∧ y_tl_4160_4.toInt ≤ 999990 by have q0 := hp160_6.1; have q1 := hp160_6.2; have q2 := hp90_6.1; have q3 := hp90_6.2; have q4 := hp75_6.1; have q5 := hp75_6.2; have q6 := h_x_tl_4.1; have q7 := h_x_tl_4.2; have q8 := hp75_7; have q9 := hp90_7; have q10 := hp160_7; omega)) h_x_o0_1 _) (cb_of (n := 3) hn mw_1383 mw_10 mw_1380 mhX10_putStore ⟨(Nat.le_of_ble_eq_true rfl), (Nat.le_of_ble_eq_true rfl)⟩) hx hb hml hown hn hK hSK hZ hS mw_1382 mw_s162 (ci := 10) (q0 := 0) rfl rfl rfl rfl hl.1 (Nat.le_of_ble_eq_true rfl) dX10_turnMemory_169 ⟨(Nat.le_of_ble_eq_true rfl), (Nat.le_of_ble_eq_true rfl)⟩) hP hD hS hA rfl rfl (by decide) (by decide) (by decide) (Nat.le_of_ble_eq_true rfl) (Nat.le_of_ble_eq_true rfl) (fun u169_2 H locs hp169_3 hP hD hS => ?_)
          obtain ⟨y_tl_4169_4, k_o0r169_5⟩ := u169_2
          obtain ⟨hp169_6, hp169_7⟩ := hp169_3
          have hp169_6 : rg y_tl_4169_4 1 1000001 := hp169_6
          have hp169_7 : y_tl_4169_4.toInt = y_tl_4160_4.toInt + 1 := hp169_7
          have hP : va_P D vwCl [(tl, .inr (10, [.ref tls, .ref o0, .ref p0, .int x_tl_3, .int y_tl_4169_4])), (o0, .inr (5, [.ref o0r, .int x_o0_1])), (o0r, .inl (ct 1, 60000, .inl k_o0r169_5))] _ := hP
          have hD : va_D A [(tl, .inr (10, [.ref tls, .ref o0, .ref p0, .int x_tl_3, .int y_tl_4169_4])), (o0, .inr (5, [.ref o0r, .int x_o0_1])), (o0r, .inl (ct 1, 60000, .inl k_o0r169_5))] := hD
          exact endq_v hQ hx hb hr hlocks dX10_turnMemory_172 (y_tl_4169_4, k_o0r169_5) ⟨hp169_6, (show x_tl_4.toInt + 3 ≤ y_tl_4169_4.toInt ∧ y_tl_4169_4.toInt ≤ x_tl_4.toInt + 6 by have q0 := h_x_tl_4.1; have q1 := h_x_tl_4.2; have q2 := hp169_6.1; have q3 := hp169_6.2; have q4 := hp75_6.1; have q5 := hp75_6.2; have q6 := hp160_6.1; have q7 := hp160_6.2; have q8 := hp90_6.1; have q9 := hp90_6.2; have q10 := hp75_7; have q11 := hp90_7; have q12 := hp160_7; have q13 := hp169_7; omega)⟩ hP hD hS [0, 1, 2] rfl (by decide) rfl (Nat.le_of_ble_eq_true rfl) (Nat.le_of_ble_eq_true rfl)
        · have t133_2 := (i_ne c133_1)
          have r133_3 : rg z132_1 1 1 := rg_neAl t133_2 r132_2 (show rg (0 : Int32) 0 0 from rg_l (by decide)) (by decide)
          refine lv_aload_n hx hb dX10_turnMemory_136 rfl (lv_at hl 1 rfl) ?_
          refine lv_iload hx hb dX10_turnMemory_137 (lv_at hl 0 rfl) ?_
          refine lv_iconst (v := 5) hx hb dX10_turnMemory_139 (by decide) ?_
          refine lv_lload_n hx hb dX10_turnMemory_140 rfl (lv_at hl 2 rfl) ?_
          refine go_i (k1 := 0) (n1 := 0) (wr := [(tl, .inr (10, [.ref tls, .ref o0, .ref p0, .int x_tl_3, .int y_tl_490_4])), (o0, .inr (5, [.ref o0r, .int x_o0_1])), (o0r, .inl (ct 1, 60000, .inl k_o0r90_5))]) [] [0, 1, 2] (rn_SN (As := [.long v0]) (rest := [.int 5, .int j67_s0, .ref tl]) (c_X7_sOf l D ct v0  _) (cn_of (n := 1) hn mw_989 mw_7 mw_1321 mhX7_sOf ⟨(Nat.le_of_ble_eq_true rfl), (Nat.le_of_ble_eq_true rfl)⟩) hx hb hml hown hn hK hSK hZ hS mw_988 rfl hl.1 (Nat.le_of_ble_eq_true rfl) dX10_turnMemory_141 ⟨(Nat.le_of_ble_eq_true rfl), (Nat.le_of_ble_eq_true rfl)⟩) hP hD hS hA rfl rfl (by decide) (by decide) (by decide) (Nat.le_of_ble_eq_true rfl) (Nat.le_of_ble_eq_true rfl) (fun r141_1 u141_2 H locs hp141_3 hP hD hS => ?_)
          obtain ⟨hp141_4, hp141_5⟩ := hp141_3
          have hp141_4 : rg r141_1 0 15 := hp141_4
          have hp141_5 : r141_1.toInt = (v0.toInt / 4096) % 16 := hp141_5
          have hP : va_P D vwCl [(tl, .inr (10, [.ref tls, .ref o0, .ref p0, .int x_tl_3, .int y_tl_490_4])), (o0, .inr (5, [.ref o0r, .int x_o0_1])), (o0r, .inl (ct 1, 60000, .inl k_o0r90_5))] _ := hP
          have hD : va_D A [(tl, .inr (10, [.ref tls, .ref o0, .ref p0, .int x_tl_3, .int y_tl_490_4])), (o0, .inr (5, [.ref o0r, .int x_o0_1])), (o0r, .inl (ct 1, 60000, .inl k_o0r90_5))] := hD
          refine go_i (k1 := 0) (n1 := 0) (wr := [(tl, .inr (10, [.ref tls, .ref o0, .ref p0, .int x_tl_3, .int y_tl_490_4])), (o0, .inr (5, [.ref o0r, .int x_o0_1])), (o0r, .inl (ct 1, 60000, .inl k_o0r90_5))]) [] [0, 1, 2] (rn_S (As := [.int r141_1]) (rest := [.int 5, .int j67_s0, .ref tl]) (c_X10_placeOf l D ct r141_1  _) (cb_of (n := 1) hn mw_1308 mw_10 mw_1306 mhX10_placeOf ⟨(Nat.le_of_ble_eq_true rfl), (Nat.le_of_ble_eq_true rfl)⟩) hx hb hml hown hn hK hSK hZ hS mw_1307 rfl hl.1 (Nat.le_of_ble_eq_true rfl) dX10_turnMemory_144 ⟨(Nat.le_of_ble_eq_true rfl), (Nat.le_of_ble_eq_true rfl)⟩) hP hD hS hA rfl rfl (by decide) (by decide) (by decide) (Nat.le_of_ble_eq_true rfl) (Nat.le_of_ble_eq_true rfl) (fun r144_1 u144_2 H locs hp144_3 hP hD hS => ?_)
          have hP : va_P D vwCl [(tl, .inr (10, [.ref tls, .ref o0, .ref p0, .int x_tl_3, .int y_tl_490_4])), (o0, .inr (5, [.ref o0r, .int x_o0_1])), (o0r, .inl (ct 1, 60000, .inl k_o0r90_5))] _ := hP
          have hD : va_D A [(tl, .inr (10, [.ref tls, .ref o0, .ref p0, .int x_tl_3, .int y_tl_490_4])), (o0, .inr (5, [.ref o0r, .int x_o0_1])), (o0r, .inl (ct 1, 60000, .inl k_o0r90_5))] := hD
          refine go_v (k1 := 0) (n1 := 0) (wr := []) [0, 1, 2] [] (rn_V (As := [.int j67_s0, .int 5, .int r144_1]) (rest := []) (c_X10_putStore l D ct tl j67_s0 (5 : Int32) r144_1 tls o0 p0 x_tl_3 y_tl_490_4 o0r x_o0_1 k_o0r90_5 h_x_tl_3 (rg_of (show 0 ≤ y_tl_490_4.toInt ∧ y_tl_490_4.toInt ≤ 999990 by have q0 := hp90_6.1; have q1 := hp90_6.2; have q2 := hp75_6.1; have q3 := hp75_6.2; have q4 := h_x_tl_4.1; have q5 := h_x_tl_4.2; have q6 := hp75_7; have q7 := hp90_7; omega)) h_x_o0_1 _) (cb_of (n := 3) hn mw_1383 mw_10 mw_1380 mhX10_putStore ⟨(Nat.le_of_ble_eq_true rfl), (Nat.le_of_ble_eq_true rfl)⟩) hx hb hml hown hn hK hSK hZ hS mw_1382 mw_s162 (ci := 10) (q0 := 0) rfl rfl rfl rfl hl.1 (Nat.le_of_ble_eq_true rfl) dX10_turnMemory_147 ⟨(Nat.le_of_ble_eq_true rfl), (Nat.le_of_ble_eq_true rfl)⟩) hP hD hS hA rfl rfl (by decide) (by decide) (by decide) (Nat.le_of_ble_eq_true rfl) (Nat.le_of_ble_eq_true rfl) (fun u147_2 H locs hp147_3 hP hD hS => ?_)
          obtain ⟨y_tl_4147_4, k_o0r147_5⟩ := u147_2
          obtain ⟨hp147_6, hp147_7⟩ := hp147_3
          have hp147_6 : rg y_tl_4147_4 1 1000001 := hp147_6
          have hp147_7 : y_tl_4147_4.toInt = y_tl_490_4.toInt + 1 := hp147_7
          have hP : va_P D vwCl [(tl, .inr (10, [.ref tls, .ref o0, .ref p0, .int x_tl_3, .int y_tl_4147_4])), (o0, .inr (5, [.ref o0r, .int x_o0_1])), (o0r, .inl (ct 1, 60000, .inl k_o0r147_5))] _ := hP
          have hD : va_D A [(tl, .inr (10, [.ref tls, .ref o0, .ref p0, .int x_tl_3, .int y_tl_4147_4])), (o0, .inr (5, [.ref o0r, .int x_o0_1])), (o0r, .inl (ct 1, 60000, .inl k_o0r147_5))] := hD
          refine lv_goto (tgt := 172) hx hb dX10_turnMemory_150 (by decide) ?_
          exact endq_v hQ hx hb hr hlocks dX10_turnMemory_172 (y_tl_4147_4, k_o0r147_5) ⟨hp147_6, (show x_tl_4.toInt + 3 ≤ y_tl_4147_4.toInt ∧ y_tl_4147_4.toInt ≤ x_tl_4.toInt + 6 by have q0 := h_x_tl_4.1; have q1 := h_x_tl_4.2; have q2 := hp147_6.1; have q3 := hp147_6.2; have q4 := hp75_6.1; have q5 := hp75_6.2; have q6 := hp90_6.1; have q7 := hp90_6.2; have q8 := hp75_7; have q9 := hp90_7; have q10 := hp147_7; omega)⟩ hP hD hS [0, 1, 2] rfl (by decide) rfl (Nat.le_of_ble_eq_true rfl) (Nat.le_of_ble_eq_true rfl)
      · have t95_2 := (i_ne c95_1)
        have r95_3 : rg r6_1 1 1 := rg_neAl t95_2 hp6_4 (show rg (0 : Int32) 0 0 from rg_l (by decide)) (by decide)
        refine lv_aload_n hx hb dX10_turnMemory_98 rfl (lv_at hl 1 rfl) ?_
        refine lv_iconst (v := 3) hx hb dX10_turnMemory_99 (by decide) ?_
        refine lv_iload hx hb dX10_turnMemory_100 (lv_at hl 5 rfl) ?_
        refine lv_bipush (v := 8) hx hb dX10_turnMemory_102 (by decide) ?_
        have b115 : ∀ (j115_s0 : Int32) (H : Heap) (locs : List Loc) (ls : Array Slot), (rg j115_s0 3 7) → lv_has ls 8 [(1, .long v0)] → va_P D vwCl [(tl, .inr (10, [.ref tls, .ref o0, .ref p0, .int x_tl_3, .int y_tl_490_4])), (o0, .inr (5, [.ref o0r, .int x_o0_1])), (o0r, .inl (ct 1, 60000, .inl k_o0r90_5))] H → va_D A [(tl, .inr (10, [.ref tls, .ref o0, .ref p0, .int x_tl_3, .int y_tl_490_4])), (o0, .inr (5, [.ref o0r, .int x_o0_1])), (o0r, .inl (ct 1, 60000, .inl k_o0r90_5))] → va_S A s.heap H locs → W p l e ({ frames := 3, cells := 0, slots := 0, locals := 67 }) s m [.ref tl, .long v0].toArray below meth c H locs 0 0 Q (F0 m 115 ls [.int j115_s0, .int 3, .ref tl]) := by
          intro j115_s0 H locs ls r115_1001 hl hP hD hS
          refine lv_lload_n hx hb dX10_turnMemory_115 rfl (lv_at hl 0 rfl) ?_
          refine go_i (k1 := 0) (n1 := 0) (wr := [(tl, .inr (10, [.ref tls, .ref o0, .ref p0, .int x_tl_3, .int y_tl_490_4])), (o0, .inr (5, [.ref o0r, .int x_o0_1])), (o0r, .inl (ct 1, 60000, .inl k_o0r90_5))]) [] [0, 1, 2] (rn_SN (As := [.long v0]) (rest := [.int j115_s0, .int 3, .ref tl]) (c_X7_dOf l D ct v0  _) (cn_of (n := 1) hn mw_986 mw_7 mw_1305 mhX7_dOf ⟨(Nat.le_of_ble_eq_true rfl), (Nat.le_of_ble_eq_true rfl)⟩) hx hb hml hown hn hK hSK hZ hS mw_985 rfl hl.1 (Nat.le_of_ble_eq_true rfl) dX10_turnMemory_116 ⟨(Nat.le_of_ble_eq_true rfl), (Nat.le_of_ble_eq_true rfl)⟩) hP hD hS hA rfl rfl (by decide) (by decide) (by decide) (Nat.le_of_ble_eq_true rfl) (Nat.le_of_ble_eq_true rfl) (fun r116_1 u116_2 H locs hp116_3 hP hD hS => ?_)
          obtain ⟨hp116_4, hp116_5⟩ := hp116_3
          have hp116_4 : rg r116_1 0 15 := hp116_4
          have hp116_5 : r116_1.toInt = (v0.toInt / 256) % 16 := hp116_5
          have hP : va_P D vwCl [(tl, .inr (10, [.ref tls, .ref o0, .ref p0, .int x_tl_3, .int y_tl_490_4])), (o0, .inr (5, [.ref o0r, .int x_o0_1])), (o0r, .inl (ct 1, 60000, .inl k_o0r90_5))] _ := hP
          have hD : va_D A [(tl, .inr (10, [.ref tls, .ref o0, .ref p0, .int x_tl_3, .int y_tl_490_4])), (o0, .inr (5, [.ref o0r, .int x_o0_1])), (o0r, .inl (ct 1, 60000, .inl k_o0r90_5))] := hD
          refine go_i (k1 := 0) (n1 := 0) (wr := [(tl, .inr (10, [.ref tls, .ref o0, .ref p0, .int x_tl_3, .int y_tl_490_4])), (o0, .inr (5, [.ref o0r, .int x_o0_1])), (o0r, .inl (ct 1, 60000, .inl k_o0r90_5))]) [] [0, 1, 2] (rn_S (As := [.int r116_1]) (rest := [.int j115_s0, .int 3, .ref tl]) (c_X10_placeOf l D ct r116_1  _) (cb_of (n := 1) hn mw_1308 mw_10 mw_1306 mhX10_placeOf ⟨(Nat.le_of_ble_eq_true rfl), (Nat.le_of_ble_eq_true rfl)⟩) hx hb hml hown hn hK hSK hZ hS mw_1307 rfl hl.1 (Nat.le_of_ble_eq_true rfl) dX10_turnMemory_119 ⟨(Nat.le_of_ble_eq_true rfl), (Nat.le_of_ble_eq_true rfl)⟩) hP hD hS hA rfl rfl (by decide) (by decide) (by decide) (Nat.le_of_ble_eq_true rfl) (Nat.le_of_ble_eq_true rfl) (fun r119_1 u119_2 H locs hp119_3 hP hD hS => ?_)
          have hP : va_P D vwCl [(tl, .inr (10, [.ref tls, .ref o0, .ref p0, .int x_tl_3, .int y_tl_490_4])), (o0, .inr (5, [.ref o0r, .int x_o0_1])), (o0r, .inl (ct 1, 60000, .inl k_o0r90_5))] _ := hP
          have hD : va_D A [(tl, .inr (10, [.ref tls, .ref o0, .ref p0, .int x_tl_3, .int y_tl_490_4])), (o0, .inr (5, [.ref o0r, .int x_o0_1])), (o0r, .inl (ct 1, 60000, .inl k_o0r90_5))] := hD
          refine lv_iconst (v := 5) hx hb dX10_turnMemory_122 (by decide) ?_
          refine lv_iconst (v := 0) hx hb dX10_turnMemory_123 (by decide) ?_
          refine go_v (k1 := 0) (n1 := 0) (wr := []) [0, 1, 2] [] (rn_V (As := [.int 3, .int j115_s0, .int r119_1, .int 5, .int 0]) (rest := []) (c_X10_putImm l D ct tl (3 : Int32) j115_s0 r119_1 (5 : Int32) (0 : Int32) tls o0 p0 x_tl_3 y_tl_490_4 o0r x_o0_1 k_o0r90_5 h_x_tl_3 (rg_of (show 0 ≤ y_tl_490_4.toInt ∧ y_tl_490_4.toInt ≤ 999990 by have q0 := hp90_6.1; have q1 := hp90_6.2; have q2 := hp75_6.1; have q3 := hp75_6.2; have q4 := h_x_tl_4.1; have q5 := h_x_tl_4.2; have q6 := hp75_7; have q7 := hp90_7; omega)) h_x_o0_1 _) (cb_of (n := 5) hn mw_1341 mw_10 mw_1338 mhX10_putImm ⟨(Nat.le_of_ble_eq_true rfl), (Nat.le_of_ble_eq_true rfl)⟩) hx hb hml hown hn hK hSK hZ hS mw_1340 mw_s154 (ci := 10) (q0 := 0) rfl rfl rfl rfl hl.1 (Nat.le_of_ble_eq_true rfl) dX10_turnMemory_124 ⟨(Nat.le_of_ble_eq_true rfl), (Nat.le_of_ble_eq_true rfl)⟩) hP hD hS hA rfl rfl (by decide) (by decide) (by decide) (Nat.le_of_ble_eq_true rfl) (Nat.le_of_ble_eq_true rfl) (fun u124_2 H locs hp124_3 hP hD hS => ?_)
          obtain ⟨y_tl_4124_4, k_o0r124_5⟩ := u124_2
          obtain ⟨hp124_6, hp124_7⟩ := hp124_3
          have hp124_6 : rg y_tl_4124_4 1 1000001 := hp124_6
          have hp124_7 : y_tl_4124_4.toInt = y_tl_490_4.toInt + 1 := hp124_7
          have hP : va_P D vwCl [(tl, .inr (10, [.ref tls, .ref o0, .ref p0, .int x_tl_3, .int y_tl_4124_4])), (o0, .inr (5, [.ref o0r, .int x_o0_1])), (o0r, .inl (ct 1, 60000, .inl k_o0r124_5))] _ := hP
          have hD : va_D A [(tl, .inr (10, [.ref tls, .ref o0, .ref p0, .int x_tl_3, .int y_tl_4124_4])), (o0, .inr (5, [.ref o0r, .int x_o0_1])), (o0r, .inl (ct 1, 60000, .inl k_o0r124_5))] := hD
          refine lv_goto (tgt := 172) hx hb dX10_turnMemory_127 (by decide) ?_
          exact endq_v hQ hx hb hr hlocks dX10_turnMemory_172 (y_tl_4124_4, k_o0r124_5) ⟨hp124_6, (show x_tl_4.toInt + 3 ≤ y_tl_4124_4.toInt ∧ y_tl_4124_4.toInt ≤ x_tl_4.toInt + 6 by have q0 := h_x_tl_4.1; have q1 := h_x_tl_4.2; have q2 := hp124_6.1; have q3 := hp124_6.2; have q4 := hp75_6.1; have q5 := hp75_6.2; have q6 := hp90_6.1; have q7 := hp90_6.2; have q8 := hp75_7; have q9 := hp90_7; have q10 := hp124_7; omega)⟩ hP hD hS [0, 1, 2] rfl (by decide) rfl (Nat.le_of_ble_eq_true rfl) (Nat.le_of_ble_eq_true rfl)
        refine lv_icmp_ne (tgt := 111) hx hb dX10_turnMemory_104 (by decide) (fun c104_1 => ?_) (fun c104_1 => ?_)
        · have t104_2 := (i_ne c104_1)
          have r104_3 : rg r12_1 1 7 := rg_neAh t104_2 hp12_4 (show rg (8 : Int32) 8 8 from rg_l (by decide)) (by decide)
          refine lv_iload hx hb dX10_turnMemory_111 (lv_at hl 0 rfl) ?_
          refine lv_iconst (v := 4) hx hb dX10_turnMemory_113 (by decide) ?_
          refine lv_iadd hx hb dX10_turnMemory_114 ?_
          refine lv_topi (fun z114_1 ez114_1 => ?_)
          have r114_2 : rg z114_1 4 7 := rg_add ez114_1 r67_1001 (show rg (4 : Int32) 4 4 from rg_l (by decide)) (by decide)
          exact b115 z114_1 H locs ls (rg_w r114_2 (by decide)) (lv_sub hl [2] rfl) hP hD hS
        · have t104_2 := (i_eq c104_1)
          have r104_3 : rg r12_1 8 8 := rg_eqA t104_2 hp12_4 (show rg (8 : Int32) 8 8 from rg_l (by decide)) (by decide)
          refine lv_iconst (v := 3) hx hb dX10_turnMemory_107 (by decide) ?_
          refine lv_goto (tgt := 115) hx hb dX10_turnMemory_108 (by decide) ?_
          exact b115 (3 : Int32) H locs ls (rg_w (show rg (3 : Int32) 3 3 from rg_l (by decide)) (by decide)) (lv_sub hl [2] rfl) hP hD hS
    refine lv_icmp_ne (tgt := 46) hx hb dX10_turnMemory_39 (by decide) (fun c39_1 => ?_) (fun c39_1 => ?_)
    · have t39_2 := (i_ne c39_1)
      have r39_3 : rg r12_1 1 7 := rg_neAh t39_2 hp12_4 (show rg (8 : Int32) 8 8 from rg_l (by decide)) (by decide)
      refine lv_iload hx hb dX10_turnMemory_46 (lv_at hl 5 rfl) ?_
      refine lv_iconst (v := 4) hx hb dX10_turnMemory_48 (by decide) ?_
      refine lv_icmp_ne (tgt := 56) hx hb dX10_turnMemory_49 (by decide) (fun c49_1 => ?_) (fun c49_1 => ?_)
      · have t49_2 := (i_ne c49_1)
        refine lv_iload hx hb dX10_turnMemory_56 (lv_at hl 5 rfl) ?_
        refine lv_iconst (v := 2) hx hb dX10_turnMemory_58 (by decide) ?_
        refine lv_icmp_ne (tgt := 66) hx hb dX10_turnMemory_59 (by decide) (fun c59_1 => ?_) (fun c59_1 => ?_)
        · have t59_2 := (i_ne c59_1)
          refine lv_iconst (v := 0) hx hb dX10_turnMemory_66 (by decide) ?_
          exact b67 (0 : Int32) H locs ls (rg_w (show rg (0 : Int32) 0 0 from rg_l (by decide)) (by decide)) (lv_sub hl [1, 2, 3, 4, 5, 0] rfl) hP hD hS
        · have t59_2 := (i_eq c59_1)
          have r59_3 : rg r12_1 2 2 := rg_eqA t59_2 r39_3 (show rg (2 : Int32) 2 2 from rg_l (by decide)) (by decide)
          refine lv_iconst (v := 1) hx hb dX10_turnMemory_62 (by decide) ?_
          refine lv_goto (tgt := 67) hx hb dX10_turnMemory_63 (by decide) ?_
          exact b67 (1 : Int32) H locs ls (rg_w (show rg (1 : Int32) 1 1 from rg_l (by decide)) (by decide)) (lv_sub hl [1, 2, 3, 4, 5, 0] rfl) hP hD hS
      · have t49_2 := (i_eq c49_1)
        have r49_3 : rg r12_1 4 4 := rg_eqA t49_2 r39_3 (show rg (4 : Int32) 4 4 from rg_l (by decide)) (by decide)
        refine lv_iconst (v := 2) hx hb dX10_turnMemory_52 (by decide) ?_
        refine lv_goto (tgt := 67) hx hb dX10_turnMemory_53 (by decide) ?_
        exact b67 (2 : Int32) H locs ls (rg_w (show rg (2 : Int32) 2 2 from rg_l (by decide)) (by decide)) (lv_sub hl [1, 2, 3, 4, 5, 0] rfl) hP hD hS
    · have t39_2 := (i_eq c39_1)
      have r39_3 : rg r12_1 8 8 := rg_eqA t39_2 hp12_4 (show rg (8 : Int32) 8 8 from rg_l (by decide)) (by decide)
      refine lv_iconst (v := 3) hx hb dX10_turnMemory_42 (by decide) ?_
      refine lv_goto (tgt := 67) hx hb dX10_turnMemory_43 (by decide) ?_
      exact b67 (3 : Int32) H locs ls (rg_w (show rg (3 : Int32) 3 3 from rg_l (by decide)) (by decide)) (lv_sub hl [1, 2, 3, 4, 5, 0] rfl) hP hD hS
  refine lv_if_eq (tgt := 29) hx hb dX10_turnMemory_19 (by decide) (fun c19_1 => ?_) (fun c19_1 => ?_)
  · have t19_2 := (i_eq c19_1)
    have r19_3 : rg r6_1 0 0 := rg_eqA t19_2 hp6_4 (show rg (0 : Int32) 0 0 from rg_l (by decide)) (by decide)
    refine lv_lload_n hx hb dX10_turnMemory_29 rfl (lv_at hl 4 rfl) ?_
    refine go_i (k1 := 0) (n1 := 0) (wr := [(tl, .inr (10, [.ref tls, .ref o0, .ref p0, .int x_tl_3, .int x_tl_4])), (o0, .inr (5, [.ref o0r, .int x_o0_1])), (o0r, .inl (ct 1, 60000, .inl g_o0r))]) [] [0, 1, 2] (rn_SN (As := [.long v0]) (rest := []) (c_X7_dOf l D ct v0  _) (cn_of (n := 1) hn mw_986 mw_7 mw_1305 mhX7_dOf ⟨(Nat.le_of_ble_eq_true rfl), (Nat.le_of_ble_eq_true rfl)⟩) hx hb hml hown hn hK hSK hZ hS mw_985 rfl hl.1 (Nat.le_of_ble_eq_true rfl) dX10_turnMemory_30 ⟨(Nat.le_of_ble_eq_true rfl), (Nat.le_of_ble_eq_true rfl)⟩) hP hD hS hA rfl rfl (by decide) (by decide) (by decide) (Nat.le_of_ble_eq_true rfl) (Nat.le_of_ble_eq_true rfl) (fun r30_1 u30_2 H locs hp30_3 hP hD hS => ?_)
    obtain ⟨hp30_4, hp30_5⟩ := hp30_3
    have hp30_4 : rg r30_1 0 15 := hp30_4
    have hp30_5 : r30_1.toInt = (v0.toInt / 256) % 16 := hp30_5
    have hP : va_P D vwCl [(tl, .inr (10, [.ref tls, .ref o0, .ref p0, .int x_tl_3, .int x_tl_4])), (o0, .inr (5, [.ref o0r, .int x_o0_1])), (o0r, .inl (ct 1, 60000, .inl g_o0r))] _ := hP
    have hD : va_D A [(tl, .inr (10, [.ref tls, .ref o0, .ref p0, .int x_tl_3, .int x_tl_4])), (o0, .inr (5, [.ref o0r, .int x_o0_1])), (o0r, .inl (ct 1, 60000, .inl g_o0r))] := hD
    exact b33 r30_1 H locs ls hp30_4 (lv_sub hl [3, 4, 2, 1, 0] rfl) hP hD hS
  · have t19_2 := (i_ne c19_1)
    have r19_3 : rg r6_1 1 1 := rg_neAl t19_2 hp6_4 (show rg (0 : Int32) 0 0 from rg_l (by decide)) (by decide)
    refine lv_lload_n hx hb dX10_turnMemory_22 rfl (lv_at hl 4 rfl) ?_
    refine go_i (k1 := 0) (n1 := 0) (wr := [(tl, .inr (10, [.ref tls, .ref o0, .ref p0, .int x_tl_3, .int x_tl_4])), (o0, .inr (5, [.ref o0r, .int x_o0_1])), (o0r, .inl (ct 1, 60000, .inl g_o0r))]) [] [0, 1, 2] (rn_SN (As := [.long v0]) (rest := []) (c_X7_sOf l D ct v0  _) (cn_of (n := 1) hn mw_989 mw_7 mw_1321 mhX7_sOf ⟨(Nat.le_of_ble_eq_true rfl), (Nat.le_of_ble_eq_true rfl)⟩) hx hb hml hown hn hK hSK hZ hS mw_988 rfl hl.1 (Nat.le_of_ble_eq_true rfl) dX10_turnMemory_23 ⟨(Nat.le_of_ble_eq_true rfl), (Nat.le_of_ble_eq_true rfl)⟩) hP hD hS hA rfl rfl (by decide) (by decide) (by decide) (Nat.le_of_ble_eq_true rfl) (Nat.le_of_ble_eq_true rfl) (fun r23_1 u23_2 H locs hp23_3 hP hD hS => ?_)
    obtain ⟨hp23_4, hp23_5⟩ := hp23_3
    have hp23_4 : rg r23_1 0 15 := hp23_4
    have hp23_5 : r23_1.toInt = (v0.toInt / 4096) % 16 := hp23_5
    have hP : va_P D vwCl [(tl, .inr (10, [.ref tls, .ref o0, .ref p0, .int x_tl_3, .int x_tl_4])), (o0, .inr (5, [.ref o0r, .int x_o0_1])), (o0r, .inl (ct 1, 60000, .inl g_o0r))] _ := hP
    have hD : va_D A [(tl, .inr (10, [.ref tls, .ref o0, .ref p0, .int x_tl_3, .int x_tl_4])), (o0, .inr (5, [.ref o0r, .int x_o0_1])), (o0r, .inl (ct 1, 60000, .inl g_o0r))] := hD
    refine lv_goto (tgt := 33) hx hb dX10_turnMemory_26 (by decide) ?_
    exact b33 r23_1 H locs ls hp23_4 (lv_sub hl [3, 4, 2, 1, 0] rfl) hP hD hS
set_option maxHeartbeats 2000000 in
theorem c_X10_turnRead (l : Launch) (D : va_G) (ct : Nat → ClassId) (tl : Nat) (v0 : Int64) (tls : Nat) (o0 : Nat) (p0 : Nat) (x_tl_3 : Int32) (x_tl_4 : Int32) (o0r : Nat) (x_o0_1 : Int32) (g_o0r : Nat → Int32) (h_x_tl_3 : rg x_tl_3 0 1) (h_x_tl_4 : rg x_tl_4 0 999800) (h_x_o0_1 : rg x_o0_1 0 60000) : KV (S := Int32 × (Nat → Int32)) l yX10_turnRead cX10_turnRead 6 none 4 87 D ct [.ref tl, .long v0] [(tl, .inr (10, [.ref tls, .ref o0, .ref p0, .int x_tl_3, .int x_tl_4])), (o0, .inr (5, [.ref o0r, .int x_o0_1])), (o0r, .inl (ct 1, 60000, .inl g_o0r))] 0 0 (fun (u : Int32 × (Nat → Int32)) => match u with | (y_tl_4, k_o0r) => rg y_tl_4 1 1000001 ∧ (x_tl_4.toInt + 0 ≤ y_tl_4.toInt ∧ y_tl_4.toInt ≤ x_tl_4.toInt + 40)) (fun (u : Int32 × (Nat → Int32)) => match u with | (y_tl_4, k_o0r) => [(tl, .inr (10, [.ref tls, .ref o0, .ref p0, .int x_tl_3, .int y_tl_4])), (o0, .inr (5, [.ref o0r, .int x_o0_1])), (o0r, .inl (ct 1, 60000, .inl k_o0r))]) := by
  refine KVq_of (by decide) (Nat.le_of_ble_eq_true rfl) (fun p e s m below meth c A Q C0 hA H locs hS hP hD hQ ls hl => ?_)
  obtain ⟨hx, hb, hr, hown, hin, hml, hlocks, hn, hK, hZ, hSK⟩ := C0
  have hl : lv_has ls 6 [(0, .ref tl), (1, .long v0)] := hl
  refine lv_lload_n hx hb dX10_turnRead_0 rfl (lv_at hl 1 rfl) ?_
  refine go_i (k1 := 0) (n1 := 0) (wr := [(tl, .inr (10, [.ref tls, .ref o0, .ref p0, .int x_tl_3, .int x_tl_4])), (o0, .inr (5, [.ref o0r, .int x_o0_1])), (o0r, .inl (ct 1, 60000, .inl g_o0r))]) [] [0, 1, 2] (rn_SN (As := [.long v0]) (rest := []) (c_X7_codeOf l D ct v0  _) (cn_of (n := 1) hn mw_956 mw_7 mw_1299 mhX7_codeOf ⟨(Nat.le_of_ble_eq_true rfl), (Nat.le_of_ble_eq_true rfl)⟩) hx hb hml hown hn hK hSK hZ hS mw_955 rfl hl.1 (Nat.le_of_ble_eq_true rfl) dX10_turnRead_1 ⟨(Nat.le_of_ble_eq_true rfl), (Nat.le_of_ble_eq_true rfl)⟩) hP hD hS hA rfl rfl (by decide) (by decide) (by decide) (Nat.le_of_ble_eq_true rfl) (Nat.le_of_ble_eq_true rfl) (fun r1_1 u1_2 H locs hp1_3 hP hD hS => ?_)
  obtain ⟨hp1_4, hp1_5⟩ := hp1_3
  have hp1_4 : rg r1_1 0 255 := hp1_4
  have hp1_5 : r1_1.toInt = v0.toInt % 256 := hp1_5
  have hP : va_P D vwCl [(tl, .inr (10, [.ref tls, .ref o0, .ref p0, .int x_tl_3, .int x_tl_4])), (o0, .inr (5, [.ref o0r, .int x_o0_1])), (o0r, .inl (ct 1, 60000, .inl g_o0r))] _ := hP
  have hD : va_D A [(tl, .inr (10, [.ref tls, .ref o0, .ref p0, .int x_tl_3, .int x_tl_4])), (o0, .inr (5, [.ref o0r, .int x_o0_1])), (o0r, .inl (ct 1, 60000, .inl g_o0r))] := hD
  refine lv_istore_n (lv' := [(3, .int r1_1), (0, .ref tl), (1, .long v0)]) hx hb dX10_turnRead_4 rfl hl (by decide) rfl (fun ls hl => ?_)
  refine lv_iload_n hx hb dX10_turnRead_5 rfl (lv_at hl 0 rfl) ?_
  refine go_i (k1 := 0) (n1 := 0) (wr := [(tl, .inr (10, [.ref tls, .ref o0, .ref p0, .int x_tl_3, .int x_tl_4])), (o0, .inr (5, [.ref o0r, .int x_o0_1])), (o0r, .inl (ct 1, 60000, .inl g_o0r))]) [] [0, 1, 2] (rn_SN (As := [.int r1_1]) (rest := []) (c_X7_sizeOf l D ct r1_1  _) (cn_of (n := 1) hn mw_1150 mw_7 mw_1374 mhX7_sizeOf ⟨(Nat.le_of_ble_eq_true rfl), (Nat.le_of_ble_eq_true rfl)⟩) hx hb hml hown hn hK hSK hZ hS mw_1149 rfl hl.1 (Nat.le_of_ble_eq_true rfl) dX10_turnRead_6 ⟨(Nat.le_of_ble_eq_true rfl), (Nat.le_of_ble_eq_true rfl)⟩) hP hD hS hA rfl rfl (by decide) (by decide) (by decide) (Nat.le_of_ble_eq_true rfl) (Nat.le_of_ble_eq_true rfl) (fun r6_1 u6_2 H locs hp6_3 hP hD hS => ?_)
  have hp6_4 := hp6_3
  have hp6_4 : rg r6_1 1 8 := hp6_4
  have hP : va_P D vwCl [(tl, .inr (10, [.ref tls, .ref o0, .ref p0, .int x_tl_3, .int x_tl_4])), (o0, .inr (5, [.ref o0r, .int x_o0_1])), (o0r, .inl (ct 1, 60000, .inl g_o0r))] _ := hP
  have hD : va_D A [(tl, .inr (10, [.ref tls, .ref o0, .ref p0, .int x_tl_3, .int x_tl_4])), (o0, .inr (5, [.ref o0r, .int x_o0_1])), (o0r, .inl (ct 1, 60000, .inl g_o0r))] := hD
  refine lv_istore (lv' := [(4, .int r6_1), (3, .int r1_1), (0, .ref tl), (1, .long v0)]) hx hb dX10_turnRead_9 hl (by decide) rfl (fun ls hl => ?_)
  refine lv_aload_n hx hb dX10_turnRead_11 rfl (lv_at hl 2 rfl) ?_
  refine lv_iconst (v := 5) hx hb dX10_turnRead_12 (by decide) ?_
  refine lv_lload_n hx hb dX10_turnRead_13 rfl (lv_at hl 3 rfl) ?_
  refine go_i (k1 := 0) (n1 := 0) (wr := [(tl, .inr (10, [.ref tls, .ref o0, .ref p0, .int x_tl_3, .int x_tl_4])), (o0, .inr (5, [.ref o0r, .int x_o0_1])), (o0r, .inl (ct 1, 60000, .inl g_o0r))]) [] [0, 1, 2] (rn_SN (As := [.long v0]) (rest := [.int 5, .ref tl]) (c_X7_kOf l D ct v0  _) (cn_of (n := 1) hn mw_995 mw_7 mw_1311 mhX7_kOf ⟨(Nat.le_of_ble_eq_true rfl), (Nat.le_of_ble_eq_true rfl)⟩) hx hb hml hown hn hK hSK hZ hS mw_994 rfl hl.1 (Nat.le_of_ble_eq_true rfl) dX10_turnRead_14 ⟨(Nat.le_of_ble_eq_true rfl), (Nat.le_of_ble_eq_true rfl)⟩) hP hD hS hA rfl rfl (by decide) (by decide) (by decide) (Nat.le_of_ble_eq_true rfl) (Nat.le_of_ble_eq_true rfl) (fun r14_1 u14_2 H locs hp14_3 hP hD hS => ?_)
  have hP : va_P D vwCl [(tl, .inr (10, [.ref tls, .ref o0, .ref p0, .int x_tl_3, .int x_tl_4])), (o0, .inr (5, [.ref o0r, .int x_o0_1])), (o0r, .inl (ct 1, 60000, .inl g_o0r))] _ := hP
  have hD : va_D A [(tl, .inr (10, [.ref tls, .ref o0, .ref p0, .int x_tl_3, .int x_tl_4])), (o0, .inr (5, [.ref o0r, .int x_o0_1])), (o0r, .inl (ct 1, 60000, .inl g_o0r))] := hD
  refine go_v (k1 := 0) (n1 := 0) (wr := []) [0, 1, 2] [] (rn_V (As := [.int 5, .int r14_1]) (rest := []) (c_X10_putNumber l D ct tl (5 : Int32) r14_1 tls o0 p0 x_tl_3 x_tl_4 o0r x_o0_1 g_o0r h_x_tl_3 (rg_w h_x_tl_4 (by decide)) h_x_o0_1 _) (cb_of (n := 2) hn mw_1315 mw_10 mw_1312 mhX10_putNumber ⟨(Nat.le_of_ble_eq_true rfl), (Nat.le_of_ble_eq_true rfl)⟩) hx hb hml hown hn hK hSK hZ hS mw_1314 mw_s148 (ci := 10) (q0 := 0) rfl rfl rfl rfl hl.1 (Nat.le_of_ble_eq_true rfl) dX10_turnRead_17 ⟨(Nat.le_of_ble_eq_true rfl), (Nat.le_of_ble_eq_true rfl)⟩) hP hD hS hA rfl rfl (by decide) (by decide) (by decide) (Nat.le_of_ble_eq_true rfl) (Nat.le_of_ble_eq_true rfl) (fun u17_2 H locs hp17_3 hP hD hS => ?_)
  obtain ⟨y_tl_417_4, k_o0r17_5⟩ := u17_2
  obtain ⟨hp17_6, hp17_7⟩ := hp17_3
  have hp17_6 : rg y_tl_417_4 1 1000001 := hp17_6
  have hp17_7 : x_tl_4.toInt + 1 ≤ y_tl_417_4.toInt ∧ y_tl_417_4.toInt ≤ x_tl_4.toInt + 2 := hp17_7
  have hP : va_P D vwCl [(tl, .inr (10, [.ref tls, .ref o0, .ref p0, .int x_tl_3, .int y_tl_417_4])), (o0, .inr (5, [.ref o0r, .int x_o0_1])), (o0r, .inl (ct 1, 60000, .inl k_o0r17_5))] _ := hP
  have hD : va_D A [(tl, .inr (10, [.ref tls, .ref o0, .ref p0, .int x_tl_3, .int y_tl_417_4])), (o0, .inr (5, [.ref o0r, .int x_o0_1])), (o0r, .inl (ct 1, 60000, .inl k_o0r17_5))] := hD
  refine lv_iload_n hx hb dX10_turnRead_20 rfl (lv_at hl 1 rfl) ?_
  refine lv_bipush (v := 64) hx hb dX10_turnRead_21 (by decide) ?_
  have b43 : ∀ (j43_ftl_4 : Int32) (j43_co0r : Nat → Int32) (H : Heap) (locs : List Loc) (ls : Array Slot), (rg j43_ftl_4 1 1000001) → (x_tl_4.toInt + 1 ≤ j43_ftl_4.toInt ∧ j43_ftl_4.toInt ≤ x_tl_4.toInt + 3) → lv_has ls 6 [(0, .ref tl), (4, .int r6_1)] → va_P D vwCl [(tl, .inr (10, [.ref tls, .ref o0, .ref p0, .int x_tl_3, .int j43_ftl_4])), (o0, .inr (5, [.ref o0r, .int x_o0_1])), (o0r, .inl (ct 1, 60000, .inl j43_co0r))] H → va_D A [(tl, .inr (10, [.ref tls, .ref o0, .ref p0, .int x_tl_3, .int j43_ftl_4])), (o0, .inr (5, [.ref o0r, .int x_o0_1])), (o0r, .inl (ct 1, 60000, .inl j43_co0r))] → va_S A s.heap H locs → W p l e ({ frames := 4, cells := 0, slots := 0, locals := 87 }) s m [.ref tl, .long v0].toArray below meth c H locs 0 0 Q (F0 m 43 ls []) := by
    intro j43_ftl_4 j43_co0r H locs ls r43_1001 ho43_1002 hl hP hD hS
    refine lv_aload_n hx hb dX10_turnRead_43 rfl (lv_at hl 0 rfl) ?_
    refine lv_iconst (v := 5) hx hb dX10_turnRead_44 (by decide) ?_
    refine go_v (k1 := 0) (n1 := 0) (wr := []) [0, 1, 2] [] (rn_V (As := [.int 5]) (rest := []) (c_X10_putCut l D ct tl (5 : Int32) tls o0 p0 x_tl_3 j43_ftl_4 o0r x_o0_1 j43_co0r h_x_tl_3 (rg_of (show 0 ≤ j43_ftl_4.toInt ∧ j43_ftl_4.toInt ≤ 999950 by have q0 := r43_1001.1; have q1 := r43_1001.2; have q2 := h_x_tl_4.1; have q3 := h_x_tl_4.2; have q4 := hp17_6.1; have q5 := hp17_6.2; have q6 := hp17_7; have q7 := ho43_1002; omega)) h_x_o0_1 _) (cb_of (n := 1) hn mw_1358 mw_10 mw_1355 mhX10_putCut ⟨(Nat.le_of_ble_eq_true rfl), (Nat.le_of_ble_eq_true rfl)⟩) hx hb hml hown hn hK hSK hZ hS mw_1357 mw_s157 (ci := 10) (q0 := 0) rfl rfl rfl rfl hl.1 (Nat.le_of_ble_eq_true rfl) dX10_turnRead_45 ⟨(Nat.le_of_ble_eq_true rfl), (Nat.le_of_ble_eq_true rfl)⟩) hP hD hS hA rfl rfl (by decide) (by decide) (by decide) (Nat.le_of_ble_eq_true rfl) (Nat.le_of_ble_eq_true rfl) (fun u45_2 H locs hp45_3 hP hD hS => ?_)
    obtain ⟨y_tl_445_4, k_o0r45_5⟩ := u45_2
    obtain ⟨hp45_6, hp45_7⟩ := hp45_3
    have hp45_6 : rg y_tl_445_4 1 1000001 := hp45_6
    have hp45_7 : y_tl_445_4.toInt = j43_ftl_4.toInt + 2 := hp45_7
    have hP : va_P D vwCl [(tl, .inr (10, [.ref tls, .ref o0, .ref p0, .int x_tl_3, .int y_tl_445_4])), (o0, .inr (5, [.ref o0r, .int x_o0_1])), (o0r, .inl (ct 1, 60000, .inl k_o0r45_5))] _ := hP
    have hD : va_D A [(tl, .inr (10, [.ref tls, .ref o0, .ref p0, .int x_tl_3, .int y_tl_445_4])), (o0, .inr (5, [.ref o0r, .int x_o0_1])), (o0r, .inl (ct 1, 60000, .inl k_o0r45_5))] := hD
    refine lv_aload_n hx hb dX10_turnRead_48 rfl (lv_at hl 0 rfl) ?_
    refine lv_bipush (v := 6) hx hb dX10_turnRead_49 (by decide) ?_
    refine lv_iconst (v := 5) hx hb dX10_turnRead_51 (by decide) ?_
    refine lv_iload hx hb dX10_turnRead_52 (lv_at hl 1 rfl) ?_
    refine go_v (k1 := 0) (n1 := 0) (wr := []) [0, 1, 2] [] (rn_V (As := [.int 6, .int 5, .int r6_1]) (rest := []) (c_X10_putAdd l D ct tl (6 : Int32) (5 : Int32) r6_1 tls o0 p0 x_tl_3 y_tl_445_4 o0r x_o0_1 k_o0r45_5 h_x_tl_3 (rg_of (show 0 ≤ y_tl_445_4.toInt ∧ y_tl_445_4.toInt ≤ 999990 by have q0 := hp45_6.1; have q1 := hp45_6.2; have q2 := r43_1001.1; have q3 := r43_1001.2; have q4 := h_x_tl_4.1; have q5 := h_x_tl_4.2; have q6 := hp17_6.1; have q7 := hp17_6.2; have q8 := hp17_7; have q9 := ho43_1002; have q10 := hp45_7; omega)) h_x_o0_1 _) (cb_of (n := 3) hn mw_1325 mw_10 mw_1322 mhX10_putAdd ⟨(Nat.le_of_ble_eq_true rfl), (Nat.le_of_ble_eq_true rfl)⟩) hx hb hml hown hn hK hSK hZ hS mw_1324 mw_s150 (ci := 10) (q0 := 0) rfl rfl rfl rfl hl.1 (Nat.le_of_ble_eq_true rfl) dX10_turnRead_54 ⟨(Nat.le_of_ble_eq_true rfl), (Nat.le_of_ble_eq_true rfl)⟩) hP hD hS hA rfl rfl (by decide) (by decide) (by decide) (Nat.le_of_ble_eq_true rfl) (Nat.le_of_ble_eq_true rfl) (fun u54_2 H locs hp54_3 hP hD hS => ?_)
    obtain ⟨y_tl_454_4, k_o0r54_5⟩ := u54_2
    obtain ⟨hp54_6, hp54_7⟩ := hp54_3
    have hp54_6 : rg y_tl_454_4 1 1000001 := hp54_6
    have hp54_7 : y_tl_454_4.toInt = y_tl_445_4.toInt + 1 := hp54_7
    have hP : va_P D vwCl [(tl, .inr (10, [.ref tls, .ref o0, .ref p0, .int x_tl_3, .int y_tl_454_4])), (o0, .inr (5, [.ref o0r, .int x_o0_1])), (o0r, .inl (ct 1, 60000, .inl k_o0r54_5))] _ := hP
    have hD : va_D A [(tl, .inr (10, [.ref tls, .ref o0, .ref p0, .int x_tl_3, .int y_tl_454_4])), (o0, .inr (5, [.ref o0r, .int x_o0_1])), (o0r, .inl (ct 1, 60000, .inl k_o0r54_5))] := hD
    refine lv_aload_n hx hb dX10_turnRead_57 rfl (lv_at hl 0 rfl) ?_
    refine lv_bipush (v := 7) hx hb dX10_turnRead_58 (by decide) ?_
    refine lv_bipush (v := 9) hx hb dX10_turnRead_60 (by decide) ?_
    refine lv_bipush (v := 6) hx hb dX10_turnRead_62 (by decide) ?_
    refine lv_bipush (v := 12) hx hb dX10_turnRead_64 (by decide) ?_
    refine go_v (k1 := 0) (n1 := 0) (wr := []) [0, 1, 2] [] (rn_V (As := [.int 7, .int 9, .int 6, .int 12]) (rest := []) (c_X10_putBranch l D ct tl (7 : Int32) (9 : Int32) (6 : Int32) (12 : Int32) tls o0 p0 x_tl_3 y_tl_454_4 o0r x_o0_1 k_o0r54_5 h_x_tl_3 (rg_of (show 0 ≤ y_tl_454_4.toInt ∧ y_tl_454_4.toInt ≤ 999990 by have q0 := hp54_6.1; have q1 := hp54_6.2; have q2 := hp45_6.1; have q3 := hp45_6.2; have q4 := r43_1001.1; have q5 := r43_1001.2; have q6 := h_x_tl_4.1; have q7 := h_x_tl_4.2; have q8 := hp17_6.1; have q9 := hp17_6.2; have q10 := hp17_7; have q11 := ho43_1002; have q12 := hp45_7; have q13 := hp54_7; omega)) h_x_o0_1 _) (cb_of (n := 4) hn mw_1345 mw_10 mw_1342 mhX10_putBranch ⟨(Nat.le_of_ble_eq_true rfl), (Nat.le_of_ble_eq_true rfl)⟩) hx hb hml hown hn hK hSK hZ hS mw_1344 mw_s155 (ci := 10) (q0 := 0) rfl rfl rfl rfl hl.1 (Nat.le_of_ble_eq_true rfl) dX10_turnRead_66 ⟨(Nat.le_of_ble_eq_true rfl), (Nat.le_of_ble_eq_true rfl)⟩) hP hD hS hA rfl rfl (by decide) (by decide) (by decide) (Nat.le_of_ble_eq_true rfl) (Nat.le_of_ble_eq_true rfl) (fun u66_2 H locs hp66_3 hP hD hS => ?_)
    obtain ⟨y_tl_466_4, k_o0r66_5⟩ := u66_2
    obtain ⟨hp66_6, hp66_7⟩ := hp66_3
    have hp66_6 : rg y_tl_466_4 1 1000001 := hp66_6
    have hp66_7 : y_tl_466_4.toInt = y_tl_454_4.toInt + 1 := hp66_7
    have hP : va_P D vwCl [(tl, .inr (10, [.ref tls, .ref o0, .ref p0, .int x_tl_3, .int y_tl_466_4])), (o0, .inr (5, [.ref o0r, .int x_o0_1])), (o0r, .inl (ct 1, 60000, .inl k_o0r66_5))] _ := hP
    have hD : va_D A [(tl, .inr (10, [.ref tls, .ref o0, .ref p0, .int x_tl_3, .int y_tl_466_4])), (o0, .inr (5, [.ref o0r, .int x_o0_1])), (o0r, .inl (ct 1, 60000, .inl k_o0r66_5))] := hD
    refine lv_aload_n hx hb dX10_turnRead_69 rfl (lv_at hl 0 rfl) ?_
    refine lv_bipush (v := 10) hx hb dX10_turnRead_70 (by decide) ?_
    refine lv_iconst (v := 0) hx hb dX10_turnRead_72 (by decide) ?_
    refine lv_iconst (v := 0) hx hb dX10_turnRead_73 (by decide) ?_
    refine go_v (k1 := 0) (n1 := 0) (wr := []) [0, 1, 2] [] (rn_V (As := [.int 10, .int 0, .int 0]) (rest := []) (c_X10_putAdd l D ct tl (10 : Int32) (0 : Int32) (0 : Int32) tls o0 p0 x_tl_3 y_tl_466_4 o0r x_o0_1 k_o0r66_5 h_x_tl_3 (rg_of (show 0 ≤ y_tl_466_4.toInt ∧ y_tl_466_4.toInt ≤ 999990 by have q0 := hp66_6.1; have q1 := hp66_6.2; have q2 := hp54_6.1; have q3 := hp54_6.2; have q4 := hp45_6.1; have q5 := hp45_6.2; have q6 := r43_1001.1; have q7 := r43_1001.2; have q8 := h_x_tl_4.1; have q9 := h_x_tl_4.2; have q10 := hp17_6.1; have q11 := hp17_6.2; have q12 := hp17_7; have q13 := ho43_1002; have q14 := hp45_7; have q15 := hp54_7; have q16 := hp66_7; omega)) h_x_o0_1 _) (cb_of (n := 3) hn mw_1325 mw_10 mw_1322 mhX10_putAdd ⟨(Nat.le_of_ble_eq_true rfl), (Nat.le_of_ble_eq_true rfl)⟩) hx hb hml hown hn hK hSK hZ hS mw_1324 mw_s150 (ci := 10) (q0 := 0) rfl rfl rfl rfl hl.1 (Nat.le_of_ble_eq_true rfl) dX10_turnRead_74 ⟨(Nat.le_of_ble_eq_true rfl), (Nat.le_of_ble_eq_true rfl)⟩) hP hD hS hA rfl rfl (by decide) (by decide) (by decide) (Nat.le_of_ble_eq_true rfl) (Nat.le_of_ble_eq_true rfl) (fun u74_2 H locs hp74_3 hP hD hS => ?_)
    obtain ⟨y_tl_474_4, k_o0r74_5⟩ := u74_2
    obtain ⟨hp74_6, hp74_7⟩ := hp74_3
    have hp74_6 : rg y_tl_474_4 1 1000001 := hp74_6
    have hp74_7 : y_tl_474_4.toInt = y_tl_466_4.toInt + 1 := hp74_7
    have hP : va_P D vwCl [(tl, .inr (10, [.ref tls, .ref o0, .ref p0, .int x_tl_3, .int y_tl_474_4])), (o0, .inr (5, [.ref o0r, .int x_o0_1])), (o0r, .inl (ct 1, 60000, .inl k_o0r74_5))] _ := hP
    have hD : va_D A [(tl, .inr (10, [.ref tls, .ref o0, .ref p0, .int x_tl_3, .int y_tl_474_4])), (o0, .inr (5, [.ref o0r, .int x_o0_1])), (o0r, .inl (ct 1, 60000, .inl k_o0r74_5))] := hD
    refine lv_aload_n hx hb dX10_turnRead_77 rfl (lv_at hl 0 rfl) ?_
    refine lv_bipush (v := 115) hx hb dX10_turnRead_78 (by decide) ?_
    refine go_v (k1 := 0) (n1 := 0) (wr := []) [0, 1, 2] [] (rn_V (As := [.int 115]) (rest := []) (c_X10_put l D ct tl (115 : Int32) tls o0 p0 x_tl_3 y_tl_474_4 o0r x_o0_1 k_o0r74_5 h_x_tl_3 (rg_of (show 0 ≤ y_tl_474_4.toInt ∧ y_tl_474_4.toInt ≤ 1000000 by have q0 := hp74_6.1; have q1 := hp74_6.2; have q2 := hp66_6.1; have q3 := hp66_6.2; have q4 := hp54_6.1; have q5 := hp54_6.2; have q6 := hp45_6.1; have q7 := hp45_6.2; have q8 := r43_1001.1; have q9 := r43_1001.2; have q10 := h_x_tl_4.1; have q11 := h_x_tl_4.2; have q12 := hp17_6.1; have q13 := hp17_6.2; have q14 := hp17_7; have q15 := ho43_1002; have q16 := hp45_7; have q17 := hp54_7; have q18 := hp66_7; have q19 := hp74_7; omega)) h_x_o0_1 _) (cb_of (n := 1) hn mw_1319 mw_10 mw_1316 mhX10_put ⟨(Nat.le_of_ble_eq_true rfl), (Nat.le_of_ble_eq_true rfl)⟩) hx hb hml hown hn hK hSK hZ hS mw_1318 mw_s149 (ci := 10) (q0 := 0) rfl rfl rfl rfl hl.1 (Nat.le_of_ble_eq_true rfl) dX10_turnRead_80 ⟨(Nat.le_of_ble_eq_true rfl), (Nat.le_of_ble_eq_true rfl)⟩) hP hD hS hA rfl rfl (by decide) (by decide) (by decide) (Nat.le_of_ble_eq_true rfl) (Nat.le_of_ble_eq_true rfl) (fun u80_2 H locs hp80_3 hP hD hS => ?_)
    obtain ⟨y_tl_480_4, k_o0r80_5⟩ := u80_2
    obtain ⟨hp80_6, hp80_7⟩ := hp80_3
    have hp80_6 : rg y_tl_480_4 1 1000001 := hp80_6
    have hp80_7 : y_tl_480_4.toInt = y_tl_474_4.toInt + 1 := hp80_7
    have hP : va_P D vwCl [(tl, .inr (10, [.ref tls, .ref o0, .ref p0, .int x_tl_3, .int y_tl_480_4])), (o0, .inr (5, [.ref o0r, .int x_o0_1])), (o0r, .inl (ct 1, 60000, .inl k_o0r80_5))] _ := hP
    have hD : va_D A [(tl, .inr (10, [.ref tls, .ref o0, .ref p0, .int x_tl_3, .int y_tl_480_4])), (o0, .inr (5, [.ref o0r, .int x_o0_1])), (o0r, .inl (ct 1, 60000, .inl k_o0r80_5))] := hD
    refine lv_aload_n hx hb dX10_turnRead_83 rfl (lv_at hl 0 rfl) ?_
    refine lv_bipush (v := 51) hx hb dX10_turnRead_84 (by decide) ?_
    refine lv_iconst (v := 0) hx hb dX10_turnRead_86 (by decide) ?_
    refine lv_iconst (v := 0) hx hb dX10_turnRead_87 (by decide) ?_
    refine lv_iconst (v := 5) hx hb dX10_turnRead_88 (by decide) ?_
    refine lv_iconst (v := 5) hx hb dX10_turnRead_89 (by decide) ?_
    refine lv_bipush (v := 8) hx hb dX10_turnRead_90 (by decide) ?_
    refine go_v (k1 := 0) (n1 := 0) (wr := []) [0, 1, 2] [] (rn_V (As := [.int 51, .int 0, .int 0, .int 5, .int 5, .int 8]) (rest := []) (c_X10_putOp l D ct tl (51 : Int32) (0 : Int32) (0 : Int32) (5 : Int32) (5 : Int32) (8 : Int32) tls o0 p0 x_tl_3 y_tl_480_4 o0r x_o0_1 k_o0r80_5 h_x_tl_3 (rg_of (show 0 ≤ y_tl_480_4.toInt ∧ y_tl_480_4.toInt ≤ 999990 by have q0 := hp80_6.1; have q1 := hp80_6.2; have q2 := hp74_6.1; have q3 := hp74_6.2; have q4 := hp66_6.1; have q5 := hp66_6.2; have q6 := hp54_6.1; have q7 := hp54_6.2; have q8 := hp45_6.1; have q9 := hp45_6.2; have q10 := r43_1001.1; have q11 := r43_1001.2; have q12 := h_x_tl_4.1; have q13 := h_x_tl_4.2; have q14 := hp17_6.1; have q15 := hp17_6.2; have q16 := hp17_7; have q17 := ho43_1002; have q18 := hp45_7; have q19 := hp54_7; have q20 := hp66_7; have q21 := hp74_7; have q22 := hp80_7; omega)) h_x_o0_1 _) (cb_of (n := 6) hn mw_1329 mw_10 mw_1326 mhX10_putOp ⟨(Nat.le_of_ble_eq_true rfl), (Nat.le_of_ble_eq_true rfl)⟩) hx hb hml hown hn hK hSK hZ hS mw_1328 mw_s151 (ci := 10) (q0 := 0) rfl rfl rfl rfl hl.1 (Nat.le_of_ble_eq_true rfl) dX10_turnRead_92 ⟨(Nat.le_of_ble_eq_true rfl), (Nat.le_of_ble_eq_true rfl)⟩) hP hD hS hA rfl rfl (by decide) (by decide) (by decide) (Nat.le_of_ble_eq_true rfl) (Nat.le_of_ble_eq_true rfl) (fun u92_2 H locs hp92_3 hP hD hS => ?_)
    obtain ⟨y_tl_492_4, k_o0r92_5⟩ := u92_2
    obtain ⟨hp92_6, hp92_7⟩ := hp92_3
    have hp92_6 : rg y_tl_492_4 1 1000001 := hp92_6
    have hp92_7 : y_tl_492_4.toInt = y_tl_480_4.toInt + 1 := hp92_7
    have hP : va_P D vwCl [(tl, .inr (10, [.ref tls, .ref o0, .ref p0, .int x_tl_3, .int y_tl_492_4])), (o0, .inr (5, [.ref o0r, .int x_o0_1])), (o0r, .inl (ct 1, 60000, .inl k_o0r92_5))] _ := hP
    have hD : va_D A [(tl, .inr (10, [.ref tls, .ref o0, .ref p0, .int x_tl_3, .int y_tl_492_4])), (o0, .inr (5, [.ref o0r, .int x_o0_1])), (o0r, .inl (ct 1, 60000, .inl k_o0r92_5))] := hD
    refine lv_aload_n hx hb dX10_turnRead_95 rfl (lv_at hl 0 rfl) ?_
    refine lv_iconst (v := 3) hx hb dX10_turnRead_96 (by decide) ?_
    refine lv_iconst (v := 4) hx hb dX10_turnRead_97 (by decide) ?_
    refine lv_bipush (v := 10) hx hb dX10_turnRead_98 (by decide) ?_
    refine lv_iconst (v := 5) hx hb dX10_turnRead_100 (by decide) ?_
    refine lv_iconst (v := 0) hx hb dX10_turnRead_101 (by decide) ?_
    refine go_v (k1 := 0) (n1 := 0) (wr := []) [0, 1, 2] [] (rn_V (As := [.int 3, .int 4, .int 10, .int 5, .int 0]) (rest := []) (c_X10_putImm l D ct tl (3 : Int32) (4 : Int32) (10 : Int32) (5 : Int32) (0 : Int32) tls o0 p0 x_tl_3 y_tl_492_4 o0r x_o0_1 k_o0r92_5 h_x_tl_3 (rg_of (show 0 ≤ y_tl_492_4.toInt ∧ y_tl_492_4.toInt ≤ 999990 by have q0 := hp92_6.1; have q1 := hp92_6.2; have q2 := hp80_6.1; have q3 := hp80_6.2; have q4 := hp74_6.1; have q5 := hp74_6.2; have q6 := hp66_6.1; have q7 := hp66_6.2; have q8 := hp54_6.1; have q9 := hp54_6.2; have q10 := hp45_6.1; have q11 := hp45_6.2; have q12 := r43_1001.1; have q13 := r43_1001.2; have q14 := h_x_tl_4.1; have q15 := h_x_tl_4.2; have q16 := hp17_6.1; have q17 := hp17_6.2; have q18 := hp17_7; have q19 := ho43_1002; have q20 := hp45_7; have q21 := hp54_7; have q22 := hp66_7; have q23 := hp74_7; have q24 := hp80_7; have q25 := hp92_7; omega)) h_x_o0_1 _) (cb_of (n := 5) hn mw_1341 mw_10 mw_1338 mhX10_putImm ⟨(Nat.le_of_ble_eq_true rfl), (Nat.le_of_ble_eq_true rfl)⟩) hx hb hml hown hn hK hSK hZ hS mw_1340 mw_s154 (ci := 10) (q0 := 0) rfl rfl rfl rfl hl.1 (Nat.le_of_ble_eq_true rfl) dX10_turnRead_102 ⟨(Nat.le_of_ble_eq_true rfl), (Nat.le_of_ble_eq_true rfl)⟩) hP hD hS hA rfl rfl (by decide) (by decide) (by decide) (Nat.le_of_ble_eq_true rfl) (Nat.le_of_ble_eq_true rfl) (fun u102_2 H locs hp102_3 hP hD hS => ?_)
    obtain ⟨y_tl_4102_4, k_o0r102_5⟩ := u102_2
    obtain ⟨hp102_6, hp102_7⟩ := hp102_3
    have hp102_6 : rg y_tl_4102_4 1 1000001 := hp102_6
    have hp102_7 : y_tl_4102_4.toInt = y_tl_492_4.toInt + 1 := hp102_7
    have hP : va_P D vwCl [(tl, .inr (10, [.ref tls, .ref o0, .ref p0, .int x_tl_3, .int y_tl_4102_4])), (o0, .inr (5, [.ref o0r, .int x_o0_1])), (o0r, .inl (ct 1, 60000, .inl k_o0r102_5))] _ := hP
    have hD : va_D A [(tl, .inr (10, [.ref tls, .ref o0, .ref p0, .int x_tl_3, .int y_tl_4102_4])), (o0, .inr (5, [.ref o0r, .int x_o0_1])), (o0r, .inl (ct 1, 60000, .inl k_o0r102_5))] := hD
    refine lv_iconst (v := 1) hx hb dX10_turnRead_105 (by decide) ?_
    refine lv_istore (lv' := [(5, .int 1), (0, .ref tl), (4, .int r6_1)]) hx hb dX10_turnRead_106 hl (by decide) rfl (fun ls hl => ?_)
    have b108 : ∀ (n : Nat) (j108_l5 : Int32) (j108_ftl_4 : Int32) (j108_co0r : Nat → Int32) (H : Heap) (locs : List Loc) (ls : Array Slot), (rg j108_l5 1 8) → (rg j108_ftl_4 1 1000001) → (j108_ftl_4.toInt ≤ x_tl_4.toInt + 13 + 3 * j108_l5.toInt ∧ x_tl_4.toInt ≤ j108_ftl_4.toInt) → ((2147483647 : Int) - j108_l5.toInt).toNat < n → lv_has ls 6 [(0, .ref tl), (4, .int r6_1), (5, .int j108_l5)] → va_P D vwCl [(tl, .inr (10, [.ref tls, .ref o0, .ref p0, .int x_tl_3, .int j108_ftl_4])), (o0, .inr (5, [.ref o0r, .int x_o0_1])), (o0r, .inl (ct 1, 60000, .inl j108_co0r))] H → va_D A [(tl, .inr (10, [.ref tls, .ref o0, .ref p0, .int x_tl_3, .int j108_ftl_4])), (o0, .inr (5, [.ref o0r, .int x_o0_1])), (o0r, .inl (ct 1, 60000, .inl j108_co0r))] → va_S A s.heap H locs → W p l e ({ frames := 4, cells := 0, slots := 0, locals := 87 }) s m [.ref tl, .long v0].toArray below meth c H locs 0 0 Q (F0 m 108 ls []) := by
      intro n
      induction n with
      | zero => intros; rename_i hms _ _ _ _; exact absurd hms (Nat.not_lt_zero _)
      | succ n ih =>
        intro j108_l5 j108_ftl_4 j108_co0r H locs ls r108_1001 r108_1002 hi108_1003 hms hl hP hD hS
        refine lv_iload hx hb dX10_turnRead_108 (lv_at hl 2 rfl) ?_
        refine lv_iload hx hb dX10_turnRead_110 (lv_at hl 1 rfl) ?_
        refine lv_icmp_ge (tgt := 160) hx hb dX10_turnRead_112 (by decide) (fun c112_1 => ?_) (fun c112_1 => ?_)
        · have t112_2 := (i_le c112_1)
          exact endq_v hQ hx hb hr hlocks dX10_turnRead_160 (j108_ftl_4, j108_co0r) ⟨r108_1002, (show x_tl_4.toInt + 0 ≤ j108_ftl_4.toInt ∧ j108_ftl_4.toInt ≤ x_tl_4.toInt + 40 by have q0 := h_x_tl_4.1; have q1 := h_x_tl_4.2; have q2 := r108_1002.1; have q3 := r108_1002.2; have q4 := hp17_6.1; have q5 := hp17_6.2; have q6 := r43_1001.1; have q7 := r43_1001.2; have q8 := r108_1001.1; have q9 := r108_1001.2; have q10 := hp45_6.1; have q11 := hp45_6.2; have q12 := hp6_4.1; have q13 := hp6_4.2; have q14 := hp54_6.1; have q15 := hp54_6.2; have q16 := hp66_6.1; have q17 := hp66_6.2; have q18 := hp74_6.1; have q19 := hp74_6.2; have q20 := hp80_6.1; have q21 := hp80_6.2; have q22 := hp92_6.1; have q23 := hp92_6.2; have q24 := hp102_6.1; have q25 := hp102_6.2; have q26 := hp17_7; have q27 := ho43_1002; have q28 := hp45_7; have q29 := hp54_7; have q30 := hp66_7; have q31 := hp74_7; have q32 := hp80_7; have q33 := hp92_7; have q34 := hp102_7; have q35 := hi108_1003; have q36 := t112_2; omega)⟩ hP hD hS [0, 1, 2] rfl (by decide) rfl (Nat.le_of_ble_eq_true rfl) (Nat.le_of_ble_eq_true rfl)
        · have t112_2 := (i_nle c112_1)
          have r112_3 : rg j108_l5 1 7 := rg_ltA t112_2 r108_1001 hp6_4 (by decide)
          have r112_4 : rg r6_1 2 8 := rg_ltB t112_2 r108_1001 hp6_4 (by decide)
          refine lv_aload_n hx hb dX10_turnRead_115 rfl (lv_at hl 0 rfl) ?_
          refine lv_bipush (v := 19) hx hb dX10_turnRead_116 (by decide) ?_
          refine lv_iconst (v := 1) hx hb dX10_turnRead_118 (by decide) ?_
          refine lv_bipush (v := 10) hx hb dX10_turnRead_119 (by decide) ?_
          refine lv_bipush (v := 10) hx hb dX10_turnRead_121 (by decide) ?_
          refine lv_bipush (v := 8) hx hb dX10_turnRead_123 (by decide) ?_
          refine go_v (k1 := 0) (n1 := 0) (wr := []) [0, 1, 2] [] (rn_V (As := [.int 19, .int 1, .int 10, .int 10, .int 8]) (rest := []) (c_X10_putImm l D ct tl (19 : Int32) (1 : Int32) (10 : Int32) (10 : Int32) (8 : Int32) tls o0 p0 x_tl_3 j108_ftl_4 o0r x_o0_1 j108_co0r h_x_tl_3 (rg_of (show 0 ≤ j108_ftl_4.toInt ∧ j108_ftl_4.toInt ≤ 999990 by have q0 := r108_1002.1; have q1 := r108_1002.2; have q2 := h_x_tl_4.1; have q3 := h_x_tl_4.2; have q4 := r112_3.1; have q5 := r112_3.2; have q6 := hp17_6.1; have q7 := hp17_6.2; have q8 := r43_1001.1; have q9 := r43_1001.2; have q10 := r112_4.1; have q11 := r112_4.2; have q12 := hp45_6.1; have q13 := hp45_6.2; have q14 := hp54_6.1; have q15 := hp54_6.2; have q16 := hp66_6.1; have q17 := hp66_6.2; have q18 := hp74_6.1; have q19 := hp74_6.2; have q20 := hp80_6.1; have q21 := hp80_6.2; have q22 := hp92_6.1; have q23 := hp92_6.2; have q24 := hp102_6.1; have q25 := hp102_6.2; have q26 := hp17_7; have q27 := ho43_1002; have q28 := hp45_7; have q29 := hp54_7; have q30 := hp66_7; have q31 := hp74_7; have q32 := hp80_7; have q33 := hp92_7; have q34 := hp102_7; have q35 := hi108_1003; have q36 := t112_2; omega)) h_x_o0_1 _) (cb_of (n := 5) hn mw_1341 mw_10 mw_1338 mhX10_putImm ⟨(Nat.le_of_ble_eq_true rfl), (Nat.le_of_ble_eq_true rfl)⟩) hx hb hml hown hn hK hSK hZ hS mw_1340 mw_s154 (ci := 10) (q0 := 0) rfl rfl rfl rfl hl.1 (Nat.le_of_ble_eq_true rfl) dX10_turnRead_125 ⟨(Nat.le_of_ble_eq_true rfl), (Nat.le_of_ble_eq_true rfl)⟩) hP hD hS hA rfl rfl (by decide) (by decide) (by decide) (Nat.le_of_ble_eq_true rfl) (Nat.le_of_ble_eq_true rfl) (fun u125_2 H locs hp125_3 hP hD hS => ?_)
          obtain ⟨y_tl_4125_4, k_o0r125_5⟩ := u125_2
          obtain ⟨hp125_6, hp125_7⟩ := hp125_3
          have hp125_6 : rg y_tl_4125_4 1 1000001 := hp125_6
          have hp125_7 : y_tl_4125_4.toInt = j108_ftl_4.toInt + 1 := hp125_7
          have hP : va_P D vwCl [(tl, .inr (10, [.ref tls, .ref o0, .ref p0, .int x_tl_3, .int y_tl_4125_4])), (o0, .inr (5, [.ref o0r, .int x_o0_1])), (o0r, .inl (ct 1, 60000, .inl k_o0r125_5))] _ := hP
          have hD : va_D A [(tl, .inr (10, [.ref tls, .ref o0, .ref p0, .int x_tl_3, .int y_tl_4125_4])), (o0, .inr (5, [.ref o0r, .int x_o0_1])), (o0r, .inl (ct 1, 60000, .inl k_o0r125_5))] := hD
          refine lv_aload_n hx hb dX10_turnRead_128 rfl (lv_at hl 0 rfl) ?_
          refine lv_iconst (v := 3) hx hb dX10_turnRead_129 (by decide) ?_
          refine lv_iconst (v := 4) hx hb dX10_turnRead_130 (by decide) ?_
          refine lv_bipush (v := 6) hx hb dX10_turnRead_131 (by decide) ?_
          refine lv_iconst (v := 5) hx hb dX10_turnRead_133 (by decide) ?_
          refine lv_iload hx hb dX10_turnRead_134 (lv_at hl 2 rfl) ?_
          refine go_v (k1 := 0) (n1 := 0) (wr := []) [0, 1, 2] [] (rn_V (As := [.int 3, .int 4, .int 6, .int 5, .int j108_l5]) (rest := []) (c_X10_putImm l D ct tl (3 : Int32) (4 : Int32) (6 : Int32) (5 : Int32) j108_l5 tls o0 p0 x_tl_3 y_tl_4125_4 o0r x_o0_1 k_o0r125_5 h_x_tl_3 (rg_of (show 0 ≤ y_tl_4125_4.toInt ∧ y_tl_4125_4.toInt ≤ 999990 by have q0 := hp125_6.1; have q1 := hp125_6.2; have q2 := r108_1002.1; have q3 := r108_1002.2; have q4 := h_x_tl_4.1; have q5 := h_x_tl_4.2; have q6 := r112_3.1; have q7 := r112_3.2; have q8 := hp17_6.1; have q9 := hp17_6.2; have q10 := r43_1001.1; have q11 := r43_1001.2; have q12 := r112_4.1; have q13 := r112_4.2; have q14 := hp45_6.1; have q15 := hp45_6.2; have q16 := hp54_6.1; have q17 := hp54_6.2; have q18 := hp66_6.1; have q19 := hp66_6.2; have q20 := hp74_6.1; have q21 := hp74_6.2; have q22 := hp80_6.1; have q23 := hp80_6.2; have q24 := hp92_6.1; have q25 := hp92_6.2; have q26 := hp102_6.1; have q27 := hp102_6.2; have q28 := hp17_7; have q29 := ho43_1002; have q30 := hp45_7; have q31 := hp54_7; have q32 := hp66_7; have q33 := hp74_7; have q34 := hp80_7; have q35 := hp92_7; have q36 := hp102_7; have q37 := hi108_1003; have q38 := t112_2; have q39 := hp125_7; omega)) h_x_o0_1 _) (cb_of (n := 5) hn mw_1341 mw_10 mw_1338 mhX10_putImm ⟨(Nat.le_of_ble_eq_true rfl), (Nat.le_of_ble_eq_true rfl)⟩) hx hb hml hown hn hK hSK hZ hS mw_1340 mw_s154 (ci := 10) (q0 := 0) rfl rfl rfl rfl hl.1 (Nat.le_of_ble_eq_true rfl) dX10_turnRead_136 ⟨(Nat.le_of_ble_eq_true rfl), (Nat.le_of_ble_eq_true rfl)⟩) hP hD hS hA rfl rfl (by decide) (by decide) (by decide) (Nat.le_of_ble_eq_true rfl) (Nat.le_of_ble_eq_true rfl) (fun u136_2 H locs hp136_3 hP hD hS => ?_)
          obtain ⟨y_tl_4136_4, k_o0r136_5⟩ := u136_2
          obtain ⟨hp136_6, hp136_7⟩ := hp136_3
          have hp136_6 : rg y_tl_4136_4 1 1000001 := hp136_6
          have hp136_7 : y_tl_4136_4.toInt = y_tl_4125_4.toInt + 1 := hp136_7
          have hP : va_P D vwCl [(tl, .inr (10, [.ref tls, .ref o0, .ref p0, .int x_tl_3, .int y_tl_4136_4])), (o0, .inr (5, [.ref o0r, .int x_o0_1])), (o0r, .inl (ct 1, 60000, .inl k_o0r136_5))] _ := hP
          have hD : va_D A [(tl, .inr (10, [.ref tls, .ref o0, .ref p0, .int x_tl_3, .int y_tl_4136_4])), (o0, .inr (5, [.ref o0r, .int x_o0_1])), (o0r, .inl (ct 1, 60000, .inl k_o0r136_5))] := hD
          refine lv_aload_n hx hb dX10_turnRead_139 rfl (lv_at hl 0 rfl) ?_
          refine lv_bipush (v := 51) hx hb dX10_turnRead_140 (by decide) ?_
          refine lv_iconst (v := 0) hx hb dX10_turnRead_142 (by decide) ?_
          refine lv_bipush (v := 6) hx hb dX10_turnRead_143 (by decide) ?_
          refine lv_bipush (v := 10) hx hb dX10_turnRead_145 (by decide) ?_
          refine lv_bipush (v := 10) hx hb dX10_turnRead_147 (by decide) ?_
          refine lv_bipush (v := 6) hx hb dX10_turnRead_149 (by decide) ?_
          refine go_v (k1 := 0) (n1 := 0) (wr := []) [0, 1, 2] [] (rn_V (As := [.int 51, .int 0, .int 6, .int 10, .int 10, .int 6]) (rest := []) (c_X10_putOp l D ct tl (51 : Int32) (0 : Int32) (6 : Int32) (10 : Int32) (10 : Int32) (6 : Int32) tls o0 p0 x_tl_3 y_tl_4136_4 o0r x_o0_1 k_o0r136_5 h_x_tl_3 (rg_of (show 0 ≤ y_tl_4136_4.toInt ∧ y_tl_4136_4.toInt ≤ 999990 by have q0 := hp136_6.1; have q1 := hp136_6.2; have q2 := hp125_6.1; have q3 := hp125_6.2; have q4 := r108_1002.1; have q5 := r108_1002.2; have q6 := h_x_tl_4.1; have q7 := h_x_tl_4.2; have q8 := r112_3.1; have q9 := r112_3.2; have q10 := hp17_6.1; have q11 := hp17_6.2; have q12 := r43_1001.1; have q13 := r43_1001.2; have q14 := r112_4.1; have q15 := r112_4.2; have q16 := hp45_6.1; have q17 := hp45_6.2; have q18 := hp54_6.1; have q19 := hp54_6.2; have q20 := hp66_6.1; have q21 := hp66_6.2; have q22 := hp74_6.1; have q23 := hp74_6.2; have q24 := hp80_6.1; have q25 := hp80_6.2; have q26 := hp92_6.1; have q27 := hp92_6.2; have q28 := hp102_6.1; have q29 := hp102_6.2; have q30 := hp17_7; have q31 := ho43_1002; have q32 := hp45_7; have q33 := hp54_7; have q34 := hp66_7; have q35 := hp74_7; have q36 := hp80_7; have q37 := hp92_7; have q38 := hp102_7; have q39 := hi108_1003; have q40 := t112_2; have q41 := hp125_7; have q42 := hp136_7; omega)) h_x_o0_1 _) (cb_of (n := 6) hn mw_1329 mw_10 mw_1326 mhX10_putOp ⟨(Nat.le_of_ble_eq_true rfl), (Nat.le_of_ble_eq_true rfl)⟩) hx hb hml hown hn hK hSK hZ hS mw_1328 mw_s151 (ci := 10) (q0 := 0) rfl rfl rfl rfl hl.1 (Nat.le_of_ble_eq_true rfl) dX10_turnRead_151 ⟨(Nat.le_of_ble_eq_true rfl), (Nat.le_of_ble_eq_true rfl)⟩) hP hD hS hA rfl rfl (by decide) (by decide) (by decide) (Nat.le_of_ble_eq_true rfl) (Nat.le_of_ble_eq_true rfl) (fun u151_2 H locs hp151_3 hP hD hS => ?_)
          obtain ⟨y_tl_4151_4, k_o0r151_5⟩ := u151_2
          obtain ⟨hp151_6, hp151_7⟩ := hp151_3
          have hp151_6 : rg y_tl_4151_4 1 1000001 := hp151_6
          have hp151_7 : y_tl_4151_4.toInt = y_tl_4136_4.toInt + 1 := hp151_7
          have hP : va_P D vwCl [(tl, .inr (10, [.ref tls, .ref o0, .ref p0, .int x_tl_3, .int y_tl_4151_4])), (o0, .inr (5, [.ref o0r, .int x_o0_1])), (o0r, .inl (ct 1, 60000, .inl k_o0r151_5))] _ := hP
          have hD : va_D A [(tl, .inr (10, [.ref tls, .ref o0, .ref p0, .int x_tl_3, .int y_tl_4151_4])), (o0, .inr (5, [.ref o0r, .int x_o0_1])), (o0r, .inl (ct 1, 60000, .inl k_o0r151_5))] := hD
          obtain ⟨x154_1, ex154_1⟩ : ∃ z : Int32, z = j108_l5 + 1 := ⟨_, rfl⟩
          have r154_2 : rg x154_1 2 8 := rg_add ex154_1 r112_3 (show rg (1 : Int32) 1 1 from rg_l (by decide)) (by decide)
          refine lv_iinc (v := x154_1) (lv' := [(5, .int x154_1), (0, .ref tl), (4, .int r6_1)]) hx hb dX10_turnRead_154 hl (k := 2) rfl (by rw [ex154_1]; rfl) (by decide) rfl (fun ls hl => ?_)
          refine lv_goto (tgt := 108) hx hb dX10_turnRead_157 (by decide) ?_
          exact ih x154_1 y_tl_4151_4 k_o0r151_5 H locs ls (rg_w r154_2 (by decide)) hp151_6 (show y_tl_4151_4.toInt ≤ x_tl_4.toInt + 13 + 3 * x154_1.toInt ∧ x_tl_4.toInt ≤ y_tl_4151_4.toInt by have q0 := hp151_6.1; have q1 := hp151_6.2; have q2 := h_x_tl_4.1; have q3 := h_x_tl_4.2; have q4 := r154_2.1; have q5 := r154_2.2; have q6 := (eq_add ex154_1 r112_3 (show rg (1 : Int32) 1 1 from rg_l (by decide)) (by decide)); have q7 := (show rg (1 : Int32) 1 1 from rg_l (by decide)).1; have q8 := (show rg (1 : Int32) 1 1 from rg_l (by decide)).2; have q9 := r112_3.1; have q10 := r112_3.2; have q11 := hp17_6.1; have q12 := hp17_6.2; have q13 := r43_1001.1; have q14 := r43_1001.2; have q15 := r108_1002.1; have q16 := r108_1002.2; have q17 := r112_4.1; have q18 := r112_4.2; have q19 := hp136_6.1; have q20 := hp136_6.2; have q21 := hp45_6.1; have q22 := hp45_6.2; have q23 := hp125_6.1; have q24 := hp125_6.2; have q25 := hp54_6.1; have q26 := hp54_6.2; have q27 := hp66_6.1; have q28 := hp66_6.2; have q29 := hp74_6.1; have q30 := hp74_6.2; have q31 := hp80_6.1; have q32 := hp80_6.2; have q33 := hp92_6.1; have q34 := hp92_6.2; have q35 := hp102_6.1; have q36 := hp102_6.2; have q37 := hp17_7; have q38 := ho43_1002; have q39 := hp45_7; have q40 := hp54_7; have q41 := hp66_7; have q42 := hp74_7; have q43 := hp80_7; have q44 := hp92_7; have q45 := hp102_7; have q46 := hi108_1003; have q47 := t112_2; have q48 := hp125_7; have q49 := hp136_7; have q50 := hp151_7; omega) (show ((2147483647 : Int) - x154_1.toInt).toNat < n by have q0 := r112_3.1; have q1 := r112_3.2; have q2 := r154_2.1; have q3 := r154_2.2; have q4 := (eq_add ex154_1 r112_3 (show rg (1 : Int32) 1 1 from rg_l (by decide)) (by decide)); have q5 := (show rg (1 : Int32) 1 1 from rg_l (by decide)).1; have q6 := (show rg (1 : Int32) 1 1 from rg_l (by decide)).2; have q7 := r108_1002.1; have q8 := r108_1002.2; have q9 := h_x_tl_4.1; have q10 := h_x_tl_4.2; have q11 := r112_4.1; have q12 := r112_4.2; have q13 := hp17_6.1; have q14 := hp17_6.2; have q15 := r43_1001.1; have q16 := r43_1001.2; have q17 := hp125_6.1; have q18 := hp125_6.2; have q19 := hp45_6.1; have q20 := hp45_6.2; have q21 := hp136_6.1; have q22 := hp136_6.2; have q23 := hp54_6.1; have q24 := hp54_6.2; have q25 := hp151_6.1; have q26 := hp151_6.2; have q27 := hp66_6.1; have q28 := hp66_6.2; have q29 := hp74_6.1; have q30 := hp74_6.2; have q31 := hp80_6.1; have q32 := hp80_6.2; have q33 := hp92_6.1; have q34 := hp92_6.2; have q35 := hp102_6.1; have q36 := hp102_6.2; have q37 := hp17_7; have q38 := ho43_1002; have q39 := hp45_7; have q40 := hp54_7; have q41 := hp66_7; have q42 := hp74_7; have q43 := hp80_7; have q44 := hp92_7; have q45 := hp102_7; have q46 := hi108_1003; have q47 := t112_2; have q48 := hp125_7; have q49 := hp136_7; have q50 := hp151_7; have q51 := hms; omega) (lv_sub hl [1, 2, 0] rfl) hP hD hS
    exact b108 _ (1 : Int32) y_tl_4102_4 k_o0r102_5 H locs ls (rg_w (show rg (1 : Int32) 1 1 from rg_l (by decide)) (by decide)) hp102_6 (show y_tl_4102_4.toInt ≤ x_tl_4.toInt + 13 + 3 * (1 : Int32).toInt ∧ x_tl_4.toInt ≤ y_tl_4102_4.toInt by have q0 := hp102_6.1; have q1 := hp102_6.2; have q2 := h_x_tl_4.1; have q3 := h_x_tl_4.2; have q4 := (show rg (1 : Int32) 1 1 from rg_l (by decide)).1; have q5 := (show rg (1 : Int32) 1 1 from rg_l (by decide)).2; have q6 := hp17_6.1; have q7 := hp17_6.2; have q8 := r43_1001.1; have q9 := r43_1001.2; have q10 := hp92_6.1; have q11 := hp92_6.2; have q12 := hp45_6.1; have q13 := hp45_6.2; have q14 := hp80_6.1; have q15 := hp80_6.2; have q16 := hp54_6.1; have q17 := hp54_6.2; have q18 := hp74_6.1; have q19 := hp74_6.2; have q20 := hp66_6.1; have q21 := hp66_6.2; have q22 := hp17_7; have q23 := ho43_1002; have q24 := hp45_7; have q25 := hp54_7; have q26 := hp66_7; have q27 := hp74_7; have q28 := hp80_7; have q29 := hp92_7; have q30 := hp102_7; omega) (Nat.lt_succ_self _) (lv_sub hl [1, 2, 0] rfl) hP hD hS
  refine lv_icmp_lt (tgt := 43) hx hb dX10_turnRead_23 (by decide) (fun c23_1 => ?_) (fun c23_1 => ?_)
  · have t23_2 := (i_lt c23_1)
    have r23_3 : rg r1_1 0 63 := rg_ltA t23_2 hp1_4 (show rg (64 : Int32) 64 64 from rg_l (by decide)) (by decide)
    exact b43 y_tl_417_4 k_o0r17_5 H locs ls hp17_6 (show x_tl_4.toInt + 1 ≤ y_tl_417_4.toInt ∧ y_tl_417_4.toInt ≤ x_tl_4.toInt + 3 by have q0 := h_x_tl_4.1; have q1 := h_x_tl_4.2; have q2 := hp17_6.1; have q3 := hp17_6.2; have q4 := hp17_7; omega) (lv_sub hl [2, 0] rfl) hP hD hS
  · have t23_2 := (i_nlt c23_1)
    have r23_3 : rg r1_1 64 255 := rg_leB t23_2 (show rg (64 : Int32) 64 64 from rg_l (by decide)) hp1_4 (by decide)
    refine lv_aload_n hx hb dX10_turnRead_26 rfl (lv_at hl 2 rfl) ?_
    refine lv_bipush (v := 59) hx hb dX10_turnRead_27 (by decide) ?_
    refine lv_iconst (v := 0) hx hb dX10_turnRead_29 (by decide) ?_
    refine lv_iconst (v := 0) hx hb dX10_turnRead_30 (by decide) ?_
    refine lv_iconst (v := 5) hx hb dX10_turnRead_31 (by decide) ?_
    refine lv_iconst (v := 5) hx hb dX10_turnRead_32 (by decide) ?_
    refine lv_lload_n hx hb dX10_turnRead_33 rfl (lv_at hl 3 rfl) ?_
    refine go_i (k1 := 0) (n1 := 0) (wr := [(tl, .inr (10, [.ref tls, .ref o0, .ref p0, .int x_tl_3, .int y_tl_417_4])), (o0, .inr (5, [.ref o0r, .int x_o0_1])), (o0r, .inl (ct 1, 60000, .inl k_o0r17_5))]) [] [0, 1, 2] (rn_SN (As := [.long v0]) (rest := [.int 5, .int 5, .int 0, .int 0, .int 59, .ref tl]) (c_X7_sOf l D ct v0  _) (cn_of (n := 1) hn mw_989 mw_7 mw_1321 mhX7_sOf ⟨(Nat.le_of_ble_eq_true rfl), (Nat.le_of_ble_eq_true rfl)⟩) hx hb hml hown hn hK hSK hZ hS mw_988 rfl hl.1 (Nat.le_of_ble_eq_true rfl) dX10_turnRead_34 ⟨(Nat.le_of_ble_eq_true rfl), (Nat.le_of_ble_eq_true rfl)⟩) hP hD hS hA rfl rfl (by decide) (by decide) (by decide) (Nat.le_of_ble_eq_true rfl) (Nat.le_of_ble_eq_true rfl) (fun r34_1 u34_2 H locs hp34_3 hP hD hS => ?_)
    obtain ⟨hp34_4, hp34_5⟩ := hp34_3
    have hp34_4 : rg r34_1 0 15 := hp34_4
    have hp34_5 : r34_1.toInt = (v0.toInt / 4096) % 16 := hp34_5
    have hP : va_P D vwCl [(tl, .inr (10, [.ref tls, .ref o0, .ref p0, .int x_tl_3, .int y_tl_417_4])), (o0, .inr (5, [.ref o0r, .int x_o0_1])), (o0r, .inl (ct 1, 60000, .inl k_o0r17_5))] _ := hP
    have hD : va_D A [(tl, .inr (10, [.ref tls, .ref o0, .ref p0, .int x_tl_3, .int y_tl_417_4])), (o0, .inr (5, [.ref o0r, .int x_o0_1])), (o0r, .inl (ct 1, 60000, .inl k_o0r17_5))] := hD
    refine go_i (k1 := 0) (n1 := 0) (wr := [(tl, .inr (10, [.ref tls, .ref o0, .ref p0, .int x_tl_3, .int y_tl_417_4])), (o0, .inr (5, [.ref o0r, .int x_o0_1])), (o0r, .inl (ct 1, 60000, .inl k_o0r17_5))]) [] [0, 1, 2] (rn_S (As := [.int r34_1]) (rest := [.int 5, .int 5, .int 0, .int 0, .int 59, .ref tl]) (c_X10_placeOf l D ct r34_1  _) (cb_of (n := 1) hn mw_1308 mw_10 mw_1306 mhX10_placeOf ⟨(Nat.le_of_ble_eq_true rfl), (Nat.le_of_ble_eq_true rfl)⟩) hx hb hml hown hn hK hSK hZ hS mw_1307 rfl hl.1 (Nat.le_of_ble_eq_true rfl) dX10_turnRead_37 ⟨(Nat.le_of_ble_eq_true rfl), (Nat.le_of_ble_eq_true rfl)⟩) hP hD hS hA rfl rfl (by decide) (by decide) (by decide) (Nat.le_of_ble_eq_true rfl) (Nat.le_of_ble_eq_true rfl) (fun r37_1 u37_2 H locs hp37_3 hP hD hS => ?_)
    have hP : va_P D vwCl [(tl, .inr (10, [.ref tls, .ref o0, .ref p0, .int x_tl_3, .int y_tl_417_4])), (o0, .inr (5, [.ref o0r, .int x_o0_1])), (o0r, .inl (ct 1, 60000, .inl k_o0r17_5))] _ := hP
    have hD : va_D A [(tl, .inr (10, [.ref tls, .ref o0, .ref p0, .int x_tl_3, .int y_tl_417_4])), (o0, .inr (5, [.ref o0r, .int x_o0_1])), (o0r, .inl (ct 1, 60000, .inl k_o0r17_5))] := hD
    refine go_v (k1 := 0) (n1 := 0) (wr := []) [0, 1, 2] [] (rn_V (As := [.int 59, .int 0, .int 0, .int 5, .int 5, .int r37_1]) (rest := []) (c_X10_putOp l D ct tl (59 : Int32) (0 : Int32) (0 : Int32) (5 : Int32) (5 : Int32) r37_1 tls o0 p0 x_tl_3 y_tl_417_4 o0r x_o0_1 k_o0r17_5 h_x_tl_3 (rg_of (show 0 ≤ y_tl_417_4.toInt ∧ y_tl_417_4.toInt ≤ 999990 by have q0 := hp17_6.1; have q1 := hp17_6.2; have q2 := h_x_tl_4.1; have q3 := h_x_tl_4.2; have q4 := hp17_7; omega)) h_x_o0_1 _) (cb_of (n := 6) hn mw_1329 mw_10 mw_1326 mhX10_putOp ⟨(Nat.le_of_ble_eq_true rfl), (Nat.le_of_ble_eq_true rfl)⟩) hx hb hml hown hn hK hSK hZ hS mw_1328 mw_s151 (ci := 10) (q0 := 0) rfl rfl rfl rfl hl.1 (Nat.le_of_ble_eq_true rfl) dX10_turnRead_40 ⟨(Nat.le_of_ble_eq_true rfl), (Nat.le_of_ble_eq_true rfl)⟩) hP hD hS hA rfl rfl (by decide) (by decide) (by decide) (Nat.le_of_ble_eq_true rfl) (Nat.le_of_ble_eq_true rfl) (fun u40_2 H locs hp40_3 hP hD hS => ?_)
    obtain ⟨y_tl_440_4, k_o0r40_5⟩ := u40_2
    obtain ⟨hp40_6, hp40_7⟩ := hp40_3
    have hp40_6 : rg y_tl_440_4 1 1000001 := hp40_6
    have hp40_7 : y_tl_440_4.toInt = y_tl_417_4.toInt + 1 := hp40_7
    have hP : va_P D vwCl [(tl, .inr (10, [.ref tls, .ref o0, .ref p0, .int x_tl_3, .int y_tl_440_4])), (o0, .inr (5, [.ref o0r, .int x_o0_1])), (o0r, .inl (ct 1, 60000, .inl k_o0r40_5))] _ := hP
    have hD : va_D A [(tl, .inr (10, [.ref tls, .ref o0, .ref p0, .int x_tl_3, .int y_tl_440_4])), (o0, .inr (5, [.ref o0r, .int x_o0_1])), (o0r, .inl (ct 1, 60000, .inl k_o0r40_5))] := hD
    exact b43 y_tl_440_4 k_o0r40_5 H locs ls hp40_6 (show x_tl_4.toInt + 1 ≤ y_tl_440_4.toInt ∧ y_tl_440_4.toInt ≤ x_tl_4.toInt + 3 by have q0 := h_x_tl_4.1; have q1 := h_x_tl_4.2; have q2 := hp40_6.1; have q3 := hp40_6.2; have q4 := hp17_6.1; have q5 := hp17_6.2; have q6 := hp17_7; have q7 := hp40_7; omega) (lv_sub hl [2, 0] rfl) hP hD hS
set_option maxHeartbeats 2000000 in
theorem c_X10_turnOne (l : Launch) (D : va_G) (ct : Nat → ClassId) (tl : Nat) (v0 : Int32) (tls : Nat) (o0 : Nat) (p0 : Nat) (x_tl_3 : Int32) (x_tl_4 : Int32) (p0r : Nat) (x_p0_1 : Int32) (g_p0r : Nat → Int64) (o0r : Nat) (x_o0_1 : Int32) (g_o0r : Nat → Int32) (g_tls : Nat → Int32) (h_v0 : rg v0 0 3999) (h_x_tl_3 : rg x_tl_3 0 1) (h_x_tl_4 : rg x_tl_4 0 999500) (h_x_p0_1 : rg x_p0_1 0 4000) (h_x_o0_1 : rg x_o0_1 0 60000) (h_g_tls : Rg g_tls 4001 0 1073741824) (hq0 : v0.toInt < x_p0_1.toInt) (hq1 : (((g_p0r v0.toNatClampNeg).toInt % 8 = 7 ∨ (g_p0r v0.toNatClampNeg).toInt % 8 = 4) → (g_p0r v0.toNatClampNeg).toInt % 256 ≤ 207) ∧ ((g_p0r v0.toNatClampNeg).toInt / 256) % 16 ≤ 10 ∧ ((g_p0r v0.toNatClampNeg).toInt / 4096) % 16 ≤ 10) : KV (S := Int32 × (Nat → Int32)) l yX10_turnOne cX10_turnOne 5 none 5 119 D ct [.ref tl, .int v0] [(tl, .inr (10, [.ref tls, .ref o0, .ref p0, .int x_tl_3, .int x_tl_4])), (p0, .inr (7, [.ref p0r, .int x_p0_1])), (p0r, .inl (ct 2, 4000, .inr (.inl g_p0r))), (o0, .inr (5, [.ref o0r, .int x_o0_1])), (o0r, .inl (ct 1, 60000, .inl g_o0r)), (tls, .inl (ct 1, 4001, .inl g_tls))] 0 0 (fun (u : Int32 × (Nat → Int32)) => match u with | (y_tl_4, k_o0r) => rg y_tl_4 1 1000001 ∧ (x_tl_4.toInt + 0 ≤ y_tl_4.toInt ∧ y_tl_4.toInt ≤ x_tl_4.toInt + 40)) (fun (u : Int32 × (Nat → Int32)) => match u with | (y_tl_4, k_o0r) => [(tl, .inr (10, [.ref tls, .ref o0, .ref p0, .int x_tl_3, .int y_tl_4])), (p0, .inr (7, [.ref p0r, .int x_p0_1])), (p0r, .inl (ct 2, 4000, .inr (.inl g_p0r))), (o0, .inr (5, [.ref o0r, .int x_o0_1])), (o0r, .inl (ct 1, 60000, .inl k_o0r)), (tls, .inl (ct 1, 4001, .inl g_tls))]) := by
  refine KVq_of (by decide) (Nat.le_of_ble_eq_true rfl) (fun p e s m below meth c A Q C0 hA H locs hS hP hD hQ ls hl => ?_)
  obtain ⟨hx, hb, hr, hown, hin, hml, hlocks, hn, hK, hZ, hSK⟩ := C0
  have hl : lv_has ls 5 [(0, .ref tl), (1, .int v0)] := hl
  refine lv_aload_n hx hb dX10_turnOne_0 rfl (lv_at hl 0 rfl) ?_
  refine va_get (D := D) (ci := 10) (v := .ref p0) (C := RX10) (T := TX10) (N := 5) hx hb (htX10 hn) (fun _ h => h) hown hK hP 0 rfl rfl 2 (by decide) (hn.get mw_290 rfl) (fun _ h9 => h9) rfl dX10_turnOne_1 ?_
  refine lv_iload_n hx hb dX10_turnOne_4 rfl (lv_at hl 1 rfl) ?_
  refine go_l (k1 := 0) (n1 := 0) (wr := [(tl, .inr (10, [.ref tls, .ref o0, .ref p0, .int x_tl_3, .int x_tl_4])), (o0, .inr (5, [.ref o0r, .int x_o0_1])), (o0r, .inl (ct 1, 60000, .inl g_o0r)), (tls, .inl (ct 1, 4001, .inl g_tls))]) [1, 2] [0, 3, 4, 5] (rn_VN (As := [.int v0]) (rest := []) (c_X7_at l D ct p0 v0 p0r x_p0_1 g_p0r h_x_p0_1 _) (cn_of (n := 1) hn mw_937 mw_7 mw_1298 mhX7_at ⟨(Nat.le_of_ble_eq_true rfl), (Nat.le_of_ble_eq_true rfl)⟩) hx hb hml hown hn hK hSK hZ hS mw_936 mw_s92 (ci := 7) (q0 := 0) rfl rfl rfl rfl hl.1 (Nat.le_of_ble_eq_true rfl) dX10_turnOne_5 ⟨(Nat.le_of_ble_eq_true rfl), (Nat.le_of_ble_eq_true rfl)⟩) hP hD hS hA rfl rfl (by decide) (by decide) (by decide) (Nat.le_of_ble_eq_true rfl) (Nat.le_of_ble_eq_true rfl) (fun r5_1 u5_2 H locs hp5_3 hP hD hS => ?_)
  have hp5_4 := hp5_3
  have hp5_4 : 0 ≤ v0.toInt ∧ v0.toInt < x_p0_1.toInt → r5_1.toInt = (g_p0r v0.toNatClampNeg).toInt := hp5_4
  have hP : va_P D vwCl [(tl, .inr (10, [.ref tls, .ref o0, .ref p0, .int x_tl_3, .int x_tl_4])), (o0, .inr (5, [.ref o0r, .int x_o0_1])), (o0r, .inl (ct 1, 60000, .inl g_o0r)), (tls, .inl (ct 1, 4001, .inl g_tls)), (p0, .inr (7, [.ref p0r, .int x_p0_1])), (p0r, .inl (ct 2, 4000, .inr (.inl g_p0r)))] _ := hP
  have hD : va_D A [(tl, .inr (10, [.ref tls, .ref o0, .ref p0, .int x_tl_3, .int x_tl_4])), (o0, .inr (5, [.ref o0r, .int x_o0_1])), (o0r, .inl (ct 1, 60000, .inl g_o0r)), (tls, .inl (ct 1, 4001, .inl g_tls)), (p0, .inr (7, [.ref p0r, .int x_p0_1])), (p0r, .inl (ct 2, 4000, .inr (.inl g_p0r)))] := hD
  refine lv_lstore_n (lv' := [(2, .long r5_1), (0, .ref tl), (1, .int v0)]) hx hb dX10_turnOne_8 rfl hl (by decide) rfl (fun ls hl => ?_)
  refine lv_lload_n hx hb dX10_turnOne_9 rfl (lv_at hl 0 rfl) ?_
  refine go_i (k1 := 0) (n1 := 0) (wr := [(tl, .inr (10, [.ref tls, .ref o0, .ref p0, .int x_tl_3, .int x_tl_4])), (o0, .inr (5, [.ref o0r, .int x_o0_1])), (o0r, .inl (ct 1, 60000, .inl g_o0r)), (tls, .inl (ct 1, 4001, .inl g_tls)), (p0, .inr (7, [.ref p0r, .int x_p0_1])), (p0r, .inl (ct 2, 4000, .inr (.inl g_p0r)))]) [] [0, 1, 2, 3, 4, 5] (rn_SN (As := [.long r5_1]) (rest := []) (c_X7_codeOf l D ct r5_1  _) (cn_of (n := 1) hn mw_956 mw_7 mw_1299 mhX7_codeOf ⟨(Nat.le_of_ble_eq_true rfl), (Nat.le_of_ble_eq_true rfl)⟩) hx hb hml hown hn hK hSK hZ hS mw_955 rfl hl.1 (Nat.le_of_ble_eq_true rfl) dX10_turnOne_10 ⟨(Nat.le_of_ble_eq_true rfl), (Nat.le_of_ble_eq_true rfl)⟩) hP hD hS hA rfl rfl (by decide) (by decide) (by decide) (Nat.le_of_ble_eq_true rfl) (Nat.le_of_ble_eq_true rfl) (fun r10_1 u10_2 H locs hp10_3 hP hD hS => ?_)
  obtain ⟨hp10_4, hp10_5⟩ := hp10_3
  have hp10_4 : rg r10_1 0 255 := hp10_4
  have hp10_5 : r10_1.toInt = r5_1.toInt % 256 := hp10_5
  have hP : va_P D vwCl [(tl, .inr (10, [.ref tls, .ref o0, .ref p0, .int x_tl_3, .int x_tl_4])), (o0, .inr (5, [.ref o0r, .int x_o0_1])), (o0r, .inl (ct 1, 60000, .inl g_o0r)), (tls, .inl (ct 1, 4001, .inl g_tls)), (p0, .inr (7, [.ref p0r, .int x_p0_1])), (p0r, .inl (ct 2, 4000, .inr (.inl g_p0r)))] _ := hP
  have hD : va_D A [(tl, .inr (10, [.ref tls, .ref o0, .ref p0, .int x_tl_3, .int x_tl_4])), (o0, .inr (5, [.ref o0r, .int x_o0_1])), (o0r, .inl (ct 1, 60000, .inl g_o0r)), (tls, .inl (ct 1, 4001, .inl g_tls)), (p0, .inr (7, [.ref p0r, .int x_p0_1])), (p0r, .inl (ct 2, 4000, .inr (.inl g_p0r)))] := hD
  refine lv_istore (lv' := [(4, .int r10_1), (2, .long r5_1), (0, .ref tl), (1, .int v0)]) hx hb dX10_turnOne_13 hl (by decide) rfl (fun ls hl => ?_)
  refine lv_iload hx hb dX10_turnOne_15 (lv_at hl 0 rfl) ?_
  refine go_i (k1 := 0) (n1 := 0) (wr := [(tl, .inr (10, [.ref tls, .ref o0, .ref p0, .int x_tl_3, .int x_tl_4])), (o0, .inr (5, [.ref o0r, .int x_o0_1])), (o0r, .inl (ct 1, 60000, .inl g_o0r)), (tls, .inl (ct 1, 4001, .inl g_tls)), (p0, .inr (7, [.ref p0r, .int x_p0_1])), (p0r, .inl (ct 2, 4000, .inr (.inl g_p0r)))]) [] [0, 1, 2, 3, 4, 5] (rn_SN (As := [.int r10_1]) (rest := []) (c_X7_isOp l D ct r10_1  _) (cn_of (n := 1) hn mw_962 mw_7 mw_1300 mhX7_isOp ⟨(Nat.le_of_ble_eq_true rfl), (Nat.le_of_ble_eq_true rfl)⟩) hx hb hml hown hn hK hSK hZ hS mw_961 rfl hl.1 (Nat.le_of_ble_eq_true rfl) dX10_turnOne_17 ⟨(Nat.le_of_ble_eq_true rfl), (Nat.le_of_ble_eq_true rfl)⟩) hP hD hS hA rfl rfl (by decide) (by decide) (by decide) (Nat.le_of_ble_eq_true rfl) (Nat.le_of_ble_eq_true rfl) (fun r17_1 u17_2 H locs hp17_3 hP hD hS => ?_)
  obtain ⟨hp17_4, hp17_5, hp17_6⟩ := hp17_3
  have hp17_4 : rg r17_1 0 1 := hp17_4
  have hp17_5 : r17_1.toInt = 1 → r10_1.toInt % 8 = 7 ∨ r10_1.toInt % 8 = 4 := hp17_5
  have hp17_6 : r17_1.toInt = 0 → ¬ (r10_1.toInt % 8 = 7 ∨ r10_1.toInt % 8 = 4) := hp17_6
  have hP : va_P D vwCl [(tl, .inr (10, [.ref tls, .ref o0, .ref p0, .int x_tl_3, .int x_tl_4])), (o0, .inr (5, [.ref o0r, .int x_o0_1])), (o0r, .inl (ct 1, 60000, .inl g_o0r)), (tls, .inl (ct 1, 4001, .inl g_tls)), (p0, .inr (7, [.ref p0r, .int x_p0_1])), (p0r, .inl (ct 2, 4000, .inr (.inl g_p0r)))] _ := hP
  have hD : va_D A [(tl, .inr (10, [.ref tls, .ref o0, .ref p0, .int x_tl_3, .int x_tl_4])), (o0, .inr (5, [.ref o0r, .int x_o0_1])), (o0r, .inl (ct 1, 60000, .inl g_o0r)), (tls, .inl (ct 1, 4001, .inl g_tls)), (p0, .inr (7, [.ref p0r, .int x_p0_1])), (p0r, .inl (ct 2, 4000, .inr (.inl g_p0r)))] := hD
  refine lv_if_eq (tgt := 31) hx hb dX10_turnOne_20 (by decide) (fun c20_1 => ?_) (fun c20_1 => ?_)
  · have t20_2 := (i_eq c20_1)
    have r20_3 : rg r17_1 0 0 := rg_eqA t20_2 hp17_4 (show rg (0 : Int32) 0 0 from rg_l (by decide)) (by decide)
    refine lv_iload hx hb dX10_turnOne_31 (lv_at hl 0 rfl) ?_
    refine lv_sipush (v := 149) hx hb dX10_turnOne_33 (by decide) ?_
    refine lv_icmp_ne (tgt := 48) hx hb dX10_turnOne_36 (by decide) (fun c36_1 => ?_) (fun c36_1 => ?_)
    · have t36_2 := (i_ne c36_1)
      refine lv_iload hx hb dX10_turnOne_48 (lv_at hl 0 rfl) ?_
      refine go_i (k1 := 0) (n1 := 0) (wr := [(tl, .inr (10, [.ref tls, .ref o0, .ref p0, .int x_tl_3, .int x_tl_4])), (o0, .inr (5, [.ref o0r, .int x_o0_1])), (o0r, .inl (ct 1, 60000, .inl g_o0r)), (tls, .inl (ct 1, 4001, .inl g_tls)), (p0, .inr (7, [.ref p0r, .int x_p0_1])), (p0r, .inl (ct 2, 4000, .inr (.inl g_p0r)))]) [] [0, 1, 2, 3, 4, 5] (rn_SN (As := [.int r10_1]) (rest := []) (c_X7_isJump l D ct r10_1  _) (cn_of (n := 1) hn mw_971 mw_7 mw_1359 mhX7_isJump ⟨(Nat.le_of_ble_eq_true rfl), (Nat.le_of_ble_eq_true rfl)⟩) hx hb hml hown hn hK hSK hZ hS mw_970 rfl hl.1 (Nat.le_of_ble_eq_true rfl) dX10_turnOne_50 ⟨(Nat.le_of_ble_eq_true rfl), (Nat.le_of_ble_eq_true rfl)⟩) hP hD hS hA rfl rfl (by decide) (by decide) (by decide) (Nat.le_of_ble_eq_true rfl) (Nat.le_of_ble_eq_true rfl) (fun r50_1 u50_2 H locs hp50_3 hP hD hS => ?_)
      have hp50_4 := hp50_3
      have hp50_4 : rg r50_1 0 1 := hp50_4
      have hP : va_P D vwCl [(tl, .inr (10, [.ref tls, .ref o0, .ref p0, .int x_tl_3, .int x_tl_4])), (o0, .inr (5, [.ref o0r, .int x_o0_1])), (o0r, .inl (ct 1, 60000, .inl g_o0r)), (tls, .inl (ct 1, 4001, .inl g_tls)), (p0, .inr (7, [.ref p0r, .int x_p0_1])), (p0r, .inl (ct 2, 4000, .inr (.inl g_p0r)))] _ := hP
      have hD : va_D A [(tl, .inr (10, [.ref tls, .ref o0, .ref p0, .int x_tl_3, .int x_tl_4])), (o0, .inr (5, [.ref o0r, .int x_o0_1])), (o0r, .inl (ct 1, 60000, .inl g_o0r)), (tls, .inl (ct 1, 4001, .inl g_tls)), (p0, .inr (7, [.ref p0r, .int x_p0_1])), (p0r, .inl (ct 2, 4000, .inr (.inl g_p0r)))] := hD
      refine lv_if_eq (tgt := 65) hx hb dX10_turnOne_53 (by decide) (fun c53_1 => ?_) (fun c53_1 => ?_)
      · have t53_2 := (i_eq c53_1)
        have r53_3 : rg r50_1 0 0 := rg_eqA t53_2 hp50_4 (show rg (0 : Int32) 0 0 from rg_l (by decide)) (by decide)
        refine lv_iload hx hb dX10_turnOne_65 (lv_at hl 0 rfl) ?_
        refine go_i (k1 := 0) (n1 := 0) (wr := [(tl, .inr (10, [.ref tls, .ref o0, .ref p0, .int x_tl_3, .int x_tl_4])), (o0, .inr (5, [.ref o0r, .int x_o0_1])), (o0r, .inl (ct 1, 60000, .inl g_o0r)), (tls, .inl (ct 1, 4001, .inl g_tls)), (p0, .inr (7, [.ref p0r, .int x_p0_1])), (p0r, .inl (ct 2, 4000, .inr (.inl g_p0r)))]) [] [0, 1, 2, 3, 4, 5] (rn_SN (As := [.int r10_1]) (rest := []) (c_X7_isRead l D ct r10_1  _) (cn_of (n := 1) hn mw_983 mw_7 mw_1369 mhX7_isRead ⟨(Nat.le_of_ble_eq_true rfl), (Nat.le_of_ble_eq_true rfl)⟩) hx hb hml hown hn hK hSK hZ hS mw_982 rfl hl.1 (Nat.le_of_ble_eq_true rfl) dX10_turnOne_67 ⟨(Nat.le_of_ble_eq_true rfl), (Nat.le_of_ble_eq_true rfl)⟩) hP hD hS hA rfl rfl (by decide) (by decide) (by decide) (Nat.le_of_ble_eq_true rfl) (Nat.le_of_ble_eq_true rfl) (fun r67_1 u67_2 H locs hp67_3 hP hD hS => ?_)
        have hp67_4 := hp67_3
        have hp67_4 : rg r67_1 0 1 := hp67_4
        have hP : va_P D vwCl [(tl, .inr (10, [.ref tls, .ref o0, .ref p0, .int x_tl_3, .int x_tl_4])), (o0, .inr (5, [.ref o0r, .int x_o0_1])), (o0r, .inl (ct 1, 60000, .inl g_o0r)), (tls, .inl (ct 1, 4001, .inl g_tls)), (p0, .inr (7, [.ref p0r, .int x_p0_1])), (p0r, .inl (ct 2, 4000, .inr (.inl g_p0r)))] _ := hP
        have hD : va_D A [(tl, .inr (10, [.ref tls, .ref o0, .ref p0, .int x_tl_3, .int x_tl_4])), (o0, .inr (5, [.ref o0r, .int x_o0_1])), (o0r, .inl (ct 1, 60000, .inl g_o0r)), (tls, .inl (ct 1, 4001, .inl g_tls)), (p0, .inr (7, [.ref p0r, .int x_p0_1])), (p0r, .inl (ct 2, 4000, .inr (.inl g_p0r)))] := hD
        refine lv_if_eq (tgt := 81) hx hb dX10_turnOne_70 (by decide) (fun c70_1 => ?_) (fun c70_1 => ?_)
        · have t70_2 := (i_eq c70_1)
          have r70_3 : rg r67_1 0 0 := rg_eqA t70_2 hp67_4 (show rg (0 : Int32) 0 0 from rg_l (by decide)) (by decide)
          refine lv_aload_n hx hb dX10_turnOne_81 rfl (lv_at hl 2 rfl) ?_
          refine lv_lload_n hx hb dX10_turnOne_82 rfl (lv_at hl 1 rfl) ?_
          refine go_v (k1 := 0) (n1 := 0) (wr := [(tls, .inl (ct 1, 4001, .inl g_tls)), (p0, .inr (7, [.ref p0r, .int x_p0_1])), (p0r, .inl (ct 2, 4000, .inr (.inl g_p0r)))]) [0, 1, 2] [3, 4, 5] (rn_V (As := [.long r5_1]) (rest := []) (c_X10_turnMemory l D ct tl r5_1 tls o0 p0 x_tl_3 x_tl_4 o0r x_o0_1 g_o0r h_x_tl_3 (rg_w h_x_tl_4 (by decide)) h_x_o0_1 _) (cb_of (n := 1) hn mw_1378 mw_10 mw_1375 mhX10_turnMemory ⟨(Nat.le_of_ble_eq_true rfl), (Nat.le_of_ble_eq_true rfl)⟩) hx hb hml hown hn hK hSK hZ hS mw_1377 mw_s161 (ci := 10) (q0 := 0) rfl rfl rfl rfl hl.1 (Nat.le_of_ble_eq_true rfl) dX10_turnOne_83 ⟨(Nat.le_of_ble_eq_true rfl), (Nat.le_of_ble_eq_true rfl)⟩) hP hD hS hA rfl rfl (by decide) (by decide) (by decide) (Nat.le_of_ble_eq_true rfl) (Nat.le_of_ble_eq_true rfl) (fun u83_2 H locs hp83_3 hP hD hS => ?_)
          obtain ⟨y_tl_483_4, k_o0r83_5⟩ := u83_2
          obtain ⟨hp83_6, hp83_7⟩ := hp83_3
          have hp83_6 : rg y_tl_483_4 1 1000001 := hp83_6
          have hp83_7 : x_tl_4.toInt + 3 ≤ y_tl_483_4.toInt ∧ y_tl_483_4.toInt ≤ x_tl_4.toInt + 6 := hp83_7
          have hP : va_P D vwCl [(tls, .inl (ct 1, 4001, .inl g_tls)), (p0, .inr (7, [.ref p0r, .int x_p0_1])), (p0r, .inl (ct 2, 4000, .inr (.inl g_p0r))), (tl, .inr (10, [.ref tls, .ref o0, .ref p0, .int x_tl_3, .int y_tl_483_4])), (o0, .inr (5, [.ref o0r, .int x_o0_1])), (o0r, .inl (ct 1, 60000, .inl k_o0r83_5))] _ := hP
          have hD : va_D A [(tls, .inl (ct 1, 4001, .inl g_tls)), (p0, .inr (7, [.ref p0r, .int x_p0_1])), (p0r, .inl (ct 2, 4000, .inr (.inl g_p0r))), (tl, .inr (10, [.ref tls, .ref o0, .ref p0, .int x_tl_3, .int y_tl_483_4])), (o0, .inr (5, [.ref o0r, .int x_o0_1])), (o0r, .inl (ct 1, 60000, .inl k_o0r83_5))] := hD
          exact endq_v hQ hx hb hr hlocks dX10_turnOne_86 (y_tl_483_4, k_o0r83_5) ⟨hp83_6, (show x_tl_4.toInt + 0 ≤ y_tl_483_4.toInt ∧ y_tl_483_4.toInt ≤ x_tl_4.toInt + 40 by have q0 := h_x_tl_4.1; have q1 := h_x_tl_4.2; have q2 := hp83_6.1; have q3 := hp83_6.2; have q4 := hp83_7; omega)⟩ hP hD hS [3, 1, 2, 4, 5, 0] rfl (by decide) rfl (Nat.le_of_ble_eq_true rfl) (Nat.le_of_ble_eq_true rfl)
        · have t70_2 := (i_ne c70_1)
          have r70_3 : rg r67_1 1 1 := rg_neAl t70_2 hp67_4 (show rg (0 : Int32) 0 0 from rg_l (by decide)) (by decide)
          refine lv_aload_n hx hb dX10_turnOne_73 rfl (lv_at hl 2 rfl) ?_
          refine lv_lload_n hx hb dX10_turnOne_74 rfl (lv_at hl 1 rfl) ?_
          refine go_v (k1 := 0) (n1 := 0) (wr := [(tls, .inl (ct 1, 4001, .inl g_tls)), (p0, .inr (7, [.ref p0r, .int x_p0_1])), (p0r, .inl (ct 2, 4000, .inr (.inl g_p0r)))]) [0, 1, 2] [3, 4, 5] (rn_V (As := [.long r5_1]) (rest := []) (c_X10_turnRead l D ct tl r5_1 tls o0 p0 x_tl_3 x_tl_4 o0r x_o0_1 g_o0r h_x_tl_3 (rg_w h_x_tl_4 (by decide)) h_x_o0_1 _) (cb_of (n := 1) hn mw_1373 mw_10 mw_1370 mhX10_turnRead ⟨(Nat.le_of_ble_eq_true rfl), (Nat.le_of_ble_eq_true rfl)⟩) hx hb hml hown hn hK hSK hZ hS mw_1372 mw_s160 (ci := 10) (q0 := 0) rfl rfl rfl rfl hl.1 (Nat.le_of_ble_eq_true rfl) dX10_turnOne_75 ⟨(Nat.le_of_ble_eq_true rfl), (Nat.le_of_ble_eq_true rfl)⟩) hP hD hS hA rfl rfl (by decide) (by decide) (by decide) (Nat.le_of_ble_eq_true rfl) (Nat.le_of_ble_eq_true rfl) (fun u75_2 H locs hp75_3 hP hD hS => ?_)
          obtain ⟨y_tl_475_4, k_o0r75_5⟩ := u75_2
          obtain ⟨hp75_6, hp75_7⟩ := hp75_3
          have hp75_6 : rg y_tl_475_4 1 1000001 := hp75_6
          have hp75_7 : x_tl_4.toInt + 0 ≤ y_tl_475_4.toInt ∧ y_tl_475_4.toInt ≤ x_tl_4.toInt + 40 := hp75_7
          have hP : va_P D vwCl [(tls, .inl (ct 1, 4001, .inl g_tls)), (p0, .inr (7, [.ref p0r, .int x_p0_1])), (p0r, .inl (ct 2, 4000, .inr (.inl g_p0r))), (tl, .inr (10, [.ref tls, .ref o0, .ref p0, .int x_tl_3, .int y_tl_475_4])), (o0, .inr (5, [.ref o0r, .int x_o0_1])), (o0r, .inl (ct 1, 60000, .inl k_o0r75_5))] _ := hP
          have hD : va_D A [(tls, .inl (ct 1, 4001, .inl g_tls)), (p0, .inr (7, [.ref p0r, .int x_p0_1])), (p0r, .inl (ct 2, 4000, .inr (.inl g_p0r))), (tl, .inr (10, [.ref tls, .ref o0, .ref p0, .int x_tl_3, .int y_tl_475_4])), (o0, .inr (5, [.ref o0r, .int x_o0_1])), (o0r, .inl (ct 1, 60000, .inl k_o0r75_5))] := hD
          refine lv_goto (tgt := 86) hx hb dX10_turnOne_78 (by decide) ?_
          exact endq_v hQ hx hb hr hlocks dX10_turnOne_86 (y_tl_475_4, k_o0r75_5) ⟨hp75_6, (show x_tl_4.toInt + 0 ≤ y_tl_475_4.toInt ∧ y_tl_475_4.toInt ≤ x_tl_4.toInt + 40 by have q0 := h_x_tl_4.1; have q1 := h_x_tl_4.2; have q2 := hp75_6.1; have q3 := hp75_6.2; have q4 := hp75_7; omega)⟩ hP hD hS [3, 1, 2, 4, 5, 0] rfl (by decide) rfl (Nat.le_of_ble_eq_true rfl) (Nat.le_of_ble_eq_true rfl)
      · have t53_2 := (i_ne c53_1)
        have r53_3 : rg r50_1 1 1 := rg_neAl t53_2 hp50_4 (show rg (0 : Int32) 0 0 from rg_l (by decide)) (by decide)
        refine lv_aload_n hx hb dX10_turnOne_56 rfl (lv_at hl 2 rfl) ?_
        refine lv_lload_n hx hb dX10_turnOne_57 rfl (lv_at hl 1 rfl) ?_
        refine lv_iload_n hx hb dX10_turnOne_58 rfl (lv_at hl 3 rfl) ?_
        refine go_v (k1 := 0) (n1 := 0) (wr := [(p0, .inr (7, [.ref p0r, .int x_p0_1])), (p0r, .inl (ct 2, 4000, .inr (.inl g_p0r)))]) [0, 1, 2, 3] [4, 5] (rn_V (As := [.long r5_1, .int v0]) (rest := []) (c_X10_turnJump l D ct tl r5_1 v0 tls o0 p0 x_tl_3 x_tl_4 o0r x_o0_1 g_o0r g_tls h_x_tl_3 (rg_w h_x_tl_4 (by decide)) h_x_o0_1 h_g_tls _) (cb_of (n := 2) hn mw_1363 mw_10 mw_1360 mhX10_turnJump ⟨(Nat.le_of_ble_eq_true rfl), (Nat.le_of_ble_eq_true rfl)⟩) hx hb hml hown hn hK hSK hZ hS mw_1362 mw_s158 (ci := 10) (q0 := 0) rfl rfl rfl rfl hl.1 (Nat.le_of_ble_eq_true rfl) dX10_turnOne_59 ⟨(Nat.le_of_ble_eq_true rfl), (Nat.le_of_ble_eq_true rfl)⟩) hP hD hS hA rfl rfl (by decide) (by decide) (by decide) (Nat.le_of_ble_eq_true rfl) (Nat.le_of_ble_eq_true rfl) (fun u59_2 H locs hp59_3 hP hD hS => ?_)
        obtain ⟨y_tl_459_4, k_o0r59_5⟩ := u59_2
        obtain ⟨hp59_6, hp59_7⟩ := hp59_3
        have hp59_6 : rg y_tl_459_4 1 1000001 := hp59_6
        have hp59_7 : x_tl_4.toInt + 1 ≤ y_tl_459_4.toInt ∧ y_tl_459_4.toInt ≤ x_tl_4.toInt + 7 := hp59_7
        have hP : va_P D vwCl [(p0, .inr (7, [.ref p0r, .int x_p0_1])), (p0r, .inl (ct 2, 4000, .inr (.inl g_p0r))), (tl, .inr (10, [.ref tls, .ref o0, .ref p0, .int x_tl_3, .int y_tl_459_4])), (o0, .inr (5, [.ref o0r, .int x_o0_1])), (o0r, .inl (ct 1, 60000, .inl k_o0r59_5)), (tls, .inl (ct 1, 4001, .inl g_tls))] _ := hP
        have hD : va_D A [(p0, .inr (7, [.ref p0r, .int x_p0_1])), (p0r, .inl (ct 2, 4000, .inr (.inl g_p0r))), (tl, .inr (10, [.ref tls, .ref o0, .ref p0, .int x_tl_3, .int y_tl_459_4])), (o0, .inr (5, [.ref o0r, .int x_o0_1])), (o0r, .inl (ct 1, 60000, .inl k_o0r59_5)), (tls, .inl (ct 1, 4001, .inl g_tls))] := hD
        refine lv_goto (tgt := 86) hx hb dX10_turnOne_62 (by decide) ?_
        exact endq_v hQ hx hb hr hlocks dX10_turnOne_86 (y_tl_459_4, k_o0r59_5) ⟨hp59_6, (show x_tl_4.toInt + 0 ≤ y_tl_459_4.toInt ∧ y_tl_459_4.toInt ≤ x_tl_4.toInt + 40 by have q0 := h_x_tl_4.1; have q1 := h_x_tl_4.2; have q2 := hp59_6.1; have q3 := hp59_6.2; have q4 := hp59_7; omega)⟩ hP hD hS [2, 0, 1, 3, 4, 5] rfl (by decide) rfl (Nat.le_of_ble_eq_true rfl) (Nat.le_of_ble_eq_true rfl)
    · have t36_2 := (i_eq c36_1)
      have r36_3 : rg r10_1 149 149 := rg_eqA t36_2 hp10_4 (show rg (149 : Int32) 149 149 from rg_l (by decide)) (by decide)
      refine lv_aload_n hx hb dX10_turnOne_39 rfl (lv_at hl 2 rfl) ?_
      refine lv_bipush (v := 115) hx hb dX10_turnOne_40 (by decide) ?_
      refine go_v (k1 := 0) (n1 := 0) (wr := [(tls, .inl (ct 1, 4001, .inl g_tls)), (p0, .inr (7, [.ref p0r, .int x_p0_1])), (p0r, .inl (ct 2, 4000, .inr (.inl g_p0r)))]) [0, 1, 2] [3, 4, 5] (rn_V (As := [.int 115]) (rest := []) (c_X10_put l D ct tl (115 : Int32) tls o0 p0 x_tl_3 x_tl_4 o0r x_o0_1 g_o0r h_x_tl_3 (rg_w h_x_tl_4 (by decide)) h_x_o0_1 _) (cb_of (n := 1) hn mw_1319 mw_10 mw_1316 mhX10_put ⟨(Nat.le_of_ble_eq_true rfl), (Nat.le_of_ble_eq_true rfl)⟩) hx hb hml hown hn hK hSK hZ hS mw_1318 mw_s149 (ci := 10) (q0 := 0) rfl rfl rfl rfl hl.1 (Nat.le_of_ble_eq_true rfl) dX10_turnOne_42 ⟨(Nat.le_of_ble_eq_true rfl), (Nat.le_of_ble_eq_true rfl)⟩) hP hD hS hA rfl rfl (by decide) (by decide) (by decide) (Nat.le_of_ble_eq_true rfl) (Nat.le_of_ble_eq_true rfl) (fun u42_2 H locs hp42_3 hP hD hS => ?_)
      obtain ⟨y_tl_442_4, k_o0r42_5⟩ := u42_2
      obtain ⟨hp42_6, hp42_7⟩ := hp42_3
      have hp42_6 : rg y_tl_442_4 1 1000001 := hp42_6
      have hp42_7 : y_tl_442_4.toInt = x_tl_4.toInt + 1 := hp42_7
      have hP : va_P D vwCl [(tls, .inl (ct 1, 4001, .inl g_tls)), (p0, .inr (7, [.ref p0r, .int x_p0_1])), (p0r, .inl (ct 2, 4000, .inr (.inl g_p0r))), (tl, .inr (10, [.ref tls, .ref o0, .ref p0, .int x_tl_3, .int y_tl_442_4])), (o0, .inr (5, [.ref o0r, .int x_o0_1])), (o0r, .inl (ct 1, 60000, .inl k_o0r42_5))] _ := hP
      have hD : va_D A [(tls, .inl (ct 1, 4001, .inl g_tls)), (p0, .inr (7, [.ref p0r, .int x_p0_1])), (p0r, .inl (ct 2, 4000, .inr (.inl g_p0r))), (tl, .inr (10, [.ref tls, .ref o0, .ref p0, .int x_tl_3, .int y_tl_442_4])), (o0, .inr (5, [.ref o0r, .int x_o0_1])), (o0r, .inl (ct 1, 60000, .inl k_o0r42_5))] := hD
      refine lv_goto (tgt := 86) hx hb dX10_turnOne_45 (by decide) ?_
      exact endq_v hQ hx hb hr hlocks dX10_turnOne_86 (y_tl_442_4, k_o0r42_5) ⟨hp42_6, (show x_tl_4.toInt + 0 ≤ y_tl_442_4.toInt ∧ y_tl_442_4.toInt ≤ x_tl_4.toInt + 40 by have q0 := h_x_tl_4.1; have q1 := h_x_tl_4.2; have q2 := hp42_6.1; have q3 := hp42_6.2; have q4 := hp42_7; omega)⟩ hP hD hS [3, 1, 2, 4, 5, 0] rfl (by decide) rfl (Nat.le_of_ble_eq_true rfl) (Nat.le_of_ble_eq_true rfl)
  · have t20_2 := (i_ne c20_1)
    have r20_3 : rg r17_1 1 1 := rg_neAl t20_2 hp17_4 (show rg (0 : Int32) 0 0 from rg_l (by decide)) (by decide)
    refine lv_aload_n hx hb dX10_turnOne_23 rfl (lv_at hl 2 rfl) ?_
    refine lv_lload_n hx hb dX10_turnOne_24 rfl (lv_at hl 1 rfl) ?_
    refine go_v (k1 := 0) (n1 := 0) (wr := [(tls, .inl (ct 1, 4001, .inl g_tls)), (p0, .inr (7, [.ref p0r, .int x_p0_1])), (p0r, .inl (ct 2, 4000, .inr (.inl g_p0r)))]) [0, 1, 2] [3, 4, 5] (rn_V (As := [.long r5_1]) (rest := []) (c_X10_turnOp l D ct tl r5_1 tls o0 p0 x_tl_3 x_tl_4 o0r x_o0_1 g_o0r h_x_tl_3 (rg_w h_x_tl_4 (by decide)) h_x_o0_1 (show r5_1.toInt % 256 ≤ 207 by have q0 := (rl_any r5_1).1; have q1 := (rl_any r5_1).2; have q2 := (rl_any (g_p0r v0.toNatClampNeg)).1; have q3 := (rl_any (g_p0r v0.toNatClampNeg)).2; have q4 := h_x_p0_1.1; have q5 := h_x_p0_1.2; have q6 := h_v0.1; have q7 := h_v0.2; have q8 := hp10_4.1; have q9 := hp10_4.2; have q10 := r20_3.1; have q11 := r20_3.2; have q12 := (show rg (0 : Int32) 0 0 from rg_l (by decide)).1; have q13 := (show rg (0 : Int32) 0 0 from rg_l (by decide)).2; have q14 := hq0; have q15 := hq1; have q16 := hp5_4; have q17 := hp10_5; have q18 := hp17_5; have q19 := hp17_6; have q20 := t20_2; omega) _) (cb_of (n := 1) hn mw_1304 mw_10 mw_1301 mhX10_turnOp ⟨(Nat.le_of_ble_eq_true rfl), (Nat.le_of_ble_eq_true rfl)⟩) hx hb hml hown hn hK hSK hZ hS mw_1303 mw_s147 (ci := 10) (q0 := 0) rfl rfl rfl rfl hl.1 (Nat.le_of_ble_eq_true rfl) dX10_turnOne_25 ⟨(Nat.le_of_ble_eq_true rfl), (Nat.le_of_ble_eq_true rfl)⟩) hP hD hS hA rfl rfl (by decide) (by decide) (by decide) (Nat.le_of_ble_eq_true rfl) (Nat.le_of_ble_eq_true rfl) (fun u25_2 H locs hp25_3 hP hD hS => ?_)
    obtain ⟨y_tl_425_4, k_o0r25_5⟩ := u25_2
    obtain ⟨hp25_6, hp25_7⟩ := hp25_3
    have hp25_6 : rg y_tl_425_4 1 1000001 := hp25_6
    have hp25_7 : x_tl_4.toInt + 1 ≤ y_tl_425_4.toInt ∧ y_tl_425_4.toInt ≤ x_tl_4.toInt + 9 := hp25_7
    have hP : va_P D vwCl [(tls, .inl (ct 1, 4001, .inl g_tls)), (p0, .inr (7, [.ref p0r, .int x_p0_1])), (p0r, .inl (ct 2, 4000, .inr (.inl g_p0r))), (tl, .inr (10, [.ref tls, .ref o0, .ref p0, .int x_tl_3, .int y_tl_425_4])), (o0, .inr (5, [.ref o0r, .int x_o0_1])), (o0r, .inl (ct 1, 60000, .inl k_o0r25_5))] _ := hP
    have hD : va_D A [(tls, .inl (ct 1, 4001, .inl g_tls)), (p0, .inr (7, [.ref p0r, .int x_p0_1])), (p0r, .inl (ct 2, 4000, .inr (.inl g_p0r))), (tl, .inr (10, [.ref tls, .ref o0, .ref p0, .int x_tl_3, .int y_tl_425_4])), (o0, .inr (5, [.ref o0r, .int x_o0_1])), (o0r, .inl (ct 1, 60000, .inl k_o0r25_5))] := hD
    refine lv_goto (tgt := 86) hx hb dX10_turnOne_28 (by decide) ?_
    exact endq_v hQ hx hb hr hlocks dX10_turnOne_86 (y_tl_425_4, k_o0r25_5) ⟨hp25_6, (show x_tl_4.toInt + 0 ≤ y_tl_425_4.toInt ∧ y_tl_425_4.toInt ≤ x_tl_4.toInt + 40 by have q0 := h_x_tl_4.1; have q1 := h_x_tl_4.2; have q2 := hp25_6.1; have q3 := hp25_6.2; have q4 := hp25_7; omega)⟩ hP hD hS [3, 1, 2, 4, 5, 0] rfl (by decide) rfl (Nat.le_of_ble_eq_true rfl) (Nat.le_of_ble_eq_true rfl)
set_option maxHeartbeats 2000000 in
theorem c_X10_turnAll (l : Launch) (D : va_G) (ct : Nat → ClassId) (tl : Nat) (tls : Nat) (o0 : Nat) (p0 : Nat) (x_tl_3 : Int32) (x_tl_4 : Int32) (p0r : Nat) (x_p0_1 : Int32) (g_p0r : Nat → Int64) (g_tls : Nat → Int32) (o0r : Nat) (x_o0_1 : Int32) (g_o0r : Nat → Int32) (h_x_tl_3 : rg x_tl_3 0 1) (h_x_tl_4 : rg x_tl_4 0 1000000) (h_x_p0_1 : rg x_p0_1 0 4000) (h_g_tls : Rg g_tls 4001 0 1073741824) (h_x_o0_1 : rg x_o0_1 0 60000) (hg0 : OkP g_p0r x_p0_1.toInt) : KV (S := Int32 × (Nat → Int32) × (Nat → Int32)) l yX10_turnAll cX10_turnAll 2 none 6 143 D ct [.ref tl] [(tl, .inr (10, [.ref tls, .ref o0, .ref p0, .int x_tl_3, .int x_tl_4])), (p0, .inr (7, [.ref p0r, .int x_p0_1])), (p0r, .inl (ct 2, 4000, .inr (.inl g_p0r))), (tls, .inl (ct 1, 4001, .inl g_tls)), (o0, .inr (5, [.ref o0r, .int x_o0_1])), (o0r, .inl (ct 1, 60000, .inl g_o0r))] 0 0 (fun (u : Int32 × (Nat → Int32) × (Nat → Int32)) => match u with | (y_tl_4, k_tls, k_o0r) => rg y_tl_4 0 160000 ∧ Rg k_tls 4001 0 1073741824) (fun (u : Int32 × (Nat → Int32) × (Nat → Int32)) => match u with | (y_tl_4, k_tls, k_o0r) => [(tl, .inr (10, [.ref tls, .ref o0, .ref p0, .int x_tl_3, .int y_tl_4])), (p0, .inr (7, [.ref p0r, .int x_p0_1])), (p0r, .inl (ct 2, 4000, .inr (.inl g_p0r))), (tls, .inl (ct 1, 4001, .inl k_tls)), (o0, .inr (5, [.ref o0r, .int x_o0_1])), (o0r, .inl (ct 1, 60000, .inl k_o0r))]) := by
  refine KVq_of (by decide) (Nat.le_of_ble_eq_true rfl) (fun p e s m below meth c A Q C0 hA H locs hS hP hD hQ ls hl => ?_)
  obtain ⟨hx, hb, hr, hown, hin, hml, hlocks, hn, hK, hZ, hSK⟩ := C0
  have hl : lv_has ls 2 [(0, .ref tl)] := hl
  refine lv_aload_n hx hb dX10_turnAll_0 rfl (lv_at hl 0 rfl) ?_
  refine lv_iconst (v := 0) hx hb dX10_turnAll_1 (by decide) ?_
  refine va_put (D := D) (ci := 10) (v := .int 0) (ty := .int) (C := RX10) (T := TX10) (N := 5) hx hb (htX10 hn) (fun _ h => h) tyX10 tyX10_ok nmX10 hown hK hP hD hS 0 rfl rfl 4 (by decide) (hn.get mw_292 rfl) (fun _ h9 => h9) rfl (by decide +kernel) rfl rfl (Nat.le_of_ble_eq_true rfl) dX10_turnAll_2 (fun H locs hP hD hS => ?_)
  have hP : va_P D vwCl [(tl, .inr (10, [.ref tls, .ref o0, .ref p0, .int x_tl_3, .int 0])), (p0, .inr (7, [.ref p0r, .int x_p0_1])), (p0r, .inl (ct 2, 4000, .inr (.inl g_p0r))), (tls, .inl (ct 1, 4001, .inl g_tls)), (o0, .inr (5, [.ref o0r, .int x_o0_1])), (o0r, .inl (ct 1, 60000, .inl g_o0r))] _ := hP
  have hD : va_D A [(tl, .inr (10, [.ref tls, .ref o0, .ref p0, .int x_tl_3, .int 0])), (p0, .inr (7, [.ref p0r, .int x_p0_1])), (p0r, .inl (ct 2, 4000, .inr (.inl g_p0r))), (tls, .inl (ct 1, 4001, .inl g_tls)), (o0, .inr (5, [.ref o0r, .int x_o0_1])), (o0r, .inl (ct 1, 60000, .inl g_o0r))] := hD
  refine lv_iconst (v := 0) hx hb dX10_turnAll_5 (by decide) ?_
  refine lv_istore_n (lv' := [(1, .int 0), (0, .ref tl)]) hx hb dX10_turnAll_6 rfl hl (by decide) rfl (fun ls hl => ?_)
  have b7 : ∀ (n : Nat) (j7_l1 : Int32) (j7_ftl_4 : Int32) (j7_ctls : Nat → Int32) (j7_co0r : Nat → Int32) (H : Heap) (locs : List Loc) (ls : Array Slot), (rg j7_l1 0 4000) → (rg j7_ftl_4 0 160000) → (Rg j7_ctls 4001 0 1073741824) → (j7_ftl_4.toInt ≤ 40 * j7_l1.toInt ∧ j7_l1.toInt ≤ x_p0_1.toInt) → ((2147483647 : Int) - j7_l1.toInt).toNat < n → lv_has ls 2 [(0, .ref tl), (1, .int j7_l1)] → va_P D vwCl [(tl, .inr (10, [.ref tls, .ref o0, .ref p0, .int x_tl_3, .int j7_ftl_4])), (p0, .inr (7, [.ref p0r, .int x_p0_1])), (p0r, .inl (ct 2, 4000, .inr (.inl g_p0r))), (tls, .inl (ct 1, 4001, .inl j7_ctls)), (o0, .inr (5, [.ref o0r, .int x_o0_1])), (o0r, .inl (ct 1, 60000, .inl j7_co0r))] H → va_D A [(tl, .inr (10, [.ref tls, .ref o0, .ref p0, .int x_tl_3, .int j7_ftl_4])), (p0, .inr (7, [.ref p0r, .int x_p0_1])), (p0r, .inl (ct 2, 4000, .inr (.inl g_p0r))), (tls, .inl (ct 1, 4001, .inl j7_ctls)), (o0, .inr (5, [.ref o0r, .int x_o0_1])), (o0r, .inl (ct 1, 60000, .inl j7_co0r))] → va_S A s.heap H locs → W p l e ({ frames := 6, cells := 0, slots := 0, locals := 143 }) s m [.ref tl].toArray below meth c H locs 0 0 Q (F0 m 7 ls []) := by
    intro n
    induction n with
    | zero => intros; rename_i hms _ _ _ _; exact absurd hms (Nat.not_lt_zero _)
    | succ n ih =>
      intro j7_l1 j7_ftl_4 j7_ctls j7_co0r H locs ls r7_1001 r7_1002 hc7_1003 hi7_1004 hms hl hP hD hS
      refine lv_iload_n hx hb dX10_turnAll_7 rfl (lv_at hl 1 rfl) ?_
      refine lv_aload_n hx hb dX10_turnAll_8 rfl (lv_at hl 0 rfl) ?_
      refine va_get (D := D) (ci := 10) (v := .ref p0) (C := RX10) (T := TX10) (N := 5) hx hb (htX10 hn) (fun _ h => h) hown hK hP 0 rfl rfl 2 (by decide) (hn.get mw_290 rfl) (fun _ h9 => h9) rfl dX10_turnAll_9 ?_
      refine va_getN (D := D) (ci := 7) (v := .int x_p0_1) (C := RX7) (T := TX7) (N := 2) hx hb (htX7 hn) (fun _ h => h) hown hK hP 1 rfl rfl 1 (by decide) (hn.get mw_228 rfl) (fun _ h9 => h9) rfl dX10_turnAll_12 ?_
      refine lv_icmp_ge (tgt := 39) hx hb dX10_turnAll_15 (by decide) (fun c15_1 => ?_) (fun c15_1 => ?_)
      · have t15_2 := (i_le c15_1)
        exact endq_v hQ hx hb hr hlocks dX10_turnAll_39 (j7_ftl_4, j7_ctls, j7_co0r) ⟨r7_1002, hc7_1003⟩ hP hD hS [0, 1, 2, 3, 4, 5] rfl (by decide) rfl (Nat.le_of_ble_eq_true rfl) (Nat.le_of_ble_eq_true rfl)
      · have t15_2 := (i_nle c15_1)
        have r15_3 : rg j7_l1 0 3999 := rg_ltA t15_2 r7_1001 h_x_p0_1 (by decide)
        have r15_4 : rg x_p0_1 1 4000 := rg_ltB t15_2 r7_1001 h_x_p0_1 (by decide)
        refine lv_aload_n hx hb dX10_turnAll_18 rfl (lv_at hl 0 rfl) ?_
        refine va_get (D := D) (ci := 10) (v := .ref tls) (C := RX10) (T := TX10) (N := 5) hx hb (htX10 hn) (fun _ h => h) hown hK hP 0 rfl rfl 0 (by decide) (hn.get mw_288 rfl) (fun _ h9 => h9) rfl dX10_turnAll_19 ?_
        refine lv_iload_n hx hb dX10_turnAll_22 rfl (lv_at hl 1 rfl) ?_
        refine lv_aload_n hx hb dX10_turnAll_23 rfl (lv_at hl 0 rfl) ?_
        refine va_get (D := D) (ci := 10) (v := .int j7_ftl_4) (C := RX10) (T := TX10) (N := 5) hx hb (htX10 hn) (fun _ h => h) hown hK hP 0 rfl rfl 4 (by decide) (hn.get mw_292 rfl) (fun _ h9 => h9) rfl dX10_turnAll_24 ?_
        have hi27_1 : vp_in j7_l1 4001 := (in_rg r15_3 (by decide))
        refine va_iast hx hb hK hP hD hS 3 1 rfl rfl hi27_1 dX10_turnAll_27 (fun H locs hP hD hS => ?_)
        have hP : va_P D vwCl [(tl, .inr (10, [.ref tls, .ref o0, .ref p0, .int x_tl_3, .int j7_ftl_4])), (p0, .inr (7, [.ref p0r, .int x_p0_1])), (p0r, .inl (ct 2, 4000, .inr (.inl g_p0r))), (tls, .inl (ct 1, 4001, .inl (upd j7_ctls j7_l1.toNatClampNeg j7_ftl_4))), (o0, .inr (5, [.ref o0r, .int x_o0_1])), (o0r, .inl (ct 1, 60000, .inl j7_co0r))] _ := hP
        have hD : va_D A [(tl, .inr (10, [.ref tls, .ref o0, .ref p0, .int x_tl_3, .int j7_ftl_4])), (p0, .inr (7, [.ref p0r, .int x_p0_1])), (p0r, .inl (ct 2, 4000, .inr (.inl g_p0r))), (tls, .inl (ct 1, 4001, .inl (upd j7_ctls j7_l1.toNatClampNeg j7_ftl_4))), (o0, .inr (5, [.ref o0r, .int x_o0_1])), (o0r, .inl (ct 1, 60000, .inl j7_co0r))] := hD
        obtain ⟨f27_2, ef27_2⟩ : ∃ z, z = (upd j7_ctls j7_l1.toNatClampNeg j7_ftl_4) := ⟨_, rfl⟩
        rw [← ef27_2] at hP hD
        have hc27_3 : Rg f27_2 4001 0 1073741824 := Rg_upd ef27_2 hc7_1003 (rg_w r7_1002 (by decide))
        have hk28_1 : (((g_p0r j7_l1.toNatClampNeg).toInt % 8 = 7 ∨ (g_p0r j7_l1.toNatClampNeg).toInt % 8 = 4) → (g_p0r j7_l1.toNatClampNeg).toInt % 256 ≤ 207) ∧ ((g_p0r j7_l1.toNatClampNeg).toInt / 256) % 16 ≤ 10 ∧ ((g_p0r j7_l1.toNatClampNeg).toInt / 4096) % 16 ≤ 10 := hg0 j7_l1 (show 0 ≤ j7_l1.toInt by have q0 := r15_3.1; have q1 := r15_3.2; have q2 := r15_4.1; have q3 := r15_4.2; have q4 := r7_1002.1; have q5 := r7_1002.2; have q6 := hi7_1004; have q7 := t15_2; omega) (show j7_l1.toInt < x_p0_1.toInt by have q0 := r15_4.1; have q1 := r15_4.2; have q2 := r15_3.1; have q3 := r15_3.2; have q4 := r7_1002.1; have q5 := r7_1002.2; have q6 := hi7_1004; have q7 := t15_2; omega)
        refine lv_aload_n hx hb dX10_turnAll_28 rfl (lv_at hl 0 rfl) ?_
        refine lv_iload_n hx hb dX10_turnAll_29 rfl (lv_at hl 1 rfl) ?_
        refine go_v (k1 := 0) (n1 := 0) (wr := []) [0, 1, 2, 4, 5, 3] [] (rn_V (As := [.int j7_l1]) (rest := []) (c_X10_turnOne l D ct tl j7_l1 tls o0 p0 x_tl_3 j7_ftl_4 p0r x_p0_1 g_p0r o0r x_o0_1 j7_co0r f27_2 r15_3 h_x_tl_3 (rg_w r7_1002 (by decide)) (rg_w r15_4 (by decide)) h_x_o0_1 hc27_3 (show j7_l1.toInt < x_p0_1.toInt by have q0 := r15_4.1; have q1 := r15_4.2; have q2 := r15_3.1; have q3 := r15_3.2; have q4 := r7_1002.1; have q5 := r7_1002.2; have q6 := hi7_1004; have q7 := t15_2; omega) (show (((g_p0r j7_l1.toNatClampNeg).toInt % 8 = 7 ∨ (g_p0r j7_l1.toNatClampNeg).toInt % 8 = 4) → (g_p0r j7_l1.toNatClampNeg).toInt % 256 ≤ 207) ∧ ((g_p0r j7_l1.toNatClampNeg).toInt / 256) % 16 ≤ 10 ∧ ((g_p0r j7_l1.toNatClampNeg).toInt / 4096) % 16 ≤ 10 by have q0 := (rl_any (g_p0r j7_l1.toNatClampNeg)).1; have q1 := (rl_any (g_p0r j7_l1.toNatClampNeg)).2; have q2 := hk28_1; omega) _) (cb_of (n := 1) hn mw_1297 mw_10 mw_1294 mhX10_turnOne ⟨(Nat.le_of_ble_eq_true rfl), (Nat.le_of_ble_eq_true rfl)⟩) hx hb hml hown hn hK hSK hZ hS mw_1296 mw_s146 (ci := 10) (q0 := 0) rfl rfl rfl rfl hl.1 (Nat.le_of_ble_eq_true rfl) dX10_turnAll_30 ⟨(Nat.le_of_ble_eq_true rfl), (Nat.le_of_ble_eq_true rfl)⟩) hP hD hS hA rfl rfl (by decide) (by decide) (by decide) (Nat.le_of_ble_eq_true rfl) (Nat.le_of_ble_eq_true rfl) (fun u30_2 H locs hp30_3 hP hD hS => ?_)
        obtain ⟨y_tl_430_4, k_o0r30_5⟩ := u30_2
        obtain ⟨hp30_6, hp30_7⟩ := hp30_3
        have hp30_6 : rg y_tl_430_4 1 1000001 := hp30_6
        have hp30_7 : j7_ftl_4.toInt + 0 ≤ y_tl_430_4.toInt ∧ y_tl_430_4.toInt ≤ j7_ftl_4.toInt + 40 := hp30_7
        have hP : va_P D vwCl [(tl, .inr (10, [.ref tls, .ref o0, .ref p0, .int x_tl_3, .int y_tl_430_4])), (p0, .inr (7, [.ref p0r, .int x_p0_1])), (p0r, .inl (ct 2, 4000, .inr (.inl g_p0r))), (o0, .inr (5, [.ref o0r, .int x_o0_1])), (o0r, .inl (ct 1, 60000, .inl k_o0r30_5)), (tls, .inl (ct 1, 4001, .inl f27_2))] _ := hP
        have hD : va_D A [(tl, .inr (10, [.ref tls, .ref o0, .ref p0, .int x_tl_3, .int y_tl_430_4])), (p0, .inr (7, [.ref p0r, .int x_p0_1])), (p0r, .inl (ct 2, 4000, .inr (.inl g_p0r))), (o0, .inr (5, [.ref o0r, .int x_o0_1])), (o0r, .inl (ct 1, 60000, .inl k_o0r30_5)), (tls, .inl (ct 1, 4001, .inl f27_2))] := hD
        obtain ⟨x33_1, ex33_1⟩ : ∃ z : Int32, z = j7_l1 + 1 := ⟨_, rfl⟩
        have r33_2 : rg x33_1 1 4000 := rg_add ex33_1 r15_3 (show rg (1 : Int32) 1 1 from rg_l (by decide)) (by decide)
        refine lv_iinc (v := x33_1) (lv' := [(1, .int x33_1), (0, .ref tl)]) hx hb dX10_turnAll_33 hl (k := 1) rfl (by rw [ex33_1]; rfl) (by decide) rfl (fun ls hl => ?_)
        refine lv_goto (tgt := 7) hx hb dX10_turnAll_36 (by decide) ?_
        have hP := hP.sub (ws' := [(tl, .inr (10, [.ref tls, .ref o0, .ref p0, .int x_tl_3, .int y_tl_430_4])), (p0, .inr (7, [.ref p0r, .int x_p0_1])), (p0r, .inl (ct 2, 4000, .inr (.inl g_p0r))), (tls, .inl (ct 1, 4001, .inl f27_2)), (o0, .inr (5, [.ref o0r, .int x_o0_1])), (o0r, .inl (ct 1, 60000, .inl k_o0r30_5))]) [0, 1, 2, 5, 3, 4] rfl
        have hD := hD.sub (ws' := [(tl, .inr (10, [.ref tls, .ref o0, .ref p0, .int x_tl_3, .int y_tl_430_4])), (p0, .inr (7, [.ref p0r, .int x_p0_1])), (p0r, .inl (ct 2, 4000, .inr (.inl g_p0r))), (tls, .inl (ct 1, 4001, .inl f27_2)), (o0, .inr (5, [.ref o0r, .int x_o0_1])), (o0r, .inl (ct 1, 60000, .inl k_o0r30_5))]) [0, 1, 2, 5, 3, 4] (by decide) rfl
        exact ih x33_1 y_tl_430_4 f27_2 k_o0r30_5 H locs ls (rg_w r33_2 (by decide)) (rg_of (show 0 ≤ y_tl_430_4.toInt ∧ y_tl_430_4.toInt ≤ 160000 by have q0 := hp30_6.1; have q1 := hp30_6.2; have q2 := r7_1002.1; have q3 := r7_1002.2; have q4 := r15_4.1; have q5 := r15_4.2; have q6 := r15_3.1; have q7 := r15_3.2; have q8 := hi7_1004; have q9 := t15_2; have q10 := hp30_7; omega)) hc27_3 (show y_tl_430_4.toInt ≤ 40 * x33_1.toInt ∧ x33_1.toInt ≤ x_p0_1.toInt by have q0 := r15_4.1; have q1 := r15_4.2; have q2 := r33_2.1; have q3 := r33_2.2; have q4 := (eq_add ex33_1 r15_3 (show rg (1 : Int32) 1 1 from rg_l (by decide)) (by decide)); have q5 := (show rg (1 : Int32) 1 1 from rg_l (by decide)).1; have q6 := (show rg (1 : Int32) 1 1 from rg_l (by decide)).2; have q7 := r15_3.1; have q8 := r15_3.2; have q9 := hp30_6.1; have q10 := hp30_6.2; have q11 := r7_1002.1; have q12 := r7_1002.2; have q13 := hi7_1004; have q14 := t15_2; have q15 := hp30_7; omega) (show ((2147483647 : Int) - x33_1.toInt).toNat < n by have q0 := r15_3.1; have q1 := r15_3.2; have q2 := r33_2.1; have q3 := r33_2.2; have q4 := (eq_add ex33_1 r15_3 (show rg (1 : Int32) 1 1 from rg_l (by decide)) (by decide)); have q5 := (show rg (1 : Int32) 1 1 from rg_l (by decide)).1; have q6 := (show rg (1 : Int32) 1 1 from rg_l (by decide)).2; have q7 := r15_4.1; have q8 := r15_4.2; have q9 := r7_1002.1; have q10 := r7_1002.2; have q11 := hp30_6.1; have q12 := hp30_6.2; have q13 := hi7_1004; have q14 := t15_2; have q15 := hp30_7; have q16 := hms; omega) (lv_sub hl [1, 0] rfl) hP hD hS
  exact b7 _ (0 : Int32) (0 : Int32) g_tls g_o0r H locs ls (rg_w (show rg (0 : Int32) 0 0 from rg_l (by decide)) (by decide)) (rg_w (show rg (0 : Int32) 0 0 from rg_l (by decide)) (by decide)) h_g_tls (show (0 : Int32).toInt ≤ 40 * (0 : Int32).toInt ∧ (0 : Int32).toInt ≤ x_p0_1.toInt by have q0 := h_x_p0_1.1; have q1 := h_x_p0_1.2; have q2 := (show rg (0 : Int32) 0 0 from rg_l (by decide)).1; have q3 := (show rg (0 : Int32) 0 0 from rg_l (by decide)).2; omega) (Nat.lt_succ_self _) (lv_sub hl [1, 0] rfl) hP hD hS
set_option maxHeartbeats 2000000 in
theorem c_X10_turn (l : Launch) (D : va_G) (ct : Nat → ClassId) (tl : Nat) (p0 : Nat) (tls : Nat) (o0 : Nat) (ps : Nat) (x_tl_3 : Int32) (x_tl_4 : Int32) (p0r : Nat) (x_p0_1 : Int32) (g_p0r : Nat → Int64) (o0r : Nat) (x_o0_1 : Int32) (g_o0r : Nat → Int32) (g_tls : Nat → Int32) (h_x_tl_3 : rg x_tl_3 0 1) (h_x_tl_4 : rg x_tl_4 0 1000000) (h_x_p0_1 : rg x_p0_1 0 4000) (h_x_o0_1 : rg x_o0_1 0 60000) (h_g_tls : Rg g_tls 4001 0 1073741824) (hg0 : OkP g_p0r x_p0_1.toInt) : KI (S := Int32 × Int32 × Int32 × (Nat → Int32) × (Nat → Int32)) l yX10_turn cX10_turn 2 (some .int) 7 164 D ct [.ref tl, .ref p0] [(tl, .inr (10, [.ref tls, .ref o0, .ref ps, .int x_tl_3, .int x_tl_4])), (p0, .inr (7, [.ref p0r, .int x_p0_1])), (p0r, .inl (ct 2, 4000, .inr (.inl g_p0r))), (o0, .inr (5, [.ref o0r, .int x_o0_1])), (o0r, .inl (ct 1, 60000, .inl g_o0r)), (tls, .inl (ct 1, 4001, .inl g_tls))] 0 0 (fun (r : Int32) (u : Int32 × Int32 × Int32 × (Nat → Int32) × (Nat → Int32)) => match u with | (y_tl_3, y_tl_4, y_o0_1, k_o0r, k_tls) => rg r (-1) 160000 ∧ rg y_tl_3 0 1 ∧ rg y_tl_4 0 160000 ∧ rg y_o0_1 0 160000 ∧ Rg k_tls 4001 0 1073741824) (fun (u : Int32 × Int32 × Int32 × (Nat → Int32) × (Nat → Int32)) => match u with | (y_tl_3, y_tl_4, y_o0_1, k_o0r, k_tls) => [(tl, .inr (10, [.ref tls, .ref o0, .ref p0, .int y_tl_3, .int y_tl_4])), (p0, .inr (7, [.ref p0r, .int x_p0_1])), (p0r, .inl (ct 2, 4000, .inr (.inl g_p0r))), (o0, .inr (5, [.ref o0r, .int y_o0_1])), (o0r, .inl (ct 1, 60000, .inl k_o0r)), (tls, .inl (ct 1, 4001, .inl k_tls))]) := by
  refine KIq_of (by decide) (Nat.le_of_ble_eq_true rfl) (fun p e s m below meth c A Q C0 hA H locs hS hP hD hQ ls hl => ?_)
  obtain ⟨hx, hb, hr, hown, hin, hml, hlocks, hn, hK, hZ, hSK⟩ := C0
  have hl : lv_has ls 2 [(0, .ref tl), (1, .ref p0)] := hl
  refine lv_aload_n hx hb dX10_turn_0 rfl (lv_at hl 0 rfl) ?_
  refine lv_aload_n hx hb dX10_turn_1 rfl (lv_at hl 1 rfl) ?_
  refine va_put (D := D) (ci := 10) (v := .ref p0) (ty := .object "FilterForge$Program") (C := RX10) (T := TX10) (N := 5) hx hb (htX10 hn) (fun _ h => h) tyX10 tyX10_ok nmX10 hown hK hP hD hS 0 rfl rfl 2 (by decide) (hn.get mw_290 rfl) (fun _ h9 => h9) rfl (by decide +kernel) rfl rfl (Nat.le_of_ble_eq_true rfl) dX10_turn_2 (fun H locs hP hD hS => ?_)
  have hP : va_P D vwCl [(tl, .inr (10, [.ref tls, .ref o0, .ref p0, .int x_tl_3, .int x_tl_4])), (p0, .inr (7, [.ref p0r, .int x_p0_1])), (p0r, .inl (ct 2, 4000, .inr (.inl g_p0r))), (o0, .inr (5, [.ref o0r, .int x_o0_1])), (o0r, .inl (ct 1, 60000, .inl g_o0r)), (tls, .inl (ct 1, 4001, .inl g_tls))] _ := hP
  have hD : va_D A [(tl, .inr (10, [.ref tls, .ref o0, .ref p0, .int x_tl_3, .int x_tl_4])), (p0, .inr (7, [.ref p0r, .int x_p0_1])), (p0r, .inl (ct 2, 4000, .inr (.inl g_p0r))), (o0, .inr (5, [.ref o0r, .int x_o0_1])), (o0r, .inl (ct 1, 60000, .inl g_o0r)), (tls, .inl (ct 1, 4001, .inl g_tls))] := hD
  refine lv_aload_n hx hb dX10_turn_5 rfl (lv_at hl 0 rfl) ?_
  refine lv_iconst (v := 0) hx hb dX10_turn_6 (by decide) ?_
  refine va_put (D := D) (ci := 10) (v := .int 0) (ty := .boolean) (C := RX10) (T := TX10) (N := 5) hx hb (htX10 hn) (fun _ h => h) tyX10 tyX10_ok nmX10 hown hK hP hD hS 0 rfl rfl 3 (by decide) (hn.get mw_291 rfl) (fun _ h9 => h9) rfl (by decide +kernel) (by decide) rfl (Nat.le_of_ble_eq_true rfl) dX10_turn_7 (fun H locs hP hD hS => ?_)
  have hP : va_P D vwCl [(tl, .inr (10, [.ref tls, .ref o0, .ref p0, .int 0, .int x_tl_4])), (p0, .inr (7, [.ref p0r, .int x_p0_1])), (p0r, .inl (ct 2, 4000, .inr (.inl g_p0r))), (o0, .inr (5, [.ref o0r, .int x_o0_1])), (o0r, .inl (ct 1, 60000, .inl g_o0r)), (tls, .inl (ct 1, 4001, .inl g_tls))] _ := hP
  have hD : va_D A [(tl, .inr (10, [.ref tls, .ref o0, .ref p0, .int 0, .int x_tl_4])), (p0, .inr (7, [.ref p0r, .int x_p0_1])), (p0r, .inl (ct 2, 4000, .inr (.inl g_p0r))), (o0, .inr (5, [.ref o0r, .int x_o0_1])), (o0r, .inl (ct 1, 60000, .inl g_o0r)), (tls, .inl (ct 1, 4001, .inl g_tls))] := hD
  refine lv_aload_n hx hb dX10_turn_10 rfl (lv_at hl 0 rfl) ?_
  refine go_v (k1 := 0) (n1 := 0) (wr := []) [0, 1, 2, 5, 3, 4] [] (rn_V (As := []) (rest := []) (c_X10_turnAll l D ct tl tls o0 p0 (0 : Int32) x_tl_4 p0r x_p0_1 g_p0r g_tls o0r x_o0_1 g_o0r (rg_w (show rg (0 : Int32) 0 0 from rg_l (by decide)) (by decide)) h_x_tl_4 h_x_p0_1 h_g_tls h_x_o0_1 hg0 _) (cb_of (n := 0) hn mw_1293 mw_10 mw_1290 mhX10_turnAll ⟨(Nat.le_of_ble_eq_true rfl), (Nat.le_of_ble_eq_true rfl)⟩) hx hb hml hown hn hK hSK hZ hS mw_1292 mw_s145 (ci := 10) (q0 := 0) rfl rfl rfl rfl hl.1 (Nat.le_of_ble_eq_true rfl) dX10_turn_11 ⟨(Nat.le_of_ble_eq_true rfl), (Nat.le_of_ble_eq_true rfl)⟩) hP hD hS hA rfl rfl (by decide) (by decide) (by decide) (Nat.le_of_ble_eq_true rfl) (Nat.le_of_ble_eq_true rfl) (fun u11_2 H locs hp11_3 hP hD hS => ?_)
  obtain ⟨y_tl_411_4, k_tls11_5, k_o0r11_6⟩ := u11_2
  obtain ⟨hp11_7, hp11_8⟩ := hp11_3
  have hp11_7 : rg y_tl_411_4 0 160000 := hp11_7
  have hP : va_P D vwCl [(tl, .inr (10, [.ref tls, .ref o0, .ref p0, .int 0, .int y_tl_411_4])), (p0, .inr (7, [.ref p0r, .int x_p0_1])), (p0r, .inl (ct 2, 4000, .inr (.inl g_p0r))), (tls, .inl (ct 1, 4001, .inl k_tls11_5)), (o0, .inr (5, [.ref o0r, .int x_o0_1])), (o0r, .inl (ct 1, 60000, .inl k_o0r11_6))] _ := hP
  have hD : va_D A [(tl, .inr (10, [.ref tls, .ref o0, .ref p0, .int 0, .int y_tl_411_4])), (p0, .inr (7, [.ref p0r, .int x_p0_1])), (p0r, .inl (ct 2, 4000, .inr (.inl g_p0r))), (tls, .inl (ct 1, 4001, .inl k_tls11_5)), (o0, .inr (5, [.ref o0r, .int x_o0_1])), (o0r, .inl (ct 1, 60000, .inl k_o0r11_6))] := hD
  refine lv_aload_n hx hb dX10_turn_14 rfl (lv_at hl 0 rfl) ?_
  refine va_get (D := D) (ci := 10) (v := .int y_tl_411_4) (C := RX10) (T := TX10) (N := 5) hx hb (htX10 hn) (fun _ h => h) hown hK hP 0 rfl rfl 4 (by decide) (hn.get mw_292 rfl) (fun _ h9 => h9) rfl dX10_turn_15 ?_
  refine lv_ldc (v := 60000) hx hb hown (hn.get mw_1320 rfl) dX10_turn_18 ?_
  refine lv_icmp_le (tgt := 25) hx hb dX10_turn_20 (by decide) (fun c20_1 => ?_) (fun c20_1 => ?_)
  · have t20_2 := (i_le c20_1)
    have r20_3 : rg y_tl_411_4 0 60000 := rg_leA t20_2 hp11_7 (show rg (60000 : Int32) 60000 60000 from rg_l (by decide)) (by decide)
    refine lv_aload_n hx hb dX10_turn_25 rfl (lv_at hl 0 rfl) ?_
    refine lv_iconst (v := 1) hx hb dX10_turn_26 (by decide) ?_
    refine va_put (D := D) (ci := 10) (v := .int 1) (ty := .boolean) (C := RX10) (T := TX10) (N := 5) hx hb (htX10 hn) (fun _ h => h) tyX10 tyX10_ok nmX10 hown hK hP hD hS 0 rfl rfl 3 (by decide) (hn.get mw_291 rfl) (fun _ h9 => h9) rfl (by decide +kernel) (by decide) rfl (Nat.le_of_ble_eq_true rfl) dX10_turn_27 (fun H locs hP hD hS => ?_)
    have hP : va_P D vwCl [(tl, .inr (10, [.ref tls, .ref o0, .ref p0, .int 1, .int y_tl_411_4])), (p0, .inr (7, [.ref p0r, .int x_p0_1])), (p0r, .inl (ct 2, 4000, .inr (.inl g_p0r))), (tls, .inl (ct 1, 4001, .inl k_tls11_5)), (o0, .inr (5, [.ref o0r, .int x_o0_1])), (o0r, .inl (ct 1, 60000, .inl k_o0r11_6))] _ := hP
    have hD : va_D A [(tl, .inr (10, [.ref tls, .ref o0, .ref p0, .int 1, .int y_tl_411_4])), (p0, .inr (7, [.ref p0r, .int x_p0_1])), (p0r, .inl (ct 2, 4000, .inr (.inl g_p0r))), (tls, .inl (ct 1, 4001, .inl k_tls11_5)), (o0, .inr (5, [.ref o0r, .int x_o0_1])), (o0r, .inl (ct 1, 60000, .inl k_o0r11_6))] := hD
    refine lv_aload_n hx hb dX10_turn_30 rfl (lv_at hl 0 rfl) ?_
    refine go_v (k1 := 0) (n1 := 0) (wr := []) [0, 1, 2, 3, 4, 5] [] (rn_V (As := []) (rest := []) (c_X10_turnAll l D ct tl tls o0 p0 (1 : Int32) y_tl_411_4 p0r x_p0_1 g_p0r k_tls11_5 o0r x_o0_1 k_o0r11_6 (rg_w (show rg (1 : Int32) 1 1 from rg_l (by decide)) (by decide)) (rg_w r20_3 (by decide)) h_x_p0_1 hp11_8 h_x_o0_1 hg0 _) (cb_of (n := 0) hn mw_1293 mw_10 mw_1290 mhX10_turnAll ⟨(Nat.le_of_ble_eq_true rfl), (Nat.le_of_ble_eq_true rfl)⟩) hx hb hml hown hn hK hSK hZ hS mw_1292 mw_s145 (ci := 10) (q0 := 0) rfl rfl rfl rfl hl.1 (Nat.le_of_ble_eq_true rfl) dX10_turn_31 ⟨(Nat.le_of_ble_eq_true rfl), (Nat.le_of_ble_eq_true rfl)⟩) hP hD hS hA rfl rfl (by decide) (by decide) (by decide) (Nat.le_of_ble_eq_true rfl) (Nat.le_of_ble_eq_true rfl) (fun u31_2 H locs hp31_3 hP hD hS => ?_)
    obtain ⟨y_tl_431_4, k_tls31_5, k_o0r31_6⟩ := u31_2
    obtain ⟨hp31_7, hp31_8⟩ := hp31_3
    have hp31_7 : rg y_tl_431_4 0 160000 := hp31_7
    have hP : va_P D vwCl [(tl, .inr (10, [.ref tls, .ref o0, .ref p0, .int 1, .int y_tl_431_4])), (p0, .inr (7, [.ref p0r, .int x_p0_1])), (p0r, .inl (ct 2, 4000, .inr (.inl g_p0r))), (tls, .inl (ct 1, 4001, .inl k_tls31_5)), (o0, .inr (5, [.ref o0r, .int x_o0_1])), (o0r, .inl (ct 1, 60000, .inl k_o0r31_6))] _ := hP
    have hD : va_D A [(tl, .inr (10, [.ref tls, .ref o0, .ref p0, .int 1, .int y_tl_431_4])), (p0, .inr (7, [.ref p0r, .int x_p0_1])), (p0r, .inl (ct 2, 4000, .inr (.inl g_p0r))), (tls, .inl (ct 1, 4001, .inl k_tls31_5)), (o0, .inr (5, [.ref o0r, .int x_o0_1])), (o0r, .inl (ct 1, 60000, .inl k_o0r31_6))] := hD
    refine lv_aload_n hx hb dX10_turn_34 rfl (lv_at hl 0 rfl) ?_
    refine va_get (D := D) (ci := 10) (v := .ref o0) (C := RX10) (T := TX10) (N := 5) hx hb (htX10 hn) (fun _ h => h) hown hK hP 0 rfl rfl 1 (by decide) (hn.get mw_289 rfl) (fun _ h9 => h9) rfl dX10_turn_35 ?_
    refine lv_aload_n hx hb dX10_turn_38 rfl (lv_at hl 0 rfl) ?_
    refine va_get (D := D) (ci := 10) (v := .int y_tl_431_4) (C := RX10) (T := TX10) (N := 5) hx hb (htX10 hn) (fun _ h => h) hown hK hP 0 rfl rfl 4 (by decide) (hn.get mw_292 rfl) (fun _ h9 => h9) rfl dX10_turn_39 ?_
    refine va_putN (D := D) (ci := 5) (v := .int y_tl_431_4) (ty := .int) (C := RX5) (T := TX5) (N := 2) hx hb (htX5 hn) (fun _ h => h) tyX5 tyX5_ok nmX5 hown hK hP hD hS 4 rfl rfl 1 (by decide) (hn.get mw_134 rfl) (fun _ h9 => h9) rfl (by decide +kernel) rfl rfl (Nat.le_of_ble_eq_true rfl) dX10_turn_42 (fun H locs hP hD hS => ?_)
    have hP : va_P D vwCl [(tl, .inr (10, [.ref tls, .ref o0, .ref p0, .int 1, .int y_tl_431_4])), (p0, .inr (7, [.ref p0r, .int x_p0_1])), (p0r, .inl (ct 2, 4000, .inr (.inl g_p0r))), (tls, .inl (ct 1, 4001, .inl k_tls31_5)), (o0, .inr (5, [.ref o0r, .int y_tl_431_4])), (o0r, .inl (ct 1, 60000, .inl k_o0r31_6))] _ := hP
    have hD : va_D A [(tl, .inr (10, [.ref tls, .ref o0, .ref p0, .int 1, .int y_tl_431_4])), (p0, .inr (7, [.ref p0r, .int x_p0_1])), (p0r, .inl (ct 2, 4000, .inr (.inl g_p0r))), (tls, .inl (ct 1, 4001, .inl k_tls31_5)), (o0, .inr (5, [.ref o0r, .int y_tl_431_4])), (o0r, .inl (ct 1, 60000, .inl k_o0r31_6))] := hD
    refine lv_aload_n hx hb dX10_turn_45 rfl (lv_at hl 0 rfl) ?_
    refine va_get (D := D) (ci := 10) (v := .int y_tl_431_4) (C := RX10) (T := TX10) (N := 5) hx hb (htX10 hn) (fun _ h => h) hown hK hP 0 rfl rfl 4 (by decide) (hn.get mw_292 rfl) (fun _ h9 => h9) rfl dX10_turn_46 ?_
    exact endq_i hQ hx hb hr hlocks dX10_turn_49 rfl ((1 : Int32), y_tl_431_4, y_tl_431_4, k_o0r31_6, k_tls31_5) ⟨(rg_w hp31_7 (by decide)), (rg_w (show rg (1 : Int32) 1 1 from rg_l (by decide)) (by decide)), hp31_7, hp31_7, hp31_8⟩ hP hD hS [0, 1, 2, 4, 5, 3] rfl (by decide) rfl (Nat.le_of_ble_eq_true rfl) (Nat.le_of_ble_eq_true rfl)
  · have t20_2 := (i_nle c20_1)
    have r20_3 : rg y_tl_411_4 60001 160000 := rg_ltB t20_2 (show rg (60000 : Int32) 60000 60000 from rg_l (by decide)) hp11_7 (by decide)
    refine lv_iconst (v := (-1)) hx hb dX10_turn_23 (by decide) ?_
    exact endq_i hQ hx hb hr hlocks dX10_turn_24 rfl ((0 : Int32), y_tl_411_4, x_o0_1, k_o0r11_6, k_tls11_5) ⟨(rg_w (show rg ((-1) : Int32) (-1) (-1) from rg_l (by decide)) (by decide)), (rg_w (show rg (0 : Int32) 0 0 from rg_l (by decide)) (by decide)), (rg_w r20_3 (by decide)), (rg_w h_x_o0_1 (by decide)), hp11_8⟩ hP hD hS [0, 1, 2, 4, 5, 3] rfl (by decide) rfl (Nat.le_of_ble_eq_true rfl) (Nat.le_of_ble_eq_true rfl)
set_option maxHeartbeats 2000000 in
theorem c_X0_put (l : Launch) (D : va_G) (ct : Nat → ClassId) (cd : Nat) (v0 : Int32) (v1 : Int32) (v2 : Int32) (v3 : Int32) (v4 : Int32) (cds : Nat) (cdg : Nat) (f0 : Nat) (p0 : Nat) (x_cd_4 : Int32) (p0r : Nat) (x_p0_1 : Int32) (g_p0r : Nat → Int64) (g_cdg : Nat → Int32) (h_x_cd_4 : rg x_cd_4 0 1200000000) (h_x_p0_1 : rg x_p0_1 0 4000) (h_g_cdg : Rg g_cdg 4000 (-1) 3001) : KV (S := Int32 × (Nat → Int64) × (Nat → Int32)) l yX0_put cX0_put 7 none 1 20 D ct [.ref cd, .int v0, .int v1, .int v2, .int v3, .int v4] [(cd, .inr (0, [.ref cds, .ref cdg, .ref f0, .ref p0, .int x_cd_4])), (p0, .inr (7, [.ref p0r, .int x_p0_1])), (p0r, .inl (ct 2, 4000, .inr (.inl g_p0r))), (cdg, .inl (ct 1, 4000, .inl g_cdg))] 0 0 (fun (u : Int32 × (Nat → Int64) × (Nat → Int32)) => match u with | (y_cd_4, k_p0r, k_cdg) => rg y_cd_4 1 1200000001 ∧ Rg k_cdg 4000 (-1) 3001 ∧ (y_cd_4.toInt = x_cd_4.toInt + 1)) (fun (u : Int32 × (Nat → Int64) × (Nat → Int32)) => match u with | (y_cd_4, k_p0r, k_cdg) => [(cd, .inr (0, [.ref cds, .ref cdg, .ref f0, .ref p0, .int y_cd_4])), (p0, .inr (7, [.ref p0r, .int x_p0_1])), (p0r, .inl (ct 2, 4000, .inr (.inl k_p0r))), (cdg, .inl (ct 1, 4000, .inl k_cdg))]) := by
  refine KVq_of (by decide) (Nat.le_of_ble_eq_true rfl) (fun p e s m below meth c A Q C0 hA H locs hS hP hD hQ ls hl => ?_)
  obtain ⟨hx, hb, hr, hown, hin, hml, hlocks, hn, hK, hZ, hSK⟩ := C0
  have hl : lv_has ls 7 [(0, .ref cd), (1, .int v0), (2, .int v1), (3, .int v2), (4, .int v3), (5, .int v4)] := hl
  refine lv_aload_n hx hb dX0_put_0 rfl (lv_at hl 0 rfl) ?_
  refine va_get (D := D) (ci := 0) (v := .int x_cd_4) (C := RX0) (T := TX0) (N := 5) hx hb (htX0 hn) (fun _ h => h) hown hK hP 0 rfl rfl 4 (by decide) (hn.get mw_270 rfl) (fun _ h9 => h9) rfl dX0_put_1 ?_
  refine lv_sipush (v := 4000) hx hb dX0_put_4 (by decide) ?_
  have b68 : ∀ (j68_cp0r : Nat → Int64) (j68_ccdg : Nat → Int32) (H : Heap) (locs : List Loc) (ls : Array Slot), (Rg j68_ccdg 4000 (-1) 3001) → lv_has ls 7 [(0, .ref cd)] → va_P D vwCl [(cd, .inr (0, [.ref cds, .ref cdg, .ref f0, .ref p0, .int x_cd_4])), (p0, .inr (7, [.ref p0r, .int x_p0_1])), (p0r, .inl (ct 2, 4000, .inr (.inl j68_cp0r))), (cdg, .inl (ct 1, 4000, .inl j68_ccdg))] H → va_D A [(cd, .inr (0, [.ref cds, .ref cdg, .ref f0, .ref p0, .int x_cd_4])), (p0, .inr (7, [.ref p0r, .int x_p0_1])), (p0r, .inl (ct 2, 4000, .inr (.inl j68_cp0r))), (cdg, .inl (ct 1, 4000, .inl j68_ccdg))] → va_S A s.heap H locs → W p l e ({ frames := 1, cells := 0, slots := 0, locals := 20 }) s m [.ref cd, .int v0, .int v1, .int v2, .int v3, .int v4].toArray below meth c H locs 0 0 Q (F0 m 68 ls []) := by
    intro j68_cp0r j68_ccdg H locs ls hc68_1001 hl hP hD hS
    refine lv_aload_n hx hb dX0_put_68 rfl (lv_at hl 0 rfl) ?_
    refine lv_dup hx hb dX0_put_69 rfl ?_
    refine va_get (D := D) (ci := 0) (v := .int x_cd_4) (C := RX0) (T := TX0) (N := 5) hx hb (htX0 hn) (fun _ h => h) hown hK hP 0 rfl rfl 4 (by decide) (hn.get mw_270 rfl) (fun _ h9 => h9) rfl dX0_put_70 ?_
    refine lv_iconst (v := 1) hx hb dX0_put_73 (by decide) ?_
    refine lv_iadd hx hb dX0_put_74 ?_
    refine lv_topi (fun z74_1 ez74_1 => ?_)
    have r74_2 : rg z74_1 1 1200000001 := rg_add ez74_1 h_x_cd_4 (show rg (1 : Int32) 1 1 from rg_l (by decide)) (by decide)
    refine va_put (D := D) (ci := 0) (v := .int z74_1) (ty := .int) (C := RX0) (T := TX0) (N := 5) hx hb (htX0 hn) (fun _ h => h) tyX0 tyX0_ok nmX0 hown hK hP hD hS 0 rfl rfl 4 (by decide) (hn.get mw_270 rfl) (fun _ h9 => h9) rfl (by decide +kernel) rfl rfl (Nat.le_of_ble_eq_true rfl) dX0_put_75 (fun H locs hP hD hS => ?_)
    have hP : va_P D vwCl [(cd, .inr (0, [.ref cds, .ref cdg, .ref f0, .ref p0, .int z74_1])), (p0, .inr (7, [.ref p0r, .int x_p0_1])), (p0r, .inl (ct 2, 4000, .inr (.inl j68_cp0r))), (cdg, .inl (ct 1, 4000, .inl j68_ccdg))] _ := hP
    have hD : va_D A [(cd, .inr (0, [.ref cds, .ref cdg, .ref f0, .ref p0, .int z74_1])), (p0, .inr (7, [.ref p0r, .int x_p0_1])), (p0r, .inl (ct 2, 4000, .inr (.inl j68_cp0r))), (cdg, .inl (ct 1, 4000, .inl j68_ccdg))] := hD
    exact endq_v hQ hx hb hr hlocks dX0_put_78 (z74_1, j68_cp0r, j68_ccdg) ⟨r74_2, hc68_1001, (show z74_1.toInt = x_cd_4.toInt + 1 by have q0 := h_x_cd_4.1; have q1 := h_x_cd_4.2; have q2 := r74_2.1; have q3 := r74_2.2; have q4 := (eq_add ez74_1 h_x_cd_4 (show rg (1 : Int32) 1 1 from rg_l (by decide)) (by decide)); have q5 := (show rg (1 : Int32) 1 1 from rg_l (by decide)).1; have q6 := (show rg (1 : Int32) 1 1 from rg_l (by decide)).2; omega)⟩ hP hD hS [0, 1, 2, 3] rfl (by decide) rfl (Nat.le_of_ble_eq_true rfl) (Nat.le_of_ble_eq_true rfl)
  refine lv_icmp_ge (tgt := 68) hx hb dX0_put_7 (by decide) (fun c7_1 => ?_) (fun c7_1 => ?_)
  · have t7_2 := (i_le c7_1)
    have r7_3 : rg x_cd_4 4000 1200000000 := rg_leB t7_2 (show rg (4000 : Int32) 4000 4000 from rg_l (by decide)) h_x_cd_4 (by decide)
    exact b68 g_p0r g_cdg H locs ls h_g_cdg (lv_sub hl [0] rfl) hP hD hS
  · have t7_2 := (i_nle c7_1)
    have r7_3 : rg x_cd_4 0 3999 := rg_ltA t7_2 h_x_cd_4 (show rg (4000 : Int32) 4000 4000 from rg_l (by decide)) (by decide)
    refine lv_iload hx hb dX0_put_10 (lv_at hl 4 rfl) ?_
    refine lv_ldc (v := 65535) hx hb hown (hn.get mw_849 rfl) dX0_put_12 ?_
    refine lv_iand hx hb dX0_put_14 ?_
    refine lv_topi (fun z14_1 ez14_1 => ?_)
    have r14_2 : rg z14_1 0 65535 := rg_andr ez14_1 (show rg (65535 : Int32) 65535 65535 from rg_l (by decide)) (by decide)
    refine lv_bipush (v := 16) hx hb dX0_put_15 (by decide) ?_
    refine lv_ishl hx hb dX0_put_17 ?_
    refine lv_topi (fun z17_1 ez17_1 => ?_)
    refine lv_iload_n hx hb dX0_put_18 rfl (lv_at hl 3 rfl) ?_
    refine lv_bipush (v := 12) hx hb dX0_put_19 (by decide) ?_
    refine lv_ishl hx hb dX0_put_21 ?_
    refine lv_topi (fun z21_1 ez21_1 => ?_)
    refine lv_ior hx hb dX0_put_22 ?_
    refine lv_topi (fun z22_1 ez22_1 => ?_)
    refine lv_iload_n hx hb dX0_put_23 rfl (lv_at hl 2 rfl) ?_
    refine lv_bipush (v := 8) hx hb dX0_put_24 (by decide) ?_
    refine lv_ishl hx hb dX0_put_26 ?_
    refine lv_topi (fun z26_1 ez26_1 => ?_)
    refine lv_ior hx hb dX0_put_27 ?_
    refine lv_topi (fun z27_1 ez27_1 => ?_)
    refine lv_iload_n hx hb dX0_put_28 rfl (lv_at hl 1 rfl) ?_
    refine lv_ior hx hb dX0_put_29 ?_
    refine lv_topi (fun z29_1 ez29_1 => ?_)
    refine lv_istore (lv' := [(6, .int z29_1), (0, .ref cd), (1, .int v0), (2, .int v1), (3, .int v2), (4, .int v3), (5, .int v4)]) hx hb dX0_put_30 hl (by decide) rfl (fun ls hl => ?_)
    refine lv_aload_n hx hb dX0_put_32 rfl (lv_at hl 1 rfl) ?_
    refine va_get (D := D) (ci := 0) (v := .ref p0) (C := RX0) (T := TX0) (N := 5) hx hb (htX0 hn) (fun _ h => h) hown hK hP 0 rfl rfl 3 (by decide) (hn.get mw_269 rfl) (fun _ h9 => h9) rfl dX0_put_33 ?_
    refine va_getN (D := D) (ci := 7) (v := .ref p0r) (C := RX7) (T := TX7) (N := 2) hx hb (htX7 hn) (fun _ h => h) hown hK hP 1 rfl rfl 0 (by decide) (hn.get mw_224 rfl) (fun _ h9 => h9) rfl dX0_put_36 ?_
    refine lv_aload_n hx hb dX0_put_39 rfl (lv_at hl 1 rfl) ?_
    refine va_get (D := D) (ci := 0) (v := .int x_cd_4) (C := RX0) (T := TX0) (N := 5) hx hb (htX0 hn) (fun _ h => h) hown hK hP 0 rfl rfl 4 (by decide) (hn.get mw_270 rfl) (fun _ h9 => h9) rfl dX0_put_40 ?_
    refine lv_iload hx hb dX0_put_43 (lv_at hl 6 rfl) ?_
    refine lv_i2l hx hb dX0_put_45 rfl ?_
    refine lv_topl (fun z45_1 ez45_1 => ?_)
    have r45_2 : rl z45_1 (-2147483648) 2147483647 := rl_i2l ez45_1 (rg_any v4)
    refine lv_bipush (v := 32) hx hb dX0_put_46 (by decide) ?_
    refine lv_lshl hx hb dX0_put_48 rfl ?_
    refine lv_topl (fun z48_1 ez48_1 => ?_)
    refine lv_iload hx hb dX0_put_49 (lv_at hl 0 rfl) ?_
    refine lv_i2l hx hb dX0_put_51 rfl ?_
    refine lv_topl (fun z51_1 ez51_1 => ?_)
    have r51_2 : rl z51_1 (-2147483648) 2147483647 := rl_i2l ez51_1 (rg_any z29_1)
    refine lv_ldc2 (v := 4294967295) hx hb hown (hn.get mw_850 rfl) dX0_put_52 ?_
    refine lv_land hx hb dX0_put_55 ?_
    refine lv_topl (fun z55_1 ez55_1 => ?_)
    have r55_2 : rl z55_1 0 4294967295 := rgL_andr ez55_1 (show rl (4294967295 : Int64) 4294967295 4294967295 from rl_l (by decide)) (by decide)
    refine lv_lor hx hb dX0_put_56 ?_
    refine lv_topl (fun z56_1 ez56_1 => ?_)
    have hi57_1 : vp_in x_cd_4 4000 := (in_rg r7_3 (by decide))
    refine va_last hx hb hK hP hD hS 2 2 rfl rfl hi57_1 dX0_put_57 (fun H locs hP hD hS => ?_)
    have hP : va_P D vwCl [(cd, .inr (0, [.ref cds, .ref cdg, .ref f0, .ref p0, .int x_cd_4])), (p0, .inr (7, [.ref p0r, .int x_p0_1])), (p0r, .inl (ct 2, 4000, .inr (.inl (vp_updL g_p0r x_cd_4.toNatClampNeg z56_1)))), (cdg, .inl (ct 1, 4000, .inl g_cdg))] _ := hP
    have hD : va_D A [(cd, .inr (0, [.ref cds, .ref cdg, .ref f0, .ref p0, .int x_cd_4])), (p0, .inr (7, [.ref p0r, .int x_p0_1])), (p0r, .inl (ct 2, 4000, .inr (.inl (vp_updL g_p0r x_cd_4.toNatClampNeg z56_1)))), (cdg, .inl (ct 1, 4000, .inl g_cdg))] := hD
    obtain ⟨f57_2, ef57_2⟩ : ∃ z, z = (vp_updL g_p0r x_cd_4.toNatClampNeg z56_1) := ⟨_, rfl⟩
    rw [← ef57_2] at hP hD
    refine lv_aload_n hx hb dX0_put_58 rfl (lv_at hl 1 rfl) ?_
    refine va_get (D := D) (ci := 0) (v := .ref cdg) (C := RX0) (T := TX0) (N := 5) hx hb (htX0 hn) (fun _ h => h) hown hK hP 0 rfl rfl 1 (by decide) (hn.get mw_267 rfl) (fun _ h9 => h9) rfl dX0_put_59 ?_
    refine lv_aload_n hx hb dX0_put_62 rfl (lv_at hl 1 rfl) ?_
    refine va_get (D := D) (ci := 0) (v := .int x_cd_4) (C := RX0) (T := TX0) (N := 5) hx hb (htX0 hn) (fun _ h => h) hown hK hP 0 rfl rfl 4 (by decide) (hn.get mw_270 rfl) (fun _ h9 => h9) rfl dX0_put_63 ?_
    refine lv_iconst (v := (-1)) hx hb dX0_put_66 (by decide) ?_
    have hi67_1 : vp_in x_cd_4 4000 := (in_rg r7_3 (by decide))
    refine va_iast hx hb hK hP hD hS 3 1 rfl rfl hi67_1 dX0_put_67 (fun H locs hP hD hS => ?_)
    have hP : va_P D vwCl [(cd, .inr (0, [.ref cds, .ref cdg, .ref f0, .ref p0, .int x_cd_4])), (p0, .inr (7, [.ref p0r, .int x_p0_1])), (p0r, .inl (ct 2, 4000, .inr (.inl f57_2))), (cdg, .inl (ct 1, 4000, .inl (upd g_cdg x_cd_4.toNatClampNeg (-1))))] _ := hP
    have hD : va_D A [(cd, .inr (0, [.ref cds, .ref cdg, .ref f0, .ref p0, .int x_cd_4])), (p0, .inr (7, [.ref p0r, .int x_p0_1])), (p0r, .inl (ct 2, 4000, .inr (.inl f57_2))), (cdg, .inl (ct 1, 4000, .inl (upd g_cdg x_cd_4.toNatClampNeg (-1))))] := hD
    obtain ⟨f67_2, ef67_2⟩ : ∃ z, z = (upd g_cdg x_cd_4.toNatClampNeg (-1)) := ⟨_, rfl⟩
    rw [← ef67_2] at hP hD
    have hc67_3 : Rg f67_2 4000 (-1) 3001 := Rg_upd ef67_2 h_g_cdg (rg_w (show rg ((-1) : Int32) (-1) (-1) from rg_l (by decide)) (by decide))
    exact b68 f57_2 f67_2 H locs ls hc67_3 (lv_sub hl [1] rfl) hP hD hS
set_option maxHeartbeats 2000000 in
theorem c_X0_putGoing (l : Launch) (D : va_G) (ct : Nat → ClassId) (cd : Nat) (v0 : Int32) (v1 : Int32) (v2 : Int32) (v3 : Int32) (v4 : Int32) (cds : Nat) (cdg : Nat) (f0 : Nat) (p0 : Nat) (x_cd_4 : Int32) (p0r : Nat) (x_p0_1 : Int32) (g_p0r : Nat → Int64) (g_cdg : Nat → Int32) (h_v4 : rg v4 0 3001) (h_x_cd_4 : rg x_cd_4 0 1199999990) (h_x_p0_1 : rg x_p0_1 0 4000) (h_g_cdg : Rg g_cdg 4000 (-1) 3001) : KV (S := Int32 × (Nat → Int64) × (Nat → Int32)) l yX0_putGoing cX0_putGoing 6 none 2 46 D ct [.ref cd, .int v0, .int v1, .int v2, .int v3, .int v4] [(cd, .inr (0, [.ref cds, .ref cdg, .ref f0, .ref p0, .int x_cd_4])), (p0, .inr (7, [.ref p0r, .int x_p0_1])), (p0r, .inl (ct 2, 4000, .inr (.inl g_p0r))), (cdg, .inl (ct 1, 4000, .inl g_cdg))] 0 0 (fun (u : Int32 × (Nat → Int64) × (Nat → Int32)) => match u with | (y_cd_4, k_p0r, k_cdg) => rg y_cd_4 1 1200000001 ∧ Rg k_cdg 4000 (-1) 3001 ∧ (y_cd_4.toInt = x_cd_4.toInt + 1)) (fun (u : Int32 × (Nat → Int64) × (Nat → Int32)) => match u with | (y_cd_4, k_p0r, k_cdg) => [(cd, .inr (0, [.ref cds, .ref cdg, .ref f0, .ref p0, .int y_cd_4])), (p0, .inr (7, [.ref p0r, .int x_p0_1])), (p0r, .inl (ct 2, 4000, .inr (.inl k_p0r))), (cdg, .inl (ct 1, 4000, .inl k_cdg))]) := by
  refine KVq_of (by decide) (Nat.le_of_ble_eq_true rfl) (fun p e s m below meth c A Q C0 hA H locs hS hP hD hQ ls hl => ?_)
  obtain ⟨hx, hb, hr, hown, hin, hml, hlocks, hn, hK, hZ, hSK⟩ := C0
  have hl : lv_has ls 6 [(0, .ref cd), (1, .int v0), (2, .int v1), (3, .int v2), (4, .int v3), (5, .int v4)] := hl
  refine lv_aload_n hx hb dX0_putGoing_0 rfl (lv_at hl 0 rfl) ?_
  refine lv_iload_n hx hb dX0_putGoing_1 rfl (lv_at hl 1 rfl) ?_
  refine lv_iload_n hx hb dX0_putGoing_2 rfl (lv_at hl 2 rfl) ?_
  refine lv_iload_n hx hb dX0_putGoing_3 rfl (lv_at hl 3 rfl) ?_
  refine lv_iconst (v := 0) hx hb dX0_putGoing_4 (by decide) ?_
  refine lv_iload hx hb dX0_putGoing_5 (lv_at hl 4 rfl) ?_
  refine go_v (k1 := 0) (n1 := 0) (wr := []) [0, 1, 2, 3] [] (rn_V (As := [.int v0, .int v1, .int v2, .int 0, .int v3]) (rest := []) (c_X0_put l D ct cd v0 v1 v2 (0 : Int32) v3 cds cdg f0 p0 x_cd_4 p0r x_p0_1 g_p0r g_cdg (rg_w h_x_cd_4 (by decide)) h_x_p0_1 h_g_cdg _) (cb_of (n := 5) hn mw_848 mw_9 mw_845 mhX0_put ⟨(Nat.le_of_ble_eq_true rfl), (Nat.le_of_ble_eq_true rfl)⟩) hx hb hml hown hn hK hSK hZ hS mw_847 mw_s75 (ci := 0) (q0 := 0) rfl rfl rfl rfl hl.1 (Nat.le_of_ble_eq_true rfl) dX0_putGoing_7 ⟨(Nat.le_of_ble_eq_true rfl), (Nat.le_of_ble_eq_true rfl)⟩) hP hD hS hA rfl rfl (by decide) (by decide) (by decide) (Nat.le_of_ble_eq_true rfl) (Nat.le_of_ble_eq_true rfl) (fun u7_2 H locs hp7_3 hP hD hS => ?_)
  obtain ⟨y_cd_47_4, k_p0r7_5, k_cdg7_6⟩ := u7_2
  obtain ⟨hp7_7, hp7_8, hp7_9⟩ := hp7_3
  have hp7_7 : rg y_cd_47_4 1 1200000001 := hp7_7
  have hp7_9 : y_cd_47_4.toInt = x_cd_4.toInt + 1 := hp7_9
  have hP : va_P D vwCl [(cd, .inr (0, [.ref cds, .ref cdg, .ref f0, .ref p0, .int y_cd_47_4])), (p0, .inr (7, [.ref p0r, .int x_p0_1])), (p0r, .inl (ct 2, 4000, .inr (.inl k_p0r7_5))), (cdg, .inl (ct 1, 4000, .inl k_cdg7_6))] _ := hP
  have hD : va_D A [(cd, .inr (0, [.ref cds, .ref cdg, .ref f0, .ref p0, .int y_cd_47_4])), (p0, .inr (7, [.ref p0r, .int x_p0_1])), (p0r, .inl (ct 2, 4000, .inr (.inl k_p0r7_5))), (cdg, .inl (ct 1, 4000, .inl k_cdg7_6))] := hD
  refine lv_aload_n hx hb dX0_putGoing_10 rfl (lv_at hl 0 rfl) ?_
  refine va_get (D := D) (ci := 0) (v := .int y_cd_47_4) (C := RX0) (T := TX0) (N := 5) hx hb (htX0 hn) (fun _ h => h) hown hK hP 0 rfl rfl 4 (by decide) (hn.get mw_270 rfl) (fun _ h9 => h9) rfl dX0_putGoing_11 ?_
  refine lv_sipush (v := 4000) hx hb dX0_putGoing_14 (by decide) ?_
  refine lv_icmp_gt (tgt := 33) hx hb dX0_putGoing_17 (by decide) (fun c17_1 => ?_) (fun c17_1 => ?_)
  · have t17_2 := (i_lt c17_1)
    have r17_3 : rg y_cd_47_4 4001 1200000001 := rg_ltB t17_2 (show rg (4000 : Int32) 4000 4000 from rg_l (by decide)) hp7_7 (by decide)
    exact endq_v hQ hx hb hr hlocks dX0_putGoing_33 (y_cd_47_4, k_p0r7_5, k_cdg7_6) ⟨(rg_w r17_3 (by decide)), hp7_8, (show y_cd_47_4.toInt = x_cd_4.toInt + 1 by have q0 := h_x_cd_4.1; have q1 := h_x_cd_4.2; have q2 := r17_3.1; have q3 := r17_3.2; have q4 := (show rg (4000 : Int32) 4000 4000 from rg_l (by decide)).1; have q5 := (show rg (4000 : Int32) 4000 4000 from rg_l (by decide)).2; have q6 := hp7_9; have q7 := t17_2; omega)⟩ hP hD hS [0, 1, 2, 3] rfl (by decide) rfl (Nat.le_of_ble_eq_true rfl) (Nat.le_of_ble_eq_true rfl)
  · have t17_2 := (i_nlt c17_1)
    have r17_3 : rg y_cd_47_4 1 4000 := rg_leA t17_2 hp7_7 (show rg (4000 : Int32) 4000 4000 from rg_l (by decide)) (by decide)
    refine lv_aload_n hx hb dX0_putGoing_20 rfl (lv_at hl 0 rfl) ?_
    refine va_get (D := D) (ci := 0) (v := .ref cdg) (C := RX0) (T := TX0) (N := 5) hx hb (htX0 hn) (fun _ h => h) hown hK hP 0 rfl rfl 1 (by decide) (hn.get mw_267 rfl) (fun _ h9 => h9) rfl dX0_putGoing_21 ?_
    refine lv_aload_n hx hb dX0_putGoing_24 rfl (lv_at hl 0 rfl) ?_
    refine va_get (D := D) (ci := 0) (v := .int y_cd_47_4) (C := RX0) (T := TX0) (N := 5) hx hb (htX0 hn) (fun _ h => h) hown hK hP 0 rfl rfl 4 (by decide) (hn.get mw_270 rfl) (fun _ h9 => h9) rfl dX0_putGoing_25 ?_
    refine lv_iconst (v := 1) hx hb dX0_putGoing_28 (by decide) ?_
    refine lv_isub hx hb dX0_putGoing_29 ?_
    refine lv_topi (fun z29_1 ez29_1 => ?_)
    have r29_2 : rg z29_1 0 3999 := rg_sub ez29_1 r17_3 (show rg (1 : Int32) 1 1 from rg_l (by decide)) (by decide)
    refine lv_iload hx hb dX0_putGoing_30 (lv_at hl 5 rfl) ?_
    have hi32_1 : vp_in z29_1 4000 := (in_rg r29_2 (by decide))
    refine va_iast hx hb hK hP hD hS 3 1 rfl rfl hi32_1 dX0_putGoing_32 (fun H locs hP hD hS => ?_)
    have hP : va_P D vwCl [(cd, .inr (0, [.ref cds, .ref cdg, .ref f0, .ref p0, .int y_cd_47_4])), (p0, .inr (7, [.ref p0r, .int x_p0_1])), (p0r, .inl (ct 2, 4000, .inr (.inl k_p0r7_5))), (cdg, .inl (ct 1, 4000, .inl (upd k_cdg7_6 z29_1.toNatClampNeg v4)))] _ := hP
    have hD : va_D A [(cd, .inr (0, [.ref cds, .ref cdg, .ref f0, .ref p0, .int y_cd_47_4])), (p0, .inr (7, [.ref p0r, .int x_p0_1])), (p0r, .inl (ct 2, 4000, .inr (.inl k_p0r7_5))), (cdg, .inl (ct 1, 4000, .inl (upd k_cdg7_6 z29_1.toNatClampNeg v4)))] := hD
    obtain ⟨f32_2, ef32_2⟩ : ∃ z, z = (upd k_cdg7_6 z29_1.toNatClampNeg v4) := ⟨_, rfl⟩
    rw [← ef32_2] at hP hD
    have hc32_3 : Rg f32_2 4000 (-1) 3001 := Rg_upd ef32_2 hp7_8 (rg_w h_v4 (by decide))
    exact endq_v hQ hx hb hr hlocks dX0_putGoing_33 (y_cd_47_4, k_p0r7_5, f32_2) ⟨(rg_w r17_3 (by decide)), hc32_3, (show y_cd_47_4.toInt = x_cd_4.toInt + 1 by have q0 := h_x_cd_4.1; have q1 := h_x_cd_4.2; have q2 := r17_3.1; have q3 := r17_3.2; have q4 := (show rg (4000 : Int32) 4000 4000 from rg_l (by decide)).1; have q5 := (show rg (4000 : Int32) 4000 4000 from rg_l (by decide)).2; have q6 := hp7_9; have q7 := t17_2; omega)⟩ hP hD hS [0, 1, 2, 3] rfl (by decide) rfl (Nat.le_of_ble_eq_true rfl) (Nat.le_of_ble_eq_true rfl)
set_option maxHeartbeats 2000000 in
theorem c_X0_readCode (l : Launch) (D : va_G) (ct : Nat → ClassId) (v0 : Int32)  : KI (S := Unit) l yX0_readCode cX0_readCode 1 (some .int) 1 20 D ct [.int v0] [] 0 0 (fun (r : Int32) (_ : Unit) => rg r 32 48) (fun (_ : Unit) => []) := by
  refine KIq_of (by decide) (Nat.le_of_ble_eq_true rfl) (fun p e s m below meth c A Q C0 hA H locs hS hP hD hQ ls hl => ?_)
  obtain ⟨hx, hb, hr, hown, hin, hml, hlocks, hn, hK, hZ, hSK⟩ := C0
  have hl : lv_has ls 1 [(0, .int v0)] := hl
  refine lv_iload_n hx hb dX0_readCode_0 rfl (lv_at hl 0 rfl) ?_
  refine lv_iconst (v := 4) hx hb dX0_readCode_1 (by decide) ?_
  refine lv_icmp_ne (tgt := 10) hx hb dX0_readCode_2 (by decide) (fun c2_1 => ?_) (fun c2_1 => ?_)
  · have t2_2 := (i_ne c2_1)
    refine lv_iload_n hx hb dX0_readCode_10 rfl (lv_at hl 0 rfl) ?_
    refine lv_iconst (v := 2) hx hb dX0_readCode_11 (by decide) ?_
    refine lv_icmp_ne (tgt := 20) hx hb dX0_readCode_12 (by decide) (fun c12_1 => ?_) (fun c12_1 => ?_)
    · have t12_2 := (i_ne c12_1)
      refine lv_bipush (v := 48) hx hb dX0_readCode_20 (by decide) ?_
      exact endq_i hQ hx hb hr hlocks dX0_readCode_22 rfl () (rg_w (show rg (48 : Int32) 48 48 from rg_l (by decide)) (by decide)) hP hD hS [] rfl (by decide) rfl (Nat.le_of_ble_eq_true rfl) (Nat.le_of_ble_eq_true rfl)
    · have t12_2 := (i_eq c12_1)
      have r12_3 : rg v0 2 2 := rg_eqA t12_2 (rg_any v0) (show rg (2 : Int32) 2 2 from rg_l (by decide)) (by decide)
      refine lv_bipush (v := 40) hx hb dX0_readCode_15 (by decide) ?_
      refine lv_goto (tgt := 22) hx hb dX0_readCode_17 (by decide) ?_
      exact endq_i hQ hx hb hr hlocks dX0_readCode_22 rfl () (rg_w (show rg (40 : Int32) 40 40 from rg_l (by decide)) (by decide)) hP hD hS [] rfl (by decide) rfl (Nat.le_of_ble_eq_true rfl) (Nat.le_of_ble_eq_true rfl)
  · have t2_2 := (i_eq c2_1)
    have r2_3 : rg v0 4 4 := rg_eqA t2_2 (rg_any v0) (show rg (4 : Int32) 4 4 from rg_l (by decide)) (by decide)
    refine lv_bipush (v := 32) hx hb dX0_readCode_5 (by decide) ?_
    refine lv_goto (tgt := 22) hx hb dX0_readCode_7 (by decide) ?_
    exact endq_i hQ hx hb hr hlocks dX0_readCode_22 rfl () (rg_w (show rg (32 : Int32) 32 32 from rg_l (by decide)) (by decide)) hP hD hS [] rfl (by decide) rfl (Nat.le_of_ble_eq_true rfl) (Nat.le_of_ble_eq_true rfl)
set_option maxHeartbeats 2000000 in
theorem c_X0_slot (l : Launch) (D : va_G) (ct : Nat → ClassId) (v0 : Int32)  : KI (S := Unit) l yX0_slot cX0_slot 1 (some .int) 1 20 D ct [.int v0] [] 0 0 (fun (r : Int32) (_ : Unit) => True) (fun (_ : Unit) => []) := by
  refine KIq_of (by decide) (Nat.le_of_ble_eq_true rfl) (fun p e s m below meth c A Q C0 hA H locs hS hP hD hQ ls hl => ?_)
  obtain ⟨hx, hb, hr, hown, hin, hml, hlocks, hn, hK, hZ, hSK⟩ := C0
  have hl : lv_has ls 1 [(0, .int v0)] := hl
  refine lv_bipush (v := (-8)) hx hb dX0_slot_0 (by decide) ?_
  refine lv_bipush (v := 8) hx hb dX0_slot_2 (by decide) ?_
  refine lv_iload_n hx hb dX0_slot_4 rfl (lv_at hl 0 rfl) ?_
  refine lv_imul hx hb dX0_slot_5 ?_
  refine lv_topi (fun z5_1 ez5_1 => ?_)
  refine lv_isub hx hb dX0_slot_6 ?_
  refine lv_topi (fun z6_1 ez6_1 => ?_)
  exact endq_i hQ hx hb hr hlocks dX0_slot_7 rfl () trivial hP hD hS [] rfl (by decide) rfl (Nat.le_of_ble_eq_true rfl) (Nat.le_of_ble_eq_true rfl)
set_option maxHeartbeats 2000000 in
theorem c_X0_codePush (l : Launch) (D : va_G) (ct : Nat → ClassId) (cd : Nat) (v0 : Int32) (cds : Nat) (cdg : Nat) (f0 : Nat) (p0 : Nat) (x_cd_4 : Int32) (p0r : Nat) (x_p0_1 : Int32) (g_p0r : Nat → Int64) (g_cdg : Nat → Int32) (h_x_cd_4 : rg x_cd_4 0 1199999980) (h_x_p0_1 : rg x_p0_1 0 4000) (h_g_cdg : Rg g_cdg 4000 (-1) 3001) : KV (S := Int32 × (Nat → Int64) × (Nat → Int32)) l yX0_codePush cX0_codePush 2 none 2 46 D ct [.ref cd, .int v0] [(cd, .inr (0, [.ref cds, .ref cdg, .ref f0, .ref p0, .int x_cd_4])), (p0, .inr (7, [.ref p0r, .int x_p0_1])), (p0r, .inl (ct 2, 4000, .inr (.inl g_p0r))), (cdg, .inl (ct 1, 4000, .inl g_cdg))] 0 0 (fun (u : Int32 × (Nat → Int64) × (Nat → Int32)) => match u with | (y_cd_4, k_p0r, k_cdg) => rg y_cd_4 1 1200000001 ∧ Rg k_cdg 4000 (-1) 3001 ∧ (y_cd_4.toInt = x_cd_4.toInt + 1)) (fun (u : Int32 × (Nat → Int64) × (Nat → Int32)) => match u with | (y_cd_4, k_p0r, k_cdg) => [(cd, .inr (0, [.ref cds, .ref cdg, .ref f0, .ref p0, .int y_cd_4])), (p0, .inr (7, [.ref p0r, .int x_p0_1])), (p0r, .inl (ct 2, 4000, .inr (.inl k_p0r))), (cdg, .inl (ct 1, 4000, .inl k_cdg))]) := by
  refine KVq_of (by decide) (Nat.le_of_ble_eq_true rfl) (fun p e s m below meth c A Q C0 hA H locs hS hP hD hQ ls hl => ?_)
  obtain ⟨hx, hb, hr, hown, hin, hml, hlocks, hn, hK, hZ, hSK⟩ := C0
  have hl : lv_has ls 2 [(0, .ref cd), (1, .int v0)] := hl
  refine lv_aload_n hx hb dX0_codePush_0 rfl (lv_at hl 0 rfl) ?_
  refine lv_bipush (v := 123) hx hb dX0_codePush_1 (by decide) ?_
  refine lv_bipush (v := 10) hx hb dX0_codePush_3 (by decide) ?_
  refine lv_iconst (v := 0) hx hb dX0_codePush_5 (by decide) ?_
  refine lv_iload_n hx hb dX0_codePush_6 rfl (lv_at hl 1 rfl) ?_
  refine go_i (k1 := 0) (n1 := 0) (wr := [(cd, .inr (0, [.ref cds, .ref cdg, .ref f0, .ref p0, .int x_cd_4])), (p0, .inr (7, [.ref p0r, .int x_p0_1])), (p0r, .inl (ct 2, 4000, .inr (.inl g_p0r))), (cdg, .inl (ct 1, 4000, .inl g_cdg))]) [] [0, 1, 2, 3] (rn_S (As := [.int v0]) (rest := [.int 0, .int 10, .int 123, .ref cd]) (c_X0_slot l D ct v0  _) (cb_of (n := 1) hn mw_869 mw_9 mw_867 mhX0_slot ⟨(Nat.le_of_ble_eq_true rfl), (Nat.le_of_ble_eq_true rfl)⟩) hx hb hml hown hn hK hSK hZ hS mw_868 rfl hl.1 (Nat.le_of_ble_eq_true rfl) dX0_codePush_7 ⟨(Nat.le_of_ble_eq_true rfl), (Nat.le_of_ble_eq_true rfl)⟩) hP hD hS hA rfl rfl (by decide) (by decide) (by decide) (Nat.le_of_ble_eq_true rfl) (Nat.le_of_ble_eq_true rfl) (fun r7_1 u7_2 H locs hp7_3 hP hD hS => ?_)
  have hP : va_P D vwCl [(cd, .inr (0, [.ref cds, .ref cdg, .ref f0, .ref p0, .int x_cd_4])), (p0, .inr (7, [.ref p0r, .int x_p0_1])), (p0r, .inl (ct 2, 4000, .inr (.inl g_p0r))), (cdg, .inl (ct 1, 4000, .inl g_cdg))] _ := hP
  have hD : va_D A [(cd, .inr (0, [.ref cds, .ref cdg, .ref f0, .ref p0, .int x_cd_4])), (p0, .inr (7, [.ref p0r, .int x_p0_1])), (p0r, .inl (ct 2, 4000, .inr (.inl g_p0r))), (cdg, .inl (ct 1, 4000, .inl g_cdg))] := hD
  refine lv_iconst (v := 0) hx hb dX0_codePush_10 (by decide) ?_
  refine go_v (k1 := 0) (n1 := 0) (wr := []) [0, 1, 2, 3] [] (rn_V (As := [.int 123, .int 10, .int 0, .int r7_1, .int 0]) (rest := []) (c_X0_put l D ct cd (123 : Int32) (10 : Int32) (0 : Int32) r7_1 (0 : Int32) cds cdg f0 p0 x_cd_4 p0r x_p0_1 g_p0r g_cdg (rg_w h_x_cd_4 (by decide)) h_x_p0_1 h_g_cdg _) (cb_of (n := 5) hn mw_848 mw_9 mw_845 mhX0_put ⟨(Nat.le_of_ble_eq_true rfl), (Nat.le_of_ble_eq_true rfl)⟩) hx hb hml hown hn hK hSK hZ hS mw_847 mw_s75 (ci := 0) (q0 := 0) rfl rfl rfl rfl hl.1 (Nat.le_of_ble_eq_true rfl) dX0_codePush_11 ⟨(Nat.le_of_ble_eq_true rfl), (Nat.le_of_ble_eq_true rfl)⟩) hP hD hS hA rfl rfl (by decide) (by decide) (by decide) (Nat.le_of_ble_eq_true rfl) (Nat.le_of_ble_eq_true rfl) (fun u11_2 H locs hp11_3 hP hD hS => ?_)
  obtain ⟨y_cd_411_4, k_p0r11_5, k_cdg11_6⟩ := u11_2
  obtain ⟨hp11_7, hp11_8, hp11_9⟩ := hp11_3
  have hp11_7 : rg y_cd_411_4 1 1200000001 := hp11_7
  have hp11_9 : y_cd_411_4.toInt = x_cd_4.toInt + 1 := hp11_9
  have hP : va_P D vwCl [(cd, .inr (0, [.ref cds, .ref cdg, .ref f0, .ref p0, .int y_cd_411_4])), (p0, .inr (7, [.ref p0r, .int x_p0_1])), (p0r, .inl (ct 2, 4000, .inr (.inl k_p0r11_5))), (cdg, .inl (ct 1, 4000, .inl k_cdg11_6))] _ := hP
  have hD : va_D A [(cd, .inr (0, [.ref cds, .ref cdg, .ref f0, .ref p0, .int y_cd_411_4])), (p0, .inr (7, [.ref p0r, .int x_p0_1])), (p0r, .inl (ct 2, 4000, .inr (.inl k_p0r11_5))), (cdg, .inl (ct 1, 4000, .inl k_cdg11_6))] := hD
  exact endq_v hQ hx hb hr hlocks dX0_codePush_14 (y_cd_411_4, k_p0r11_5, k_cdg11_6) ⟨hp11_7, hp11_8, (show y_cd_411_4.toInt = x_cd_4.toInt + 1 by have q0 := h_x_cd_4.1; have q1 := h_x_cd_4.2; have q2 := hp11_7.1; have q3 := hp11_7.2; have q4 := hp11_9; omega)⟩ hP hD hS [0, 1, 2, 3] rfl (by decide) rfl (Nat.le_of_ble_eq_true rfl) (Nat.le_of_ble_eq_true rfl)
set_option maxHeartbeats 2000000 in
theorem c_X0_codePull (l : Launch) (D : va_G) (ct : Nat → ClassId) (cd : Nat) (v0 : Int32) (cds : Nat) (cdg : Nat) (f0 : Nat) (p0 : Nat) (x_cd_4 : Int32) (p0r : Nat) (x_p0_1 : Int32) (g_p0r : Nat → Int64) (g_cdg : Nat → Int32) (h_x_cd_4 : rg x_cd_4 0 1199999980) (h_x_p0_1 : rg x_p0_1 0 4000) (h_g_cdg : Rg g_cdg 4000 (-1) 3001) : KV (S := Int32 × (Nat → Int64) × (Nat → Int32)) l yX0_codePull cX0_codePull 2 none 2 46 D ct [.ref cd, .int v0] [(cd, .inr (0, [.ref cds, .ref cdg, .ref f0, .ref p0, .int x_cd_4])), (p0, .inr (7, [.ref p0r, .int x_p0_1])), (p0r, .inl (ct 2, 4000, .inr (.inl g_p0r))), (cdg, .inl (ct 1, 4000, .inl g_cdg))] 0 0 (fun (u : Int32 × (Nat → Int64) × (Nat → Int32)) => match u with | (y_cd_4, k_p0r, k_cdg) => rg y_cd_4 1 1200000001 ∧ Rg k_cdg 4000 (-1) 3001 ∧ (y_cd_4.toInt = x_cd_4.toInt + 2)) (fun (u : Int32 × (Nat → Int64) × (Nat → Int32)) => match u with | (y_cd_4, k_p0r, k_cdg) => [(cd, .inr (0, [.ref cds, .ref cdg, .ref f0, .ref p0, .int y_cd_4])), (p0, .inr (7, [.ref p0r, .int x_p0_1])), (p0r, .inl (ct 2, 4000, .inr (.inl k_p0r))), (cdg, .inl (ct 1, 4000, .inl k_cdg))]) := by
  refine KVq_of (by decide) (Nat.le_of_ble_eq_true rfl) (fun p e s m below meth c A Q C0 hA H locs hS hP hD hQ ls hl => ?_)
  obtain ⟨hx, hb, hr, hown, hin, hml, hlocks, hn, hK, hZ, hSK⟩ := C0
  have hl : lv_has ls 2 [(0, .ref cd), (1, .int v0)] := hl
  refine lv_aload_n hx hb dX0_codePull_0 rfl (lv_at hl 0 rfl) ?_
  refine lv_sipush (v := 188) hx hb dX0_codePull_1 (by decide) ?_
  refine lv_bipush (v := 7) hx hb dX0_codePull_4 (by decide) ?_
  refine lv_iconst (v := 0) hx hb dX0_codePull_6 (by decide) ?_
  refine lv_iconst (v := 0) hx hb dX0_codePull_7 (by decide) ?_
  refine lv_iconst (v := 0) hx hb dX0_codePull_8 (by decide) ?_
  refine go_v (k1 := 0) (n1 := 0) (wr := []) [0, 1, 2, 3] [] (rn_V (As := [.int 188, .int 7, .int 0, .int 0, .int 0]) (rest := []) (c_X0_put l D ct cd (188 : Int32) (7 : Int32) (0 : Int32) (0 : Int32) (0 : Int32) cds cdg f0 p0 x_cd_4 p0r x_p0_1 g_p0r g_cdg (rg_w h_x_cd_4 (by decide)) h_x_p0_1 h_g_cdg _) (cb_of (n := 5) hn mw_848 mw_9 mw_845 mhX0_put ⟨(Nat.le_of_ble_eq_true rfl), (Nat.le_of_ble_eq_true rfl)⟩) hx hb hml hown hn hK hSK hZ hS mw_847 mw_s75 (ci := 0) (q0 := 0) rfl rfl rfl rfl hl.1 (Nat.le_of_ble_eq_true rfl) dX0_codePull_9 ⟨(Nat.le_of_ble_eq_true rfl), (Nat.le_of_ble_eq_true rfl)⟩) hP hD hS hA rfl rfl (by decide) (by decide) (by decide) (Nat.le_of_ble_eq_true rfl) (Nat.le_of_ble_eq_true rfl) (fun u9_2 H locs hp9_3 hP hD hS => ?_)
  obtain ⟨y_cd_49_4, k_p0r9_5, k_cdg9_6⟩ := u9_2
  obtain ⟨hp9_7, hp9_8, hp9_9⟩ := hp9_3
  have hp9_7 : rg y_cd_49_4 1 1200000001 := hp9_7
  have hp9_9 : y_cd_49_4.toInt = x_cd_4.toInt + 1 := hp9_9
  have hP : va_P D vwCl [(cd, .inr (0, [.ref cds, .ref cdg, .ref f0, .ref p0, .int y_cd_49_4])), (p0, .inr (7, [.ref p0r, .int x_p0_1])), (p0r, .inl (ct 2, 4000, .inr (.inl k_p0r9_5))), (cdg, .inl (ct 1, 4000, .inl k_cdg9_6))] _ := hP
  have hD : va_D A [(cd, .inr (0, [.ref cds, .ref cdg, .ref f0, .ref p0, .int y_cd_49_4])), (p0, .inr (7, [.ref p0r, .int x_p0_1])), (p0r, .inl (ct 2, 4000, .inr (.inl k_p0r9_5))), (cdg, .inl (ct 1, 4000, .inl k_cdg9_6))] := hD
  refine lv_aload_n hx hb dX0_codePull_12 rfl (lv_at hl 0 rfl) ?_
  refine lv_bipush (v := 121) hx hb dX0_codePull_13 (by decide) ?_
  refine lv_iconst (v := 0) hx hb dX0_codePull_15 (by decide) ?_
  refine lv_bipush (v := 10) hx hb dX0_codePull_16 (by decide) ?_
  refine lv_iload_n hx hb dX0_codePull_18 rfl (lv_at hl 1 rfl) ?_
  refine go_i (k1 := 0) (n1 := 0) (wr := [(cd, .inr (0, [.ref cds, .ref cdg, .ref f0, .ref p0, .int y_cd_49_4])), (p0, .inr (7, [.ref p0r, .int x_p0_1])), (p0r, .inl (ct 2, 4000, .inr (.inl k_p0r9_5))), (cdg, .inl (ct 1, 4000, .inl k_cdg9_6))]) [] [0, 1, 2, 3] (rn_S (As := [.int v0]) (rest := [.int 10, .int 0, .int 121, .ref cd]) (c_X0_slot l D ct v0  _) (cb_of (n := 1) hn mw_869 mw_9 mw_867 mhX0_slot ⟨(Nat.le_of_ble_eq_true rfl), (Nat.le_of_ble_eq_true rfl)⟩) hx hb hml hown hn hK hSK hZ hS mw_868 rfl hl.1 (Nat.le_of_ble_eq_true rfl) dX0_codePull_19 ⟨(Nat.le_of_ble_eq_true rfl), (Nat.le_of_ble_eq_true rfl)⟩) hP hD hS hA rfl rfl (by decide) (by decide) (by decide) (Nat.le_of_ble_eq_true rfl) (Nat.le_of_ble_eq_true rfl) (fun r19_1 u19_2 H locs hp19_3 hP hD hS => ?_)
  have hP : va_P D vwCl [(cd, .inr (0, [.ref cds, .ref cdg, .ref f0, .ref p0, .int y_cd_49_4])), (p0, .inr (7, [.ref p0r, .int x_p0_1])), (p0r, .inl (ct 2, 4000, .inr (.inl k_p0r9_5))), (cdg, .inl (ct 1, 4000, .inl k_cdg9_6))] _ := hP
  have hD : va_D A [(cd, .inr (0, [.ref cds, .ref cdg, .ref f0, .ref p0, .int y_cd_49_4])), (p0, .inr (7, [.ref p0r, .int x_p0_1])), (p0r, .inl (ct 2, 4000, .inr (.inl k_p0r9_5))), (cdg, .inl (ct 1, 4000, .inl k_cdg9_6))] := hD
  refine lv_iconst (v := 0) hx hb dX0_codePull_22 (by decide) ?_
  refine go_v (k1 := 0) (n1 := 0) (wr := []) [0, 1, 2, 3] [] (rn_V (As := [.int 121, .int 0, .int 10, .int r19_1, .int 0]) (rest := []) (c_X0_put l D ct cd (121 : Int32) (0 : Int32) (10 : Int32) r19_1 (0 : Int32) cds cdg f0 p0 y_cd_49_4 p0r x_p0_1 k_p0r9_5 k_cdg9_6 (rg_of (show 0 ≤ y_cd_49_4.toInt ∧ y_cd_49_4.toInt ≤ 1200000000 by have q0 := hp9_7.1; have q1 := hp9_7.2; have q2 := h_x_cd_4.1; have q3 := h_x_cd_4.2; have q4 := hp9_9; omega)) h_x_p0_1 hp9_8 _) (cb_of (n := 5) hn mw_848 mw_9 mw_845 mhX0_put ⟨(Nat.le_of_ble_eq_true rfl), (Nat.le_of_ble_eq_true rfl)⟩) hx hb hml hown hn hK hSK hZ hS mw_847 mw_s75 (ci := 0) (q0 := 0) rfl rfl rfl rfl hl.1 (Nat.le_of_ble_eq_true rfl) dX0_codePull_23 ⟨(Nat.le_of_ble_eq_true rfl), (Nat.le_of_ble_eq_true rfl)⟩) hP hD hS hA rfl rfl (by decide) (by decide) (by decide) (Nat.le_of_ble_eq_true rfl) (Nat.le_of_ble_eq_true rfl) (fun u23_2 H locs hp23_3 hP hD hS => ?_)
  obtain ⟨y_cd_423_4, k_p0r23_5, k_cdg23_6⟩ := u23_2
  obtain ⟨hp23_7, hp23_8, hp23_9⟩ := hp23_3
  have hp23_7 : rg y_cd_423_4 1 1200000001 := hp23_7
  have hp23_9 : y_cd_423_4.toInt = y_cd_49_4.toInt + 1 := hp23_9
  have hP : va_P D vwCl [(cd, .inr (0, [.ref cds, .ref cdg, .ref f0, .ref p0, .int y_cd_423_4])), (p0, .inr (7, [.ref p0r, .int x_p0_1])), (p0r, .inl (ct 2, 4000, .inr (.inl k_p0r23_5))), (cdg, .inl (ct 1, 4000, .inl k_cdg23_6))] _ := hP
  have hD : va_D A [(cd, .inr (0, [.ref cds, .ref cdg, .ref f0, .ref p0, .int y_cd_423_4])), (p0, .inr (7, [.ref p0r, .int x_p0_1])), (p0r, .inl (ct 2, 4000, .inr (.inl k_p0r23_5))), (cdg, .inl (ct 1, 4000, .inl k_cdg23_6))] := hD
  exact endq_v hQ hx hb hr hlocks dX0_codePull_26 (y_cd_423_4, k_p0r23_5, k_cdg23_6) ⟨hp23_7, hp23_8, (show y_cd_423_4.toInt = x_cd_4.toInt + 2 by have q0 := h_x_cd_4.1; have q1 := h_x_cd_4.2; have q2 := hp23_7.1; have q3 := hp23_7.2; have q4 := hp9_7.1; have q5 := hp9_7.2; have q6 := hp9_9; have q7 := hp23_9; omega)⟩ hP hD hS [0, 1, 2, 3] rfl (by decide) rfl (Nat.le_of_ble_eq_true rfl) (Nat.le_of_ble_eq_true rfl)
set_option maxHeartbeats 2000000 in
theorem c_X0_codeWithNumber (l : Launch) (D : va_G) (ct : Nat → ClassId) (cd : Nat) (v0 : Int32) (v1 : Int32) (cds : Nat) (cdg : Nat) (f0 : Nat) (p0 : Nat) (x_cd_4 : Int32) (f00 : Nat) (f01 : Nat) (f02 : Nat) (x_f0_3 : Int32) (f04 : Nat) (f05 : Nat) (f06 : Nat) (f07 : Nat) (f08 : Nat) (f09 : Nat) (f010 : Nat) (x_f0_11 : Int32) (x_f0_12 : Int32) (f013 : Nat) (x_f0_14 : Int32) (f015 : Nat) (x_f0_16 : Int32) (f017 : Nat) (p0r : Nat) (x_p0_1 : Int32) (g_p0r : Nat → Int64) (g_cdg : Nat → Int32) (h_x_cd_4 : rg x_cd_4 0 1199999970) (h_x_f0_3 : rg x_f0_3 0 7000) (h_x_f0_11 : rg x_f0_11 0 3000) (h_x_f0_12 : rg x_f0_12 0 3000) (h_x_f0_14 : rg x_f0_14 2 5000) (h_x_f0_16 : rg x_f0_16 0 6) (h_x_p0_1 : rg x_p0_1 0 4000) (h_g_cdg : Rg g_cdg 4000 (-1) 3001) : KV (S := Int32 × (Nat → Int64) × (Nat → Int32)) l yX0_codeWithNumber cX0_codeWithNumber 3 none 3 71 D ct [.ref cd, .int v0, .int v1] [(cd, .inr (0, [.ref cds, .ref cdg, .ref f0, .ref p0, .int x_cd_4])), (f0, .inr (2, [.ref f00, .ref f01, .ref f02, .int x_f0_3, .ref f04, .ref f05, .ref f06, .ref f07, .ref f08, .ref f09, .ref f010, .int x_f0_11, .int x_f0_12, .ref f013, .int x_f0_14, .ref f015, .int x_f0_16, .ref f017])), (p0, .inr (7, [.ref p0r, .int x_p0_1])), (p0r, .inl (ct 2, 4000, .inr (.inl g_p0r))), (cdg, .inl (ct 1, 4000, .inl g_cdg))] 0 0 (fun (u : Int32 × (Nat → Int64) × (Nat → Int32)) => match u with | (y_cd_4, k_p0r, k_cdg) => rg y_cd_4 1 1200000001 ∧ Rg k_cdg 4000 (-1) 3001 ∧ (y_cd_4.toInt = x_cd_4.toInt + 1)) (fun (u : Int32 × (Nat → Int64) × (Nat → Int32)) => match u with | (y_cd_4, k_p0r, k_cdg) => [(cd, .inr (0, [.ref cds, .ref cdg, .ref f0, .ref p0, .int y_cd_4])), (f0, .inr (2, [.ref f00, .ref f01, .ref f02, .int x_f0_3, .ref f04, .ref f05, .ref f06, .ref f07, .ref f08, .ref f09, .ref f010, .int x_f0_11, .int x_f0_12, .ref f013, .int x_f0_14, .ref f015, .int x_f0_16, .ref f017])), (p0, .inr (7, [.ref p0r, .int x_p0_1])), (p0r, .inl (ct 2, 4000, .inr (.inl k_p0r))), (cdg, .inl (ct 1, 4000, .inl k_cdg))]) := by
  refine KVq_of (by decide) (Nat.le_of_ble_eq_true rfl) (fun p e s m below meth c A Q C0 hA H locs hS hP hD hQ ls hl => ?_)
  obtain ⟨hx, hb, hr, hown, hin, hml, hlocks, hn, hK, hZ, hSK⟩ := C0
  have hl : lv_has ls 3 [(0, .ref cd), (1, .int v0), (2, .int v1)] := hl
  refine lv_iload_n hx hb dX0_codeWithNumber_0 rfl (lv_at hl 1 rfl) ?_
  refine lv_iconst (v := 3) hx hb dX0_codeWithNumber_1 (by decide) ?_
  have b35 : ∀  (H : Heap) (locs : List Loc) (ls : Array Slot), lv_has ls 3 [(0, .ref cd), (1, .int v0), (2, .int v1)] → va_P D vwCl [(cd, .inr (0, [.ref cds, .ref cdg, .ref f0, .ref p0, .int x_cd_4])), (f0, .inr (2, [.ref f00, .ref f01, .ref f02, .int x_f0_3, .ref f04, .ref f05, .ref f06, .ref f07, .ref f08, .ref f09, .ref f010, .int x_f0_11, .int x_f0_12, .ref f013, .int x_f0_14, .ref f015, .int x_f0_16, .ref f017])), (p0, .inr (7, [.ref p0r, .int x_p0_1])), (p0r, .inl (ct 2, 4000, .inr (.inl g_p0r))), (cdg, .inl (ct 1, 4000, .inl g_cdg))] H → va_D A [(cd, .inr (0, [.ref cds, .ref cdg, .ref f0, .ref p0, .int x_cd_4])), (f0, .inr (2, [.ref f00, .ref f01, .ref f02, .int x_f0_3, .ref f04, .ref f05, .ref f06, .ref f07, .ref f08, .ref f09, .ref f010, .int x_f0_11, .int x_f0_12, .ref f013, .int x_f0_14, .ref f015, .int x_f0_16, .ref f017])), (p0, .inr (7, [.ref p0r, .int x_p0_1])), (p0r, .inl (ct 2, 4000, .inr (.inl g_p0r))), (cdg, .inl (ct 1, 4000, .inl g_cdg))] → va_S A s.heap H locs → W p l e ({ frames := 3, cells := 0, slots := 0, locals := 71 }) s m [.ref cd, .int v0, .int v1].toArray below meth c H locs 0 0 Q (F0 m 35 ls []) := by
    intro  H locs ls  hl hP hD hS
    refine lv_aload_n hx hb dX0_codeWithNumber_35 rfl (lv_at hl 0 rfl) ?_
    refine lv_iload_n hx hb dX0_codeWithNumber_36 rfl (lv_at hl 1 rfl) ?_
    refine lv_iconst (v := 4) hx hb dX0_codeWithNumber_37 (by decide) ?_
    refine lv_ishl hx hb dX0_codeWithNumber_38 ?_
    refine lv_topi (fun z38_1 ez38_1 => ?_)
    refine lv_iconst (v := 4) hx hb dX0_codeWithNumber_39 (by decide) ?_
    refine lv_ior hx hb dX0_codeWithNumber_40 ?_
    refine lv_topi (fun z40_1 ez40_1 => ?_)
    refine lv_iconst (v := 0) hx hb dX0_codeWithNumber_41 (by decide) ?_
    refine lv_iconst (v := 0) hx hb dX0_codeWithNumber_42 (by decide) ?_
    refine lv_iconst (v := 0) hx hb dX0_codeWithNumber_43 (by decide) ?_
    refine lv_iload_n hx hb dX0_codeWithNumber_44 rfl (lv_at hl 2 rfl) ?_
    refine go_v (k1 := 0) (n1 := 0) (wr := [(f0, .inr (2, [.ref f00, .ref f01, .ref f02, .int x_f0_3, .ref f04, .ref f05, .ref f06, .ref f07, .ref f08, .ref f09, .ref f010, .int x_f0_11, .int x_f0_12, .ref f013, .int x_f0_14, .ref f015, .int x_f0_16, .ref f017]))]) [0, 2, 3, 4] [1] (rn_V (As := [.int z40_1, .int 0, .int 0, .int 0, .int v1]) (rest := []) (c_X0_put l D ct cd z40_1 (0 : Int32) (0 : Int32) (0 : Int32) v1 cds cdg f0 p0 x_cd_4 p0r x_p0_1 g_p0r g_cdg (rg_w h_x_cd_4 (by decide)) h_x_p0_1 h_g_cdg _) (cb_of (n := 5) hn mw_848 mw_9 mw_845 mhX0_put ⟨(Nat.le_of_ble_eq_true rfl), (Nat.le_of_ble_eq_true rfl)⟩) hx hb hml hown hn hK hSK hZ hS mw_847 mw_s75 (ci := 0) (q0 := 0) rfl rfl rfl rfl hl.1 (Nat.le_of_ble_eq_true rfl) dX0_codeWithNumber_45 ⟨(Nat.le_of_ble_eq_true rfl), (Nat.le_of_ble_eq_true rfl)⟩) hP hD hS hA rfl rfl (by decide) (by decide) (by decide) (Nat.le_of_ble_eq_true rfl) (Nat.le_of_ble_eq_true rfl) (fun u45_2 H locs hp45_3 hP hD hS => ?_)
    obtain ⟨y_cd_445_4, k_p0r45_5, k_cdg45_6⟩ := u45_2
    obtain ⟨hp45_7, hp45_8, hp45_9⟩ := hp45_3
    have hp45_7 : rg y_cd_445_4 1 1200000001 := hp45_7
    have hp45_9 : y_cd_445_4.toInt = x_cd_4.toInt + 1 := hp45_9
    have hP : va_P D vwCl [(f0, .inr (2, [.ref f00, .ref f01, .ref f02, .int x_f0_3, .ref f04, .ref f05, .ref f06, .ref f07, .ref f08, .ref f09, .ref f010, .int x_f0_11, .int x_f0_12, .ref f013, .int x_f0_14, .ref f015, .int x_f0_16, .ref f017])), (cd, .inr (0, [.ref cds, .ref cdg, .ref f0, .ref p0, .int y_cd_445_4])), (p0, .inr (7, [.ref p0r, .int x_p0_1])), (p0r, .inl (ct 2, 4000, .inr (.inl k_p0r45_5))), (cdg, .inl (ct 1, 4000, .inl k_cdg45_6))] _ := hP
    have hD : va_D A [(f0, .inr (2, [.ref f00, .ref f01, .ref f02, .int x_f0_3, .ref f04, .ref f05, .ref f06, .ref f07, .ref f08, .ref f09, .ref f010, .int x_f0_11, .int x_f0_12, .ref f013, .int x_f0_14, .ref f015, .int x_f0_16, .ref f017])), (cd, .inr (0, [.ref cds, .ref cdg, .ref f0, .ref p0, .int y_cd_445_4])), (p0, .inr (7, [.ref p0r, .int x_p0_1])), (p0r, .inl (ct 2, 4000, .inr (.inl k_p0r45_5))), (cdg, .inl (ct 1, 4000, .inl k_cdg45_6))] := hD
    exact endq_v hQ hx hb hr hlocks dX0_codeWithNumber_48 (y_cd_445_4, k_p0r45_5, k_cdg45_6) ⟨hp45_7, hp45_8, (show y_cd_445_4.toInt = x_cd_4.toInt + 1 by have q0 := h_x_cd_4.1; have q1 := h_x_cd_4.2; have q2 := hp45_7.1; have q3 := hp45_7.2; have q4 := hp45_9; omega)⟩ hP hD hS [1, 0, 2, 3, 4] rfl (by decide) rfl (Nat.le_of_ble_eq_true rfl) (Nat.le_of_ble_eq_true rfl)
  have b11 : ∀  (H : Heap) (locs : List Loc) (ls : Array Slot), lv_has ls 3 [(0, .ref cd), (1, .int v0), (2, .int v1)] → va_P D vwCl [(cd, .inr (0, [.ref cds, .ref cdg, .ref f0, .ref p0, .int x_cd_4])), (f0, .inr (2, [.ref f00, .ref f01, .ref f02, .int x_f0_3, .ref f04, .ref f05, .ref f06, .ref f07, .ref f08, .ref f09, .ref f010, .int x_f0_11, .int x_f0_12, .ref f013, .int x_f0_14, .ref f015, .int x_f0_16, .ref f017])), (p0, .inr (7, [.ref p0r, .int x_p0_1])), (p0r, .inl (ct 2, 4000, .inr (.inl g_p0r))), (cdg, .inl (ct 1, 4000, .inl g_cdg))] H → va_D A [(cd, .inr (0, [.ref cds, .ref cdg, .ref f0, .ref p0, .int x_cd_4])), (f0, .inr (2, [.ref f00, .ref f01, .ref f02, .int x_f0_3, .ref f04, .ref f05, .ref f06, .ref f07, .ref f08, .ref f09, .ref f010, .int x_f0_11, .int x_f0_12, .ref f013, .int x_f0_14, .ref f015, .int x_f0_16, .ref f017])), (p0, .inr (7, [.ref p0r, .int x_p0_1])), (p0r, .inl (ct 2, 4000, .inr (.inl g_p0r))), (cdg, .inl (ct 1, 4000, .inl g_cdg))] → va_S A s.heap H locs → W p l e ({ frames := 3, cells := 0, slots := 0, locals := 71 }) s m [.ref cd, .int v0, .int v1].toArray below meth c H locs 0 0 Q (F0 m 11 ls []) := by
    intro  H locs ls  hl hP hD hS
    refine lv_iload_n hx hb dX0_codeWithNumber_11 rfl (lv_at hl 2 rfl) ?_
    refine lv_if_ne (tgt := 35) hx hb dX0_codeWithNumber_12 (by decide) (fun c12_1 => ?_) (fun c12_1 => ?_)
    · have t12_2 := (i_ne c12_1)
      exact b35  H locs ls  (lv_sub hl [0, 1, 2] rfl) hP hD hS
    · have t12_2 := (i_eq c12_1)
      have r12_3 : rg v1 0 0 := rg_eqA t12_2 (rg_any v1) (show rg (0 : Int32) 0 0 from rg_l (by decide)) (by decide)
      refine lv_aload_n hx hb dX0_codeWithNumber_15 rfl (lv_at hl 0 rfl) ?_
      refine lv_iconst (v := 5) hx hb dX0_codeWithNumber_16 (by decide) ?_
      refine lv_iconst (v := 0) hx hb dX0_codeWithNumber_17 (by decide) ?_
      refine lv_iconst (v := 0) hx hb dX0_codeWithNumber_18 (by decide) ?_
      refine lv_iconst (v := 0) hx hb dX0_codeWithNumber_19 (by decide) ?_
      refine lv_aload_n hx hb dX0_codeWithNumber_20 rfl (lv_at hl 0 rfl) ?_
      refine va_get (D := D) (ci := 0) (v := .ref f0) (C := RX0) (T := TX0) (N := 5) hx hb (htX0 hn) (fun _ h => h) hown hK hP 0 rfl rfl 2 (by decide) (hn.get mw_268 rfl) (fun _ h9 => h9) rfl dX0_codeWithNumber_21 ?_
      refine va_getN (D := D) (ci := 2) (v := .int x_f0_11) (C := RX2) (T := TX2) (N := 18) hx hb (htX2 hn) (fun _ h => h) hown hK hP 1 rfl rfl 11 (by decide) (hn.get mw_170 rfl) (fun _ h9 => h9) rfl dX0_codeWithNumber_24 ?_
      refine lv_iconst (v := 1) hx hb dX0_codeWithNumber_27 (by decide) ?_
      refine lv_iadd hx hb dX0_codeWithNumber_28 ?_
      refine lv_topi (fun z28_1 ez28_1 => ?_)
      have r28_2 : rg z28_1 1 3001 := rg_add ez28_1 h_x_f0_11 (show rg (1 : Int32) 1 1 from rg_l (by decide)) (by decide)
      refine go_v (k1 := 0) (n1 := 0) (wr := [(f0, .inr (2, [.ref f00, .ref f01, .ref f02, .int x_f0_3, .ref f04, .ref f05, .ref f06, .ref f07, .ref f08, .ref f09, .ref f010, .int x_f0_11, .int x_f0_12, .ref f013, .int x_f0_14, .ref f015, .int x_f0_16, .ref f017]))]) [0, 2, 3, 4] [1] (rn_V (As := [.int 5, .int 0, .int 0, .int 0, .int z28_1]) (rest := []) (c_X0_putGoing l D ct cd (5 : Int32) (0 : Int32) (0 : Int32) (0 : Int32) z28_1 cds cdg f0 p0 x_cd_4 p0r x_p0_1 g_p0r g_cdg (rg_w r28_2 (by decide)) (rg_w h_x_cd_4 (by decide)) h_x_p0_1 h_g_cdg _) (cb_of (n := 5) hn mw_877 mw_9 mw_874 mhX0_putGoing ⟨(Nat.le_of_ble_eq_true rfl), (Nat.le_of_ble_eq_true rfl)⟩) hx hb hml hown hn hK hSK hZ hS mw_876 mw_s81 (ci := 0) (q0 := 0) rfl rfl rfl rfl hl.1 (Nat.le_of_ble_eq_true rfl) dX0_codeWithNumber_29 ⟨(Nat.le_of_ble_eq_true rfl), (Nat.le_of_ble_eq_true rfl)⟩) hP hD hS hA rfl rfl (by decide) (by decide) (by decide) (Nat.le_of_ble_eq_true rfl) (Nat.le_of_ble_eq_true rfl) (fun u29_2 H locs hp29_3 hP hD hS => ?_)
      obtain ⟨y_cd_429_4, k_p0r29_5, k_cdg29_6⟩ := u29_2
      obtain ⟨hp29_7, hp29_8, hp29_9⟩ := hp29_3
      have hp29_7 : rg y_cd_429_4 1 1200000001 := hp29_7
      have hp29_9 : y_cd_429_4.toInt = x_cd_4.toInt + 1 := hp29_9
      have hP : va_P D vwCl [(f0, .inr (2, [.ref f00, .ref f01, .ref f02, .int x_f0_3, .ref f04, .ref f05, .ref f06, .ref f07, .ref f08, .ref f09, .ref f010, .int x_f0_11, .int x_f0_12, .ref f013, .int x_f0_14, .ref f015, .int x_f0_16, .ref f017])), (cd, .inr (0, [.ref cds, .ref cdg, .ref f0, .ref p0, .int y_cd_429_4])), (p0, .inr (7, [.ref p0r, .int x_p0_1])), (p0r, .inl (ct 2, 4000, .inr (.inl k_p0r29_5))), (cdg, .inl (ct 1, 4000, .inl k_cdg29_6))] _ := hP
      have hD : va_D A [(f0, .inr (2, [.ref f00, .ref f01, .ref f02, .int x_f0_3, .ref f04, .ref f05, .ref f06, .ref f07, .ref f08, .ref f09, .ref f010, .int x_f0_11, .int x_f0_12, .ref f013, .int x_f0_14, .ref f015, .int x_f0_16, .ref f017])), (cd, .inr (0, [.ref cds, .ref cdg, .ref f0, .ref p0, .int y_cd_429_4])), (p0, .inr (7, [.ref p0r, .int x_p0_1])), (p0r, .inl (ct 2, 4000, .inr (.inl k_p0r29_5))), (cdg, .inl (ct 1, 4000, .inl k_cdg29_6))] := hD
      refine lv_goto (tgt := 48) hx hb dX0_codeWithNumber_32 (by decide) ?_
      exact endq_v hQ hx hb hr hlocks dX0_codeWithNumber_48 (y_cd_429_4, k_p0r29_5, k_cdg29_6) ⟨hp29_7, hp29_8, (show y_cd_429_4.toInt = x_cd_4.toInt + 1 by have q0 := h_x_cd_4.1; have q1 := h_x_cd_4.2; have q2 := hp29_7.1; have q3 := hp29_7.2; have q4 := hp29_9; omega)⟩ hP hD hS [1, 0, 2, 3, 4] rfl (by decide) rfl (Nat.le_of_ble_eq_true rfl) (Nat.le_of_ble_eq_true rfl)
  refine lv_icmp_eq (tgt := 11) hx hb dX0_codeWithNumber_2 (by decide) (fun c2_1 => ?_) (fun c2_1 => ?_)
  · have t2_2 := (i_eq c2_1)
    have r2_3 : rg v0 3 3 := rg_eqA t2_2 (rg_any v0) (show rg (3 : Int32) 3 3 from rg_l (by decide)) (by decide)
    exact b11  H locs ls  (lv_sub hl [0, 1, 2] rfl) hP hD hS
  · have t2_2 := (i_ne c2_1)
    refine lv_iload_n hx hb dX0_codeWithNumber_5 rfl (lv_at hl 1 rfl) ?_
    refine lv_bipush (v := 9) hx hb dX0_codeWithNumber_6 (by decide) ?_
    refine lv_icmp_ne (tgt := 35) hx hb dX0_codeWithNumber_8 (by decide) (fun c8_1 => ?_) (fun c8_1 => ?_)
    · have t8_2 := (i_ne c8_1)
      exact b35  H locs ls  (lv_sub hl [0, 1, 2] rfl) hP hD hS
    · have t8_2 := (i_eq c8_1)
      have r8_3 : rg v0 9 9 := rg_eqA t8_2 (rg_any v0) (show rg (9 : Int32) 9 9 from rg_l (by decide)) (by decide)
      exact b11  H locs ls  (lv_sub hl [0, 1, 2] rfl) hP hD hS
set_option maxHeartbeats 2000000 in
theorem c_X0_codeWithPushed (l : Launch) (D : va_G) (ct : Nat → ClassId) (cd : Nat) (v0 : Int32) (v1 : Int32) (cds : Nat) (cdg : Nat) (f0 : Nat) (p0 : Nat) (x_cd_4 : Int32) (p0r : Nat) (x_p0_1 : Int32) (g_p0r : Nat → Int64) (g_cdg : Nat → Int32) (f00 : Nat) (f01 : Nat) (f02 : Nat) (x_f0_3 : Int32) (f04 : Nat) (f05 : Nat) (f06 : Nat) (f07 : Nat) (f08 : Nat) (f09 : Nat) (f010 : Nat) (x_f0_11 : Int32) (x_f0_12 : Int32) (f013 : Nat) (x_f0_14 : Int32) (f015 : Nat) (x_f0_16 : Int32) (f017 : Nat) (h_x_cd_4 : rg x_cd_4 0 1199999970) (h_x_p0_1 : rg x_p0_1 0 4000) (h_g_cdg : Rg g_cdg 4000 (-1) 3001) (h_x_f0_3 : rg x_f0_3 0 7000) (h_x_f0_11 : rg x_f0_11 0 3000) (h_x_f0_12 : rg x_f0_12 0 3000) (h_x_f0_14 : rg x_f0_14 2 5000) (h_x_f0_16 : rg x_f0_16 0 6) : KV (S := Int32 × (Nat → Int64) × (Nat → Int32)) l yX0_codeWithPushed cX0_codeWithPushed 3 none 3 71 D ct [.ref cd, .int v0, .int v1] [(cd, .inr (0, [.ref cds, .ref cdg, .ref f0, .ref p0, .int x_cd_4])), (p0, .inr (7, [.ref p0r, .int x_p0_1])), (p0r, .inl (ct 2, 4000, .inr (.inl g_p0r))), (cdg, .inl (ct 1, 4000, .inl g_cdg)), (f0, .inr (2, [.ref f00, .ref f01, .ref f02, .int x_f0_3, .ref f04, .ref f05, .ref f06, .ref f07, .ref f08, .ref f09, .ref f010, .int x_f0_11, .int x_f0_12, .ref f013, .int x_f0_14, .ref f015, .int x_f0_16, .ref f017]))] 0 0 (fun (u : Int32 × (Nat → Int64) × (Nat → Int32)) => match u with | (y_cd_4, k_p0r, k_cdg) => rg y_cd_4 1 1200000001 ∧ Rg k_cdg 4000 (-1) 3001 ∧ (x_cd_4.toInt + 3 ≤ y_cd_4.toInt ∧ y_cd_4.toInt ≤ x_cd_4.toInt + 4)) (fun (u : Int32 × (Nat → Int64) × (Nat → Int32)) => match u with | (y_cd_4, k_p0r, k_cdg) => [(cd, .inr (0, [.ref cds, .ref cdg, .ref f0, .ref p0, .int y_cd_4])), (p0, .inr (7, [.ref p0r, .int x_p0_1])), (p0r, .inl (ct 2, 4000, .inr (.inl k_p0r))), (cdg, .inl (ct 1, 4000, .inl k_cdg)), (f0, .inr (2, [.ref f00, .ref f01, .ref f02, .int x_f0_3, .ref f04, .ref f05, .ref f06, .ref f07, .ref f08, .ref f09, .ref f010, .int x_f0_11, .int x_f0_12, .ref f013, .int x_f0_14, .ref f015, .int x_f0_16, .ref f017]))]) := by
  refine KVq_of (by decide) (Nat.le_of_ble_eq_true rfl) (fun p e s m below meth c A Q C0 hA H locs hS hP hD hQ ls hl => ?_)
  obtain ⟨hx, hb, hr, hown, hin, hml, hlocks, hn, hK, hZ, hSK⟩ := C0
  have hl : lv_has ls 3 [(0, .ref cd), (1, .int v0), (2, .int v1)] := hl
  refine lv_aload_n hx hb dX0_codeWithPushed_0 rfl (lv_at hl 0 rfl) ?_
  refine lv_iload_n hx hb dX0_codeWithPushed_1 rfl (lv_at hl 2 rfl) ?_
  refine go_v (k1 := 0) (n1 := 0) (wr := [(f0, .inr (2, [.ref f00, .ref f01, .ref f02, .int x_f0_3, .ref f04, .ref f05, .ref f06, .ref f07, .ref f08, .ref f09, .ref f010, .int x_f0_11, .int x_f0_12, .ref f013, .int x_f0_14, .ref f015, .int x_f0_16, .ref f017]))]) [0, 1, 2, 3] [4] (rn_V (As := [.int v1]) (rest := []) (c_X0_codePull l D ct cd v1 cds cdg f0 p0 x_cd_4 p0r x_p0_1 g_p0r g_cdg (rg_w h_x_cd_4 (by decide)) h_x_p0_1 h_g_cdg _) (cb_of (n := 1) hn mw_885 mw_9 mw_882 mhX0_codePull ⟨(Nat.le_of_ble_eq_true rfl), (Nat.le_of_ble_eq_true rfl)⟩) hx hb hml hown hn hK hSK hZ hS mw_884 mw_s83 (ci := 0) (q0 := 0) rfl rfl rfl rfl hl.1 (Nat.le_of_ble_eq_true rfl) dX0_codeWithPushed_2 ⟨(Nat.le_of_ble_eq_true rfl), (Nat.le_of_ble_eq_true rfl)⟩) hP hD hS hA rfl rfl (by decide) (by decide) (by decide) (Nat.le_of_ble_eq_true rfl) (Nat.le_of_ble_eq_true rfl) (fun u2_2 H locs hp2_3 hP hD hS => ?_)
  obtain ⟨y_cd_42_4, k_p0r2_5, k_cdg2_6⟩ := u2_2
  obtain ⟨hp2_7, hp2_8, hp2_9⟩ := hp2_3
  have hp2_7 : rg y_cd_42_4 1 1200000001 := hp2_7
  have hp2_9 : y_cd_42_4.toInt = x_cd_4.toInt + 2 := hp2_9
  have hP : va_P D vwCl [(f0, .inr (2, [.ref f00, .ref f01, .ref f02, .int x_f0_3, .ref f04, .ref f05, .ref f06, .ref f07, .ref f08, .ref f09, .ref f010, .int x_f0_11, .int x_f0_12, .ref f013, .int x_f0_14, .ref f015, .int x_f0_16, .ref f017])), (cd, .inr (0, [.ref cds, .ref cdg, .ref f0, .ref p0, .int y_cd_42_4])), (p0, .inr (7, [.ref p0r, .int x_p0_1])), (p0r, .inl (ct 2, 4000, .inr (.inl k_p0r2_5))), (cdg, .inl (ct 1, 4000, .inl k_cdg2_6))] _ := hP
  have hD : va_D A [(f0, .inr (2, [.ref f00, .ref f01, .ref f02, .int x_f0_3, .ref f04, .ref f05, .ref f06, .ref f07, .ref f08, .ref f09, .ref f010, .int x_f0_11, .int x_f0_12, .ref f013, .int x_f0_14, .ref f015, .int x_f0_16, .ref f017])), (cd, .inr (0, [.ref cds, .ref cdg, .ref f0, .ref p0, .int y_cd_42_4])), (p0, .inr (7, [.ref p0r, .int x_p0_1])), (p0r, .inl (ct 2, 4000, .inr (.inl k_p0r2_5))), (cdg, .inl (ct 1, 4000, .inl k_cdg2_6))] := hD
  refine lv_iload_n hx hb dX0_codeWithPushed_5 rfl (lv_at hl 1 rfl) ?_
  refine lv_iconst (v := 3) hx hb dX0_codeWithPushed_6 (by decide) ?_
  have b35 : ∀ (j35_fcd_4 : Int32) (j35_cp0r : Nat → Int64) (j35_ccdg : Nat → Int32) (H : Heap) (locs : List Loc) (ls : Array Slot), (rg j35_fcd_4 1 1200000001) → (Rg j35_ccdg 4000 (-1) 3001) → (x_cd_4.toInt + 2 ≤ j35_fcd_4.toInt ∧ j35_fcd_4.toInt ≤ x_cd_4.toInt + 3) → lv_has ls 3 [(0, .ref cd), (1, .int v0)] → va_P D vwCl [(f0, .inr (2, [.ref f00, .ref f01, .ref f02, .int x_f0_3, .ref f04, .ref f05, .ref f06, .ref f07, .ref f08, .ref f09, .ref f010, .int x_f0_11, .int x_f0_12, .ref f013, .int x_f0_14, .ref f015, .int x_f0_16, .ref f017])), (cd, .inr (0, [.ref cds, .ref cdg, .ref f0, .ref p0, .int j35_fcd_4])), (p0, .inr (7, [.ref p0r, .int x_p0_1])), (p0r, .inl (ct 2, 4000, .inr (.inl j35_cp0r))), (cdg, .inl (ct 1, 4000, .inl j35_ccdg))] H → va_D A [(f0, .inr (2, [.ref f00, .ref f01, .ref f02, .int x_f0_3, .ref f04, .ref f05, .ref f06, .ref f07, .ref f08, .ref f09, .ref f010, .int x_f0_11, .int x_f0_12, .ref f013, .int x_f0_14, .ref f015, .int x_f0_16, .ref f017])), (cd, .inr (0, [.ref cds, .ref cdg, .ref f0, .ref p0, .int j35_fcd_4])), (p0, .inr (7, [.ref p0r, .int x_p0_1])), (p0r, .inl (ct 2, 4000, .inr (.inl j35_cp0r))), (cdg, .inl (ct 1, 4000, .inl j35_ccdg))] → va_S A s.heap H locs → W p l e ({ frames := 3, cells := 0, slots := 0, locals := 71 }) s m [.ref cd, .int v0, .int v1].toArray below meth c H locs 0 0 Q (F0 m 35 ls []) := by
    intro j35_fcd_4 j35_cp0r j35_ccdg H locs ls r35_1001 hc35_1002 ho35_1003 hl hP hD hS
    refine lv_aload_n hx hb dX0_codeWithPushed_35 rfl (lv_at hl 0 rfl) ?_
    refine lv_iload_n hx hb dX0_codeWithPushed_36 rfl (lv_at hl 1 rfl) ?_
    refine lv_iconst (v := 4) hx hb dX0_codeWithPushed_37 (by decide) ?_
    refine lv_ishl hx hb dX0_codeWithPushed_38 ?_
    refine lv_topi (fun z38_1 ez38_1 => ?_)
    refine lv_bipush (v := 12) hx hb dX0_codeWithPushed_39 (by decide) ?_
    refine lv_ior hx hb dX0_codeWithPushed_41 ?_
    refine lv_topi (fun z41_1 ez41_1 => ?_)
    refine lv_iconst (v := 0) hx hb dX0_codeWithPushed_42 (by decide) ?_
    refine lv_bipush (v := 7) hx hb dX0_codeWithPushed_43 (by decide) ?_
    refine lv_iconst (v := 0) hx hb dX0_codeWithPushed_45 (by decide) ?_
    refine lv_iconst (v := 0) hx hb dX0_codeWithPushed_46 (by decide) ?_
    refine go_v (k1 := 0) (n1 := 0) (wr := [(f0, .inr (2, [.ref f00, .ref f01, .ref f02, .int x_f0_3, .ref f04, .ref f05, .ref f06, .ref f07, .ref f08, .ref f09, .ref f010, .int x_f0_11, .int x_f0_12, .ref f013, .int x_f0_14, .ref f015, .int x_f0_16, .ref f017]))]) [1, 2, 3, 4] [0] (rn_V (As := [.int z41_1, .int 0, .int 7, .int 0, .int 0]) (rest := []) (c_X0_put l D ct cd z41_1 (0 : Int32) (7 : Int32) (0 : Int32) (0 : Int32) cds cdg f0 p0 j35_fcd_4 p0r x_p0_1 j35_cp0r j35_ccdg (rg_of (show 0 ≤ j35_fcd_4.toInt ∧ j35_fcd_4.toInt ≤ 1200000000 by have q0 := r35_1001.1; have q1 := r35_1001.2; have q2 := h_x_cd_4.1; have q3 := h_x_cd_4.2; have q4 := hp2_7.1; have q5 := hp2_7.2; have q6 := hp2_9; have q7 := ho35_1003; omega)) h_x_p0_1 hc35_1002 _) (cb_of (n := 5) hn mw_848 mw_9 mw_845 mhX0_put ⟨(Nat.le_of_ble_eq_true rfl), (Nat.le_of_ble_eq_true rfl)⟩) hx hb hml hown hn hK hSK hZ hS mw_847 mw_s75 (ci := 0) (q0 := 0) rfl rfl rfl rfl hl.1 (Nat.le_of_ble_eq_true rfl) dX0_codeWithPushed_47 ⟨(Nat.le_of_ble_eq_true rfl), (Nat.le_of_ble_eq_true rfl)⟩) hP hD hS hA rfl rfl (by decide) (by decide) (by decide) (Nat.le_of_ble_eq_true rfl) (Nat.le_of_ble_eq_true rfl) (fun u47_2 H locs hp47_3 hP hD hS => ?_)
    obtain ⟨y_cd_447_4, k_p0r47_5, k_cdg47_6⟩ := u47_2
    obtain ⟨hp47_7, hp47_8, hp47_9⟩ := hp47_3
    have hp47_7 : rg y_cd_447_4 1 1200000001 := hp47_7
    have hp47_9 : y_cd_447_4.toInt = j35_fcd_4.toInt + 1 := hp47_9
    have hP : va_P D vwCl [(f0, .inr (2, [.ref f00, .ref f01, .ref f02, .int x_f0_3, .ref f04, .ref f05, .ref f06, .ref f07, .ref f08, .ref f09, .ref f010, .int x_f0_11, .int x_f0_12, .ref f013, .int x_f0_14, .ref f015, .int x_f0_16, .ref f017])), (cd, .inr (0, [.ref cds, .ref cdg, .ref f0, .ref p0, .int y_cd_447_4])), (p0, .inr (7, [.ref p0r, .int x_p0_1])), (p0r, .inl (ct 2, 4000, .inr (.inl k_p0r47_5))), (cdg, .inl (ct 1, 4000, .inl k_cdg47_6))] _ := hP
    have hD : va_D A [(f0, .inr (2, [.ref f00, .ref f01, .ref f02, .int x_f0_3, .ref f04, .ref f05, .ref f06, .ref f07, .ref f08, .ref f09, .ref f010, .int x_f0_11, .int x_f0_12, .ref f013, .int x_f0_14, .ref f015, .int x_f0_16, .ref f017])), (cd, .inr (0, [.ref cds, .ref cdg, .ref f0, .ref p0, .int y_cd_447_4])), (p0, .inr (7, [.ref p0r, .int x_p0_1])), (p0r, .inl (ct 2, 4000, .inr (.inl k_p0r47_5))), (cdg, .inl (ct 1, 4000, .inl k_cdg47_6))] := hD
    exact endq_v hQ hx hb hr hlocks dX0_codeWithPushed_50 (y_cd_447_4, k_p0r47_5, k_cdg47_6) ⟨hp47_7, hp47_8, (show x_cd_4.toInt + 3 ≤ y_cd_447_4.toInt ∧ y_cd_447_4.toInt ≤ x_cd_4.toInt + 4 by have q0 := h_x_cd_4.1; have q1 := h_x_cd_4.2; have q2 := hp47_7.1; have q3 := hp47_7.2; have q4 := hp2_7.1; have q5 := hp2_7.2; have q6 := r35_1001.1; have q7 := r35_1001.2; have q8 := hp2_9; have q9 := ho35_1003; have q10 := hp47_9; omega)⟩ hP hD hS [1, 2, 3, 4, 0] rfl (by decide) rfl (Nat.le_of_ble_eq_true rfl) (Nat.le_of_ble_eq_true rfl)
  have b16 : ∀  (H : Heap) (locs : List Loc) (ls : Array Slot), lv_has ls 3 [(0, .ref cd), (1, .int v0)] → va_P D vwCl [(f0, .inr (2, [.ref f00, .ref f01, .ref f02, .int x_f0_3, .ref f04, .ref f05, .ref f06, .ref f07, .ref f08, .ref f09, .ref f010, .int x_f0_11, .int x_f0_12, .ref f013, .int x_f0_14, .ref f015, .int x_f0_16, .ref f017])), (cd, .inr (0, [.ref cds, .ref cdg, .ref f0, .ref p0, .int y_cd_42_4])), (p0, .inr (7, [.ref p0r, .int x_p0_1])), (p0r, .inl (ct 2, 4000, .inr (.inl k_p0r2_5))), (cdg, .inl (ct 1, 4000, .inl k_cdg2_6))] H → va_D A [(f0, .inr (2, [.ref f00, .ref f01, .ref f02, .int x_f0_3, .ref f04, .ref f05, .ref f06, .ref f07, .ref f08, .ref f09, .ref f010, .int x_f0_11, .int x_f0_12, .ref f013, .int x_f0_14, .ref f015, .int x_f0_16, .ref f017])), (cd, .inr (0, [.ref cds, .ref cdg, .ref f0, .ref p0, .int y_cd_42_4])), (p0, .inr (7, [.ref p0r, .int x_p0_1])), (p0r, .inl (ct 2, 4000, .inr (.inl k_p0r2_5))), (cdg, .inl (ct 1, 4000, .inl k_cdg2_6))] → va_S A s.heap H locs → W p l e ({ frames := 3, cells := 0, slots := 0, locals := 71 }) s m [.ref cd, .int v0, .int v1].toArray below meth c H locs 0 0 Q (F0 m 16 ls []) := by
    intro  H locs ls  hl hP hD hS
    refine lv_aload_n hx hb dX0_codeWithPushed_16 rfl (lv_at hl 0 rfl) ?_
    refine lv_bipush (v := 22) hx hb dX0_codeWithPushed_17 (by decide) ?_
    refine lv_bipush (v := 7) hx hb dX0_codeWithPushed_19 (by decide) ?_
    refine lv_iconst (v := 0) hx hb dX0_codeWithPushed_21 (by decide) ?_
    refine lv_iconst (v := 0) hx hb dX0_codeWithPushed_22 (by decide) ?_
    refine lv_aload_n hx hb dX0_codeWithPushed_23 rfl (lv_at hl 0 rfl) ?_
    refine va_get (D := D) (ci := 0) (v := .ref f0) (C := RX0) (T := TX0) (N := 5) hx hb (htX0 hn) (fun _ h => h) hown hK hP 1 rfl rfl 2 (by decide) (hn.get mw_268 rfl) (fun _ h9 => h9) rfl dX0_codeWithPushed_24 ?_
    refine va_getN (D := D) (ci := 2) (v := .int x_f0_11) (C := RX2) (T := TX2) (N := 18) hx hb (htX2 hn) (fun _ h => h) hown hK hP 0 rfl rfl 11 (by decide) (hn.get mw_170 rfl) (fun _ h9 => h9) rfl dX0_codeWithPushed_27 ?_
    refine lv_iconst (v := 1) hx hb dX0_codeWithPushed_30 (by decide) ?_
    refine lv_iadd hx hb dX0_codeWithPushed_31 ?_
    refine lv_topi (fun z31_1 ez31_1 => ?_)
    have r31_2 : rg z31_1 1 3001 := rg_add ez31_1 h_x_f0_11 (show rg (1 : Int32) 1 1 from rg_l (by decide)) (by decide)
    refine go_v (k1 := 0) (n1 := 0) (wr := [(f0, .inr (2, [.ref f00, .ref f01, .ref f02, .int x_f0_3, .ref f04, .ref f05, .ref f06, .ref f07, .ref f08, .ref f09, .ref f010, .int x_f0_11, .int x_f0_12, .ref f013, .int x_f0_14, .ref f015, .int x_f0_16, .ref f017]))]) [1, 2, 3, 4] [0] (rn_V (As := [.int 22, .int 7, .int 0, .int 0, .int z31_1]) (rest := []) (c_X0_putGoing l D ct cd (22 : Int32) (7 : Int32) (0 : Int32) (0 : Int32) z31_1 cds cdg f0 p0 y_cd_42_4 p0r x_p0_1 k_p0r2_5 k_cdg2_6 (rg_w r31_2 (by decide)) (rg_of (show 0 ≤ y_cd_42_4.toInt ∧ y_cd_42_4.toInt ≤ 1199999990 by have q0 := hp2_7.1; have q1 := hp2_7.2; have q2 := h_x_cd_4.1; have q3 := h_x_cd_4.2; have q4 := hp2_9; omega)) h_x_p0_1 hp2_8 _) (cb_of (n := 5) hn mw_877 mw_9 mw_874 mhX0_putGoing ⟨(Nat.le_of_ble_eq_true rfl), (Nat.le_of_ble_eq_true rfl)⟩) hx hb hml hown hn hK hSK hZ hS mw_876 mw_s81 (ci := 0) (q0 := 0) rfl rfl rfl rfl hl.1 (Nat.le_of_ble_eq_true rfl) dX0_codeWithPushed_32 ⟨(Nat.le_of_ble_eq_true rfl), (Nat.le_of_ble_eq_true rfl)⟩) hP hD hS hA rfl rfl (by decide) (by decide) (by decide) (Nat.le_of_ble_eq_true rfl) (Nat.le_of_ble_eq_true rfl) (fun u32_2 H locs hp32_3 hP hD hS => ?_)
    obtain ⟨y_cd_432_4, k_p0r32_5, k_cdg32_6⟩ := u32_2
    obtain ⟨hp32_7, hp32_8, hp32_9⟩ := hp32_3
    have hp32_7 : rg y_cd_432_4 1 1200000001 := hp32_7
    have hp32_9 : y_cd_432_4.toInt = y_cd_42_4.toInt + 1 := hp32_9
    have hP : va_P D vwCl [(f0, .inr (2, [.ref f00, .ref f01, .ref f02, .int x_f0_3, .ref f04, .ref f05, .ref f06, .ref f07, .ref f08, .ref f09, .ref f010, .int x_f0_11, .int x_f0_12, .ref f013, .int x_f0_14, .ref f015, .int x_f0_16, .ref f017])), (cd, .inr (0, [.ref cds, .ref cdg, .ref f0, .ref p0, .int y_cd_432_4])), (p0, .inr (7, [.ref p0r, .int x_p0_1])), (p0r, .inl (ct 2, 4000, .inr (.inl k_p0r32_5))), (cdg, .inl (ct 1, 4000, .inl k_cdg32_6))] _ := hP
    have hD : va_D A [(f0, .inr (2, [.ref f00, .ref f01, .ref f02, .int x_f0_3, .ref f04, .ref f05, .ref f06, .ref f07, .ref f08, .ref f09, .ref f010, .int x_f0_11, .int x_f0_12, .ref f013, .int x_f0_14, .ref f015, .int x_f0_16, .ref f017])), (cd, .inr (0, [.ref cds, .ref cdg, .ref f0, .ref p0, .int y_cd_432_4])), (p0, .inr (7, [.ref p0r, .int x_p0_1])), (p0r, .inl (ct 2, 4000, .inr (.inl k_p0r32_5))), (cdg, .inl (ct 1, 4000, .inl k_cdg32_6))] := hD
    exact b35 y_cd_432_4 k_p0r32_5 k_cdg32_6 H locs ls hp32_7 hp32_8 (show x_cd_4.toInt + 2 ≤ y_cd_432_4.toInt ∧ y_cd_432_4.toInt ≤ x_cd_4.toInt + 3 by have q0 := h_x_cd_4.1; have q1 := h_x_cd_4.2; have q2 := hp32_7.1; have q3 := hp32_7.2; have q4 := hp2_7.1; have q5 := hp2_7.2; have q6 := hp2_9; have q7 := hp32_9; omega) (lv_sub hl [0, 1] rfl) hP hD hS
  refine lv_icmp_eq (tgt := 16) hx hb dX0_codeWithPushed_7 (by decide) (fun c7_1 => ?_) (fun c7_1 => ?_)
  · have t7_2 := (i_eq c7_1)
    have r7_3 : rg v0 3 3 := rg_eqA t7_2 (rg_any v0) (show rg (3 : Int32) 3 3 from rg_l (by decide)) (by decide)
    exact b16  H locs ls  (lv_sub hl [0, 1] rfl) hP hD hS
  · have t7_2 := (i_ne c7_1)
    refine lv_iload_n hx hb dX0_codeWithPushed_10 rfl (lv_at hl 1 rfl) ?_
    refine lv_bipush (v := 9) hx hb dX0_codeWithPushed_11 (by decide) ?_
    refine lv_icmp_ne (tgt := 35) hx hb dX0_codeWithPushed_13 (by decide) (fun c13_1 => ?_) (fun c13_1 => ?_)
    · have t13_2 := (i_ne c13_1)
      exact b35 y_cd_42_4 k_p0r2_5 k_cdg2_6 H locs ls hp2_7 hp2_8 (show x_cd_4.toInt + 2 ≤ y_cd_42_4.toInt ∧ y_cd_42_4.toInt ≤ x_cd_4.toInt + 3 by have q0 := h_x_cd_4.1; have q1 := h_x_cd_4.2; have q2 := hp2_7.1; have q3 := hp2_7.2; have q4 := hp2_9; omega) (lv_sub hl [0, 1] rfl) hP hD hS
    · have t13_2 := (i_eq c13_1)
      have r13_3 : rg v0 9 9 := rg_eqA t13_2 (rg_any v0) (show rg (9 : Int32) 9 9 from rg_l (by decide)) (by decide)
      exact b16  H locs ls  (lv_sub hl [0, 1] rfl) hP hD hS
set_option maxHeartbeats 2000000 in
theorem c_X0_codeReadInBody (l : Launch) (D : va_G) (ct : Nat → ClassId) (cd : Nat) (v0 : Int32) (v1 : Int32) (cds : Nat) (cdg : Nat) (f0 : Nat) (p0 : Nat) (x_cd_4 : Int32) (p0r : Nat) (x_p0_1 : Int32) (g_p0r : Nat → Int64) (g_cdg : Nat → Int32) (h_x_cd_4 : rg x_cd_4 0 1199999970) (h_x_p0_1 : rg x_p0_1 0 4000) (h_g_cdg : Rg g_cdg 4000 (-1) 3001) : KV (S := Int32 × (Nat → Int64) × (Nat → Int32)) l yX0_codeReadInBody cX0_codeReadInBody 3 none 3 67 D ct [.ref cd, .int v0, .int v1] [(cd, .inr (0, [.ref cds, .ref cdg, .ref f0, .ref p0, .int x_cd_4])), (p0, .inr (7, [.ref p0r, .int x_p0_1])), (p0r, .inl (ct 2, 4000, .inr (.inl g_p0r))), (cdg, .inl (ct 1, 4000, .inl g_cdg))] 0 0 (fun (u : Int32 × (Nat → Int64) × (Nat → Int32)) => match u with | (y_cd_4, k_p0r, k_cdg) => rg y_cd_4 1 1200000001 ∧ Rg k_cdg 4000 (-1) 3001 ∧ (y_cd_4.toInt = x_cd_4.toInt + 7)) (fun (u : Int32 × (Nat → Int64) × (Nat → Int32)) => match u with | (y_cd_4, k_p0r, k_cdg) => [(cd, .inr (0, [.ref cds, .ref cdg, .ref f0, .ref p0, .int y_cd_4])), (p0, .inr (7, [.ref p0r, .int x_p0_1])), (p0r, .inl (ct 2, 4000, .inr (.inl k_p0r))), (cdg, .inl (ct 1, 4000, .inl k_cdg))]) := by
  refine KVq_of (by decide) (Nat.le_of_ble_eq_true rfl) (fun p e s m below meth c A Q C0 hA H locs hS hP hD hQ ls hl => ?_)
  obtain ⟨hx, hb, hr, hown, hin, hml, hlocks, hn, hK, hZ, hSK⟩ := C0
  have hl : lv_has ls 3 [(0, .ref cd), (1, .int v0), (2, .int v1)] := hl
  refine lv_aload_n hx hb dX0_codeReadInBody_0 rfl (lv_at hl 0 rfl) ?_
  refine lv_iload_n hx hb dX0_codeReadInBody_1 rfl (lv_at hl 2 rfl) ?_
  refine go_v (k1 := 0) (n1 := 0) (wr := []) [0, 1, 2, 3] [] (rn_V (As := [.int v1]) (rest := []) (c_X0_codePush l D ct cd v1 cds cdg f0 p0 x_cd_4 p0r x_p0_1 g_p0r g_cdg (rg_w h_x_cd_4 (by decide)) h_x_p0_1 h_g_cdg _) (cb_of (n := 1) hn mw_866 mw_9 mw_863 mhX0_codePush ⟨(Nat.le_of_ble_eq_true rfl), (Nat.le_of_ble_eq_true rfl)⟩) hx hb hml hown hn hK hSK hZ hS mw_865 mw_s79 (ci := 0) (q0 := 0) rfl rfl rfl rfl hl.1 (Nat.le_of_ble_eq_true rfl) dX0_codeReadInBody_2 ⟨(Nat.le_of_ble_eq_true rfl), (Nat.le_of_ble_eq_true rfl)⟩) hP hD hS hA rfl rfl (by decide) (by decide) (by decide) (Nat.le_of_ble_eq_true rfl) (Nat.le_of_ble_eq_true rfl) (fun u2_2 H locs hp2_3 hP hD hS => ?_)
  obtain ⟨y_cd_42_4, k_p0r2_5, k_cdg2_6⟩ := u2_2
  obtain ⟨hp2_7, hp2_8, hp2_9⟩ := hp2_3
  have hp2_7 : rg y_cd_42_4 1 1200000001 := hp2_7
  have hp2_9 : y_cd_42_4.toInt = x_cd_4.toInt + 1 := hp2_9
  have hP : va_P D vwCl [(cd, .inr (0, [.ref cds, .ref cdg, .ref f0, .ref p0, .int y_cd_42_4])), (p0, .inr (7, [.ref p0r, .int x_p0_1])), (p0r, .inl (ct 2, 4000, .inr (.inl k_p0r2_5))), (cdg, .inl (ct 1, 4000, .inl k_cdg2_6))] _ := hP
  have hD : va_D A [(cd, .inr (0, [.ref cds, .ref cdg, .ref f0, .ref p0, .int y_cd_42_4])), (p0, .inr (7, [.ref p0r, .int x_p0_1])), (p0r, .inl (ct 2, 4000, .inr (.inl k_p0r2_5))), (cdg, .inl (ct 1, 4000, .inl k_cdg2_6))] := hD
  refine lv_aload_n hx hb dX0_codeReadInBody_5 rfl (lv_at hl 0 rfl) ?_
  refine lv_iconst (v := 1) hx hb dX0_codeReadInBody_6 (by decide) ?_
  refine go_i (k1 := 0) (n1 := 0) (wr := [(cd, .inr (0, [.ref cds, .ref cdg, .ref f0, .ref p0, .int y_cd_42_4])), (p0, .inr (7, [.ref p0r, .int x_p0_1])), (p0r, .inl (ct 2, 4000, .inr (.inl k_p0r2_5))), (cdg, .inl (ct 1, 4000, .inl k_cdg2_6))]) [] [0, 1, 2, 3] (rn_S (As := [.int 1]) (rest := [.ref cd]) (c_X0_readCode l D ct (1 : Int32)  _) (cb_of (n := 1) hn mw_888 mw_9 mw_886 mhX0_readCode ⟨(Nat.le_of_ble_eq_true rfl), (Nat.le_of_ble_eq_true rfl)⟩) hx hb hml hown hn hK hSK hZ hS mw_887 rfl hl.1 (Nat.le_of_ble_eq_true rfl) dX0_codeReadInBody_7 ⟨(Nat.le_of_ble_eq_true rfl), (Nat.le_of_ble_eq_true rfl)⟩) hP hD hS hA rfl rfl (by decide) (by decide) (by decide) (Nat.le_of_ble_eq_true rfl) (Nat.le_of_ble_eq_true rfl) (fun r7_1 u7_2 H locs hp7_3 hP hD hS => ?_)
  have hp7_4 := hp7_3
  have hp7_4 : rg r7_1 32 48 := hp7_4
  have hP : va_P D vwCl [(cd, .inr (0, [.ref cds, .ref cdg, .ref f0, .ref p0, .int y_cd_42_4])), (p0, .inr (7, [.ref p0r, .int x_p0_1])), (p0r, .inl (ct 2, 4000, .inr (.inl k_p0r2_5))), (cdg, .inl (ct 1, 4000, .inl k_cdg2_6))] _ := hP
  have hD : va_D A [(cd, .inr (0, [.ref cds, .ref cdg, .ref f0, .ref p0, .int y_cd_42_4])), (p0, .inr (7, [.ref p0r, .int x_p0_1])), (p0r, .inl (ct 2, 4000, .inr (.inl k_p0r2_5))), (cdg, .inl (ct 1, 4000, .inl k_cdg2_6))] := hD
  refine lv_iconst (v := 0) hx hb dX0_codeReadInBody_10 (by decide) ?_
  refine lv_iconst (v := 0) hx hb dX0_codeReadInBody_11 (by decide) ?_
  refine lv_iconst (v := 0) hx hb dX0_codeReadInBody_12 (by decide) ?_
  refine lv_bipush (v := 14) hx hb dX0_codeReadInBody_13 (by decide) ?_
  refine go_v (k1 := 0) (n1 := 0) (wr := []) [0, 1, 2, 3] [] (rn_V (As := [.int r7_1, .int 0, .int 0, .int 0, .int 14]) (rest := []) (c_X0_put l D ct cd r7_1 (0 : Int32) (0 : Int32) (0 : Int32) (14 : Int32) cds cdg f0 p0 y_cd_42_4 p0r x_p0_1 k_p0r2_5 k_cdg2_6 (rg_of (show 0 ≤ y_cd_42_4.toInt ∧ y_cd_42_4.toInt ≤ 1200000000 by have q0 := hp2_7.1; have q1 := hp2_7.2; have q2 := h_x_cd_4.1; have q3 := h_x_cd_4.2; have q4 := hp2_9; omega)) h_x_p0_1 hp2_8 _) (cb_of (n := 5) hn mw_848 mw_9 mw_845 mhX0_put ⟨(Nat.le_of_ble_eq_true rfl), (Nat.le_of_ble_eq_true rfl)⟩) hx hb hml hown hn hK hSK hZ hS mw_847 mw_s75 (ci := 0) (q0 := 0) rfl rfl rfl rfl hl.1 (Nat.le_of_ble_eq_true rfl) dX0_codeReadInBody_15 ⟨(Nat.le_of_ble_eq_true rfl), (Nat.le_of_ble_eq_true rfl)⟩) hP hD hS hA rfl rfl (by decide) (by decide) (by decide) (Nat.le_of_ble_eq_true rfl) (Nat.le_of_ble_eq_true rfl) (fun u15_2 H locs hp15_3 hP hD hS => ?_)
  obtain ⟨y_cd_415_4, k_p0r15_5, k_cdg15_6⟩ := u15_2
  obtain ⟨hp15_7, hp15_8, hp15_9⟩ := hp15_3
  have hp15_7 : rg y_cd_415_4 1 1200000001 := hp15_7
  have hp15_9 : y_cd_415_4.toInt = y_cd_42_4.toInt + 1 := hp15_9
  have hP : va_P D vwCl [(cd, .inr (0, [.ref cds, .ref cdg, .ref f0, .ref p0, .int y_cd_415_4])), (p0, .inr (7, [.ref p0r, .int x_p0_1])), (p0r, .inl (ct 2, 4000, .inr (.inl k_p0r15_5))), (cdg, .inl (ct 1, 4000, .inl k_cdg15_6))] _ := hP
  have hD : va_D A [(cd, .inr (0, [.ref cds, .ref cdg, .ref f0, .ref p0, .int y_cd_415_4])), (p0, .inr (7, [.ref p0r, .int x_p0_1])), (p0r, .inl (ct 2, 4000, .inr (.inl k_p0r15_5))), (cdg, .inl (ct 1, 4000, .inl k_cdg15_6))] := hD
  refine lv_aload_n hx hb dX0_codeReadInBody_18 rfl (lv_at hl 0 rfl) ?_
  refine lv_bipush (v := 84) hx hb dX0_codeReadInBody_19 (by decide) ?_
  refine lv_iconst (v := 0) hx hb dX0_codeReadInBody_21 (by decide) ?_
  refine lv_iconst (v := 0) hx hb dX0_codeReadInBody_22 (by decide) ?_
  refine lv_iconst (v := 0) hx hb dX0_codeReadInBody_23 (by decide) ?_
  refine lv_bipush (v := 15) hx hb dX0_codeReadInBody_24 (by decide) ?_
  refine go_v (k1 := 0) (n1 := 0) (wr := []) [0, 1, 2, 3] [] (rn_V (As := [.int 84, .int 0, .int 0, .int 0, .int 15]) (rest := []) (c_X0_put l D ct cd (84 : Int32) (0 : Int32) (0 : Int32) (0 : Int32) (15 : Int32) cds cdg f0 p0 y_cd_415_4 p0r x_p0_1 k_p0r15_5 k_cdg15_6 (rg_of (show 0 ≤ y_cd_415_4.toInt ∧ y_cd_415_4.toInt ≤ 1200000000 by have q0 := hp15_7.1; have q1 := hp15_7.2; have q2 := hp2_7.1; have q3 := hp2_7.2; have q4 := h_x_cd_4.1; have q5 := h_x_cd_4.2; have q6 := hp2_9; have q7 := hp15_9; omega)) h_x_p0_1 hp15_8 _) (cb_of (n := 5) hn mw_848 mw_9 mw_845 mhX0_put ⟨(Nat.le_of_ble_eq_true rfl), (Nat.le_of_ble_eq_true rfl)⟩) hx hb hml hown hn hK hSK hZ hS mw_847 mw_s75 (ci := 0) (q0 := 0) rfl rfl rfl rfl hl.1 (Nat.le_of_ble_eq_true rfl) dX0_codeReadInBody_26 ⟨(Nat.le_of_ble_eq_true rfl), (Nat.le_of_ble_eq_true rfl)⟩) hP hD hS hA rfl rfl (by decide) (by decide) (by decide) (Nat.le_of_ble_eq_true rfl) (Nat.le_of_ble_eq_true rfl) (fun u26_2 H locs hp26_3 hP hD hS => ?_)
  obtain ⟨y_cd_426_4, k_p0r26_5, k_cdg26_6⟩ := u26_2
  obtain ⟨hp26_7, hp26_8, hp26_9⟩ := hp26_3
  have hp26_7 : rg y_cd_426_4 1 1200000001 := hp26_7
  have hp26_9 : y_cd_426_4.toInt = y_cd_415_4.toInt + 1 := hp26_9
  have hP : va_P D vwCl [(cd, .inr (0, [.ref cds, .ref cdg, .ref f0, .ref p0, .int y_cd_426_4])), (p0, .inr (7, [.ref p0r, .int x_p0_1])), (p0r, .inl (ct 2, 4000, .inr (.inl k_p0r26_5))), (cdg, .inl (ct 1, 4000, .inl k_cdg26_6))] _ := hP
  have hD : va_D A [(cd, .inr (0, [.ref cds, .ref cdg, .ref f0, .ref p0, .int y_cd_426_4])), (p0, .inr (7, [.ref p0r, .int x_p0_1])), (p0r, .inl (ct 2, 4000, .inr (.inl k_p0r26_5))), (cdg, .inl (ct 1, 4000, .inl k_cdg26_6))] := hD
  refine lv_aload_n hx hb dX0_codeReadInBody_29 rfl (lv_at hl 0 rfl) ?_
  refine lv_bipush (v := 100) hx hb dX0_codeReadInBody_30 (by decide) ?_
  refine lv_iconst (v := 0) hx hb dX0_codeReadInBody_32 (by decide) ?_
  refine lv_iconst (v := 0) hx hb dX0_codeReadInBody_33 (by decide) ?_
  refine lv_iconst (v := 0) hx hb dX0_codeReadInBody_34 (by decide) ?_
  refine lv_iconst (v := 2) hx hb dX0_codeReadInBody_35 (by decide) ?_
  refine go_v (k1 := 0) (n1 := 0) (wr := []) [0, 1, 2, 3] [] (rn_V (As := [.int 100, .int 0, .int 0, .int 0, .int 2]) (rest := []) (c_X0_put l D ct cd (100 : Int32) (0 : Int32) (0 : Int32) (0 : Int32) (2 : Int32) cds cdg f0 p0 y_cd_426_4 p0r x_p0_1 k_p0r26_5 k_cdg26_6 (rg_of (show 0 ≤ y_cd_426_4.toInt ∧ y_cd_426_4.toInt ≤ 1200000000 by have q0 := hp26_7.1; have q1 := hp26_7.2; have q2 := hp15_7.1; have q3 := hp15_7.2; have q4 := hp2_7.1; have q5 := hp2_7.2; have q6 := h_x_cd_4.1; have q7 := h_x_cd_4.2; have q8 := hp2_9; have q9 := hp15_9; have q10 := hp26_9; omega)) h_x_p0_1 hp26_8 _) (cb_of (n := 5) hn mw_848 mw_9 mw_845 mhX0_put ⟨(Nat.le_of_ble_eq_true rfl), (Nat.le_of_ble_eq_true rfl)⟩) hx hb hml hown hn hK hSK hZ hS mw_847 mw_s75 (ci := 0) (q0 := 0) rfl rfl rfl rfl hl.1 (Nat.le_of_ble_eq_true rfl) dX0_codeReadInBody_36 ⟨(Nat.le_of_ble_eq_true rfl), (Nat.le_of_ble_eq_true rfl)⟩) hP hD hS hA rfl rfl (by decide) (by decide) (by decide) (Nat.le_of_ble_eq_true rfl) (Nat.le_of_ble_eq_true rfl) (fun u36_2 H locs hp36_3 hP hD hS => ?_)
  obtain ⟨y_cd_436_4, k_p0r36_5, k_cdg36_6⟩ := u36_2
  obtain ⟨hp36_7, hp36_8, hp36_9⟩ := hp36_3
  have hp36_7 : rg y_cd_436_4 1 1200000001 := hp36_7
  have hp36_9 : y_cd_436_4.toInt = y_cd_426_4.toInt + 1 := hp36_9
  have hP : va_P D vwCl [(cd, .inr (0, [.ref cds, .ref cdg, .ref f0, .ref p0, .int y_cd_436_4])), (p0, .inr (7, [.ref p0r, .int x_p0_1])), (p0r, .inl (ct 2, 4000, .inr (.inl k_p0r36_5))), (cdg, .inl (ct 1, 4000, .inl k_cdg36_6))] _ := hP
  have hD : va_D A [(cd, .inr (0, [.ref cds, .ref cdg, .ref f0, .ref p0, .int y_cd_436_4])), (p0, .inr (7, [.ref p0r, .int x_p0_1])), (p0r, .inl (ct 2, 4000, .inr (.inl k_p0r36_5))), (cdg, .inl (ct 1, 4000, .inl k_cdg36_6))] := hD
  refine lv_aload_n hx hb dX0_codeReadInBody_39 rfl (lv_at hl 0 rfl) ?_
  refine lv_bipush (v := 121) hx hb dX0_codeReadInBody_40 (by decide) ?_
  refine lv_bipush (v := 7) hx hb dX0_codeReadInBody_42 (by decide) ?_
  refine lv_bipush (v := 10) hx hb dX0_codeReadInBody_44 (by decide) ?_
  refine lv_iload_n hx hb dX0_codeReadInBody_46 rfl (lv_at hl 2 rfl) ?_
  refine go_i (k1 := 0) (n1 := 0) (wr := [(cd, .inr (0, [.ref cds, .ref cdg, .ref f0, .ref p0, .int y_cd_436_4])), (p0, .inr (7, [.ref p0r, .int x_p0_1])), (p0r, .inl (ct 2, 4000, .inr (.inl k_p0r36_5))), (cdg, .inl (ct 1, 4000, .inl k_cdg36_6))]) [] [0, 1, 2, 3] (rn_S (As := [.int v1]) (rest := [.int 10, .int 7, .int 121, .ref cd]) (c_X0_slot l D ct v1  _) (cb_of (n := 1) hn mw_869 mw_9 mw_867 mhX0_slot ⟨(Nat.le_of_ble_eq_true rfl), (Nat.le_of_ble_eq_true rfl)⟩) hx hb hml hown hn hK hSK hZ hS mw_868 rfl hl.1 (Nat.le_of_ble_eq_true rfl) dX0_codeReadInBody_47 ⟨(Nat.le_of_ble_eq_true rfl), (Nat.le_of_ble_eq_true rfl)⟩) hP hD hS hA rfl rfl (by decide) (by decide) (by decide) (Nat.le_of_ble_eq_true rfl) (Nat.le_of_ble_eq_true rfl) (fun r47_1 u47_2 H locs hp47_3 hP hD hS => ?_)
  have hP : va_P D vwCl [(cd, .inr (0, [.ref cds, .ref cdg, .ref f0, .ref p0, .int y_cd_436_4])), (p0, .inr (7, [.ref p0r, .int x_p0_1])), (p0r, .inl (ct 2, 4000, .inr (.inl k_p0r36_5))), (cdg, .inl (ct 1, 4000, .inl k_cdg36_6))] _ := hP
  have hD : va_D A [(cd, .inr (0, [.ref cds, .ref cdg, .ref f0, .ref p0, .int y_cd_436_4])), (p0, .inr (7, [.ref p0r, .int x_p0_1])), (p0r, .inl (ct 2, 4000, .inr (.inl k_p0r36_5))), (cdg, .inl (ct 1, 4000, .inl k_cdg36_6))] := hD
  refine lv_iconst (v := 0) hx hb dX0_codeReadInBody_50 (by decide) ?_
  refine go_v (k1 := 0) (n1 := 0) (wr := []) [0, 1, 2, 3] [] (rn_V (As := [.int 121, .int 7, .int 10, .int r47_1, .int 0]) (rest := []) (c_X0_put l D ct cd (121 : Int32) (7 : Int32) (10 : Int32) r47_1 (0 : Int32) cds cdg f0 p0 y_cd_436_4 p0r x_p0_1 k_p0r36_5 k_cdg36_6 (rg_of (show 0 ≤ y_cd_436_4.toInt ∧ y_cd_436_4.toInt ≤ 1200000000 by have q0 := hp36_7.1; have q1 := hp36_7.2; have q2 := hp26_7.1; have q3 := hp26_7.2; have q4 := hp15_7.1; have q5 := hp15_7.2; have q6 := hp2_7.1; have q7 := hp2_7.2; have q8 := h_x_cd_4.1; have q9 := h_x_cd_4.2; have q10 := hp2_9; have q11 := hp15_9; have q12 := hp26_9; have q13 := hp36_9; omega)) h_x_p0_1 hp36_8 _) (cb_of (n := 5) hn mw_848 mw_9 mw_845 mhX0_put ⟨(Nat.le_of_ble_eq_true rfl), (Nat.le_of_ble_eq_true rfl)⟩) hx hb hml hown hn hK hSK hZ hS mw_847 mw_s75 (ci := 0) (q0 := 0) rfl rfl rfl rfl hl.1 (Nat.le_of_ble_eq_true rfl) dX0_codeReadInBody_51 ⟨(Nat.le_of_ble_eq_true rfl), (Nat.le_of_ble_eq_true rfl)⟩) hP hD hS hA rfl rfl (by decide) (by decide) (by decide) (Nat.le_of_ble_eq_true rfl) (Nat.le_of_ble_eq_true rfl) (fun u51_2 H locs hp51_3 hP hD hS => ?_)
  obtain ⟨y_cd_451_4, k_p0r51_5, k_cdg51_6⟩ := u51_2
  obtain ⟨hp51_7, hp51_8, hp51_9⟩ := hp51_3
  have hp51_7 : rg y_cd_451_4 1 1200000001 := hp51_7
  have hp51_9 : y_cd_451_4.toInt = y_cd_436_4.toInt + 1 := hp51_9
  have hP : va_P D vwCl [(cd, .inr (0, [.ref cds, .ref cdg, .ref f0, .ref p0, .int y_cd_451_4])), (p0, .inr (7, [.ref p0r, .int x_p0_1])), (p0r, .inl (ct 2, 4000, .inr (.inl k_p0r51_5))), (cdg, .inl (ct 1, 4000, .inl k_cdg51_6))] _ := hP
  have hD : va_D A [(cd, .inr (0, [.ref cds, .ref cdg, .ref f0, .ref p0, .int y_cd_451_4])), (p0, .inr (7, [.ref p0r, .int x_p0_1])), (p0r, .inl (ct 2, 4000, .inr (.inl k_p0r51_5))), (cdg, .inl (ct 1, 4000, .inl k_cdg51_6))] := hD
  refine lv_aload_n hx hb dX0_codeReadInBody_54 rfl (lv_at hl 0 rfl) ?_
  refine lv_bipush (v := 12) hx hb dX0_codeReadInBody_55 (by decide) ?_
  refine lv_iconst (v := 0) hx hb dX0_codeReadInBody_57 (by decide) ?_
  refine lv_bipush (v := 7) hx hb dX0_codeReadInBody_58 (by decide) ?_
  refine lv_iconst (v := 0) hx hb dX0_codeReadInBody_60 (by decide) ?_
  refine lv_iconst (v := 0) hx hb dX0_codeReadInBody_61 (by decide) ?_
  refine go_v (k1 := 0) (n1 := 0) (wr := []) [0, 1, 2, 3] [] (rn_V (As := [.int 12, .int 0, .int 7, .int 0, .int 0]) (rest := []) (c_X0_put l D ct cd (12 : Int32) (0 : Int32) (7 : Int32) (0 : Int32) (0 : Int32) cds cdg f0 p0 y_cd_451_4 p0r x_p0_1 k_p0r51_5 k_cdg51_6 (rg_of (show 0 ≤ y_cd_451_4.toInt ∧ y_cd_451_4.toInt ≤ 1200000000 by have q0 := hp51_7.1; have q1 := hp51_7.2; have q2 := hp36_7.1; have q3 := hp36_7.2; have q4 := hp26_7.1; have q5 := hp26_7.2; have q6 := hp15_7.1; have q7 := hp15_7.2; have q8 := hp2_7.1; have q9 := hp2_7.2; have q10 := h_x_cd_4.1; have q11 := h_x_cd_4.2; have q12 := hp2_9; have q13 := hp15_9; have q14 := hp26_9; have q15 := hp36_9; have q16 := hp51_9; omega)) h_x_p0_1 hp51_8 _) (cb_of (n := 5) hn mw_848 mw_9 mw_845 mhX0_put ⟨(Nat.le_of_ble_eq_true rfl), (Nat.le_of_ble_eq_true rfl)⟩) hx hb hml hown hn hK hSK hZ hS mw_847 mw_s75 (ci := 0) (q0 := 0) rfl rfl rfl rfl hl.1 (Nat.le_of_ble_eq_true rfl) dX0_codeReadInBody_62 ⟨(Nat.le_of_ble_eq_true rfl), (Nat.le_of_ble_eq_true rfl)⟩) hP hD hS hA rfl rfl (by decide) (by decide) (by decide) (Nat.le_of_ble_eq_true rfl) (Nat.le_of_ble_eq_true rfl) (fun u62_2 H locs hp62_3 hP hD hS => ?_)
  obtain ⟨y_cd_462_4, k_p0r62_5, k_cdg62_6⟩ := u62_2
  obtain ⟨hp62_7, hp62_8, hp62_9⟩ := hp62_3
  have hp62_7 : rg y_cd_462_4 1 1200000001 := hp62_7
  have hp62_9 : y_cd_462_4.toInt = y_cd_451_4.toInt + 1 := hp62_9
  have hP : va_P D vwCl [(cd, .inr (0, [.ref cds, .ref cdg, .ref f0, .ref p0, .int y_cd_462_4])), (p0, .inr (7, [.ref p0r, .int x_p0_1])), (p0r, .inl (ct 2, 4000, .inr (.inl k_p0r62_5))), (cdg, .inl (ct 1, 4000, .inl k_cdg62_6))] _ := hP
  have hD : va_D A [(cd, .inr (0, [.ref cds, .ref cdg, .ref f0, .ref p0, .int y_cd_462_4])), (p0, .inr (7, [.ref p0r, .int x_p0_1])), (p0r, .inl (ct 2, 4000, .inr (.inl k_p0r62_5))), (cdg, .inl (ct 1, 4000, .inl k_cdg62_6))] := hD
  refine lv_aload_n hx hb dX0_codeReadInBody_65 rfl (lv_at hl 0 rfl) ?_
  refine lv_iload_n hx hb dX0_codeReadInBody_66 rfl (lv_at hl 1 rfl) ?_
  refine go_i (k1 := 0) (n1 := 0) (wr := [(cd, .inr (0, [.ref cds, .ref cdg, .ref f0, .ref p0, .int y_cd_462_4])), (p0, .inr (7, [.ref p0r, .int x_p0_1])), (p0r, .inl (ct 2, 4000, .inr (.inl k_p0r62_5))), (cdg, .inl (ct 1, 4000, .inl k_cdg62_6))]) [] [0, 1, 2, 3] (rn_S (As := [.int v0]) (rest := [.ref cd]) (c_X0_readCode l D ct v0  _) (cb_of (n := 1) hn mw_888 mw_9 mw_886 mhX0_readCode ⟨(Nat.le_of_ble_eq_true rfl), (Nat.le_of_ble_eq_true rfl)⟩) hx hb hml hown hn hK hSK hZ hS mw_887 rfl hl.1 (Nat.le_of_ble_eq_true rfl) dX0_codeReadInBody_67 ⟨(Nat.le_of_ble_eq_true rfl), (Nat.le_of_ble_eq_true rfl)⟩) hP hD hS hA rfl rfl (by decide) (by decide) (by decide) (Nat.le_of_ble_eq_true rfl) (Nat.le_of_ble_eq_true rfl) (fun r67_1 u67_2 H locs hp67_3 hP hD hS => ?_)
  have hp67_4 := hp67_3
  have hp67_4 : rg r67_1 32 48 := hp67_4
  have hP : va_P D vwCl [(cd, .inr (0, [.ref cds, .ref cdg, .ref f0, .ref p0, .int y_cd_462_4])), (p0, .inr (7, [.ref p0r, .int x_p0_1])), (p0r, .inl (ct 2, 4000, .inr (.inl k_p0r62_5))), (cdg, .inl (ct 1, 4000, .inl k_cdg62_6))] _ := hP
  have hD : va_D A [(cd, .inr (0, [.ref cds, .ref cdg, .ref f0, .ref p0, .int y_cd_462_4])), (p0, .inr (7, [.ref p0r, .int x_p0_1])), (p0r, .inl (ct 2, 4000, .inr (.inl k_p0r62_5))), (cdg, .inl (ct 1, 4000, .inl k_cdg62_6))] := hD
  refine lv_bipush (v := 32) hx hb dX0_codeReadInBody_70 (by decide) ?_
  refine lv_iadd hx hb dX0_codeReadInBody_72 ?_
  refine lv_topi (fun z72_1 ez72_1 => ?_)
  have r72_2 : rg z72_1 64 80 := rg_add ez72_1 hp67_4 (show rg (32 : Int32) 32 32 from rg_l (by decide)) (by decide)
  refine lv_iconst (v := 0) hx hb dX0_codeReadInBody_73 (by decide) ?_
  refine lv_iconst (v := 0) hx hb dX0_codeReadInBody_74 (by decide) ?_
  refine lv_iconst (v := 0) hx hb dX0_codeReadInBody_75 (by decide) ?_
  refine lv_bipush (v := 14) hx hb dX0_codeReadInBody_76 (by decide) ?_
  refine go_v (k1 := 0) (n1 := 0) (wr := []) [0, 1, 2, 3] [] (rn_V (As := [.int z72_1, .int 0, .int 0, .int 0, .int 14]) (rest := []) (c_X0_put l D ct cd z72_1 (0 : Int32) (0 : Int32) (0 : Int32) (14 : Int32) cds cdg f0 p0 y_cd_462_4 p0r x_p0_1 k_p0r62_5 k_cdg62_6 (rg_of (show 0 ≤ y_cd_462_4.toInt ∧ y_cd_462_4.toInt ≤ 1200000000 by have q0 := hp62_7.1; have q1 := hp62_7.2; have q2 := hp51_7.1; have q3 := hp51_7.2; have q4 := hp36_7.1; have q5 := hp36_7.2; have q6 := hp26_7.1; have q7 := hp26_7.2; have q8 := hp15_7.1; have q9 := hp15_7.2; have q10 := hp2_7.1; have q11 := hp2_7.2; have q12 := h_x_cd_4.1; have q13 := h_x_cd_4.2; have q14 := hp2_9; have q15 := hp15_9; have q16 := hp26_9; have q17 := hp36_9; have q18 := hp51_9; have q19 := hp62_9; omega)) h_x_p0_1 hp62_8 _) (cb_of (n := 5) hn mw_848 mw_9 mw_845 mhX0_put ⟨(Nat.le_of_ble_eq_true rfl), (Nat.le_of_ble_eq_true rfl)⟩) hx hb hml hown hn hK hSK hZ hS mw_847 mw_s75 (ci := 0) (q0 := 0) rfl rfl rfl rfl hl.1 (Nat.le_of_ble_eq_true rfl) dX0_codeReadInBody_78 ⟨(Nat.le_of_ble_eq_true rfl), (Nat.le_of_ble_eq_true rfl)⟩) hP hD hS hA rfl rfl (by decide) (by decide) (by decide) (Nat.le_of_ble_eq_true rfl) (Nat.le_of_ble_eq_true rfl) (fun u78_2 H locs hp78_3 hP hD hS => ?_)
  obtain ⟨y_cd_478_4, k_p0r78_5, k_cdg78_6⟩ := u78_2
  obtain ⟨hp78_7, hp78_8, hp78_9⟩ := hp78_3
  have hp78_7 : rg y_cd_478_4 1 1200000001 := hp78_7
  have hp78_9 : y_cd_478_4.toInt = y_cd_462_4.toInt + 1 := hp78_9
  have hP : va_P D vwCl [(cd, .inr (0, [.ref cds, .ref cdg, .ref f0, .ref p0, .int y_cd_478_4])), (p0, .inr (7, [.ref p0r, .int x_p0_1])), (p0r, .inl (ct 2, 4000, .inr (.inl k_p0r78_5))), (cdg, .inl (ct 1, 4000, .inl k_cdg78_6))] _ := hP
  have hD : va_D A [(cd, .inr (0, [.ref cds, .ref cdg, .ref f0, .ref p0, .int y_cd_478_4])), (p0, .inr (7, [.ref p0r, .int x_p0_1])), (p0r, .inl (ct 2, 4000, .inr (.inl k_p0r78_5))), (cdg, .inl (ct 1, 4000, .inl k_cdg78_6))] := hD
  exact endq_v hQ hx hb hr hlocks dX0_codeReadInBody_81 (y_cd_478_4, k_p0r78_5, k_cdg78_6) ⟨hp78_7, hp78_8, (show y_cd_478_4.toInt = x_cd_4.toInt + 7 by have q0 := h_x_cd_4.1; have q1 := h_x_cd_4.2; have q2 := hp78_7.1; have q3 := hp78_7.2; have q4 := hp2_7.1; have q5 := hp2_7.2; have q6 := hp62_7.1; have q7 := hp62_7.2; have q8 := hp15_7.1; have q9 := hp15_7.2; have q10 := hp51_7.1; have q11 := hp51_7.2; have q12 := hp26_7.1; have q13 := hp26_7.2; have q14 := hp36_7.1; have q15 := hp36_7.2; have q16 := hp2_9; have q17 := hp15_9; have q18 := hp26_9; have q19 := hp36_9; have q20 := hp51_9; have q21 := hp62_9; have q22 := hp78_9; omega)⟩ hP hD hS [0, 1, 2, 3] rfl (by decide) rfl (Nat.le_of_ble_eq_true rfl) (Nat.le_of_ble_eq_true rfl)
set_option maxHeartbeats 2000000 in
theorem c_X0_codeItem (l : Launch) (D : va_G) (ct : Nat → ClassId) (cd : Nat) (v0 : Int32) (v1 : Int32) (v2 : Int32) (cds : Nat) (cdg : Nat) (f0 : Nat) (p0 : Nat) (x_cd_4 : Int32) (p0r : Nat) (x_p0_1 : Int32) (g_p0r : Nat → Int64) (g_cdg : Nat → Int32) (f00 : Nat) (f01 : Nat) (f02 : Nat) (x_f0_3 : Int32) (f04 : Nat) (f05 : Nat) (f06 : Nat) (f07 : Nat) (f08 : Nat) (f09 : Nat) (f010 : Nat) (x_f0_11 : Int32) (x_f0_12 : Int32) (f013 : Nat) (x_f0_14 : Int32) (f015 : Nat) (x_f0_16 : Int32) (f017 : Nat) (h_x_cd_4 : rg x_cd_4 0 1199999900) (h_x_p0_1 : rg x_p0_1 0 4000) (h_g_cdg : Rg g_cdg 4000 (-1) 3001) (h_x_f0_3 : rg x_f0_3 0 7000) (h_x_f0_11 : rg x_f0_11 0 3000) (h_x_f0_12 : rg x_f0_12 0 3000) (h_x_f0_14 : rg x_f0_14 2 5000) (h_x_f0_16 : rg x_f0_16 0 6) : KV (S := Int32 × (Nat → Int64) × (Nat → Int32)) l yX0_codeItem cX0_codeItem 4 none 4 93 D ct [.ref cd, .int v0, .int v1, .int v2] [(cd, .inr (0, [.ref cds, .ref cdg, .ref f0, .ref p0, .int x_cd_4])), (p0, .inr (7, [.ref p0r, .int x_p0_1])), (p0r, .inl (ct 2, 4000, .inr (.inl g_p0r))), (cdg, .inl (ct 1, 4000, .inl g_cdg)), (f0, .inr (2, [.ref f00, .ref f01, .ref f02, .int x_f0_3, .ref f04, .ref f05, .ref f06, .ref f07, .ref f08, .ref f09, .ref f010, .int x_f0_11, .int x_f0_12, .ref f013, .int x_f0_14, .ref f015, .int x_f0_16, .ref f017]))] 0 0 (fun (u : Int32 × (Nat → Int64) × (Nat → Int32)) => match u with | (y_cd_4, k_p0r, k_cdg) => rg y_cd_4 0 1200000001 ∧ Rg k_cdg 4000 (-1) 3001 ∧ (x_cd_4.toInt + 0 ≤ y_cd_4.toInt ∧ y_cd_4.toInt ≤ x_cd_4.toInt + 7)) (fun (u : Int32 × (Nat → Int64) × (Nat → Int32)) => match u with | (y_cd_4, k_p0r, k_cdg) => [(cd, .inr (0, [.ref cds, .ref cdg, .ref f0, .ref p0, .int y_cd_4])), (p0, .inr (7, [.ref p0r, .int x_p0_1])), (p0r, .inl (ct 2, 4000, .inr (.inl k_p0r))), (cdg, .inl (ct 1, 4000, .inl k_cdg)), (f0, .inr (2, [.ref f00, .ref f01, .ref f02, .int x_f0_3, .ref f04, .ref f05, .ref f06, .ref f07, .ref f08, .ref f09, .ref f010, .int x_f0_11, .int x_f0_12, .ref f013, .int x_f0_14, .ref f015, .int x_f0_16, .ref f017]))]) := by
  refine KVq_of (by decide) (Nat.le_of_ble_eq_true rfl) (fun p e s m below meth c A Q C0 hA H locs hS hP hD hQ ls hl => ?_)
  obtain ⟨hx, hb, hr, hown, hin, hml, hlocks, hn, hK, hZ, hSK⟩ := C0
  have hl : lv_has ls 4 [(0, .ref cd), (1, .int v0), (2, .int v1), (3, .int v2)] := hl
  refine lv_iload_n hx hb dX0_codeItem_0 rfl (lv_at hl 1 rfl) ?_
  by_cases h1_101 : v0.toInt = 0
  · have r1_102 : rg v0 0 0 := rg_at h1_101
    refine lv_tableIn (off := 51) (tgt := 52) hx hb dX0_codeItem_1 (by rw [h1_101]; decide) (by rw [h1_101]; decide) (by rw [h1_101]; rfl) (by decide) ?_
    refine lv_aload_n hx hb dX0_codeItem_52 rfl (lv_at hl 0 rfl) ?_
    refine lv_sipush (v := 180) hx hb dX0_codeItem_53 (by decide) ?_
    refine lv_iconst (v := 0) hx hb dX0_codeItem_56 (by decide) ?_
    refine lv_iconst (v := 0) hx hb dX0_codeItem_57 (by decide) ?_
    refine lv_iconst (v := 0) hx hb dX0_codeItem_58 (by decide) ?_
    refine lv_iload_n hx hb dX0_codeItem_59 rfl (lv_at hl 3 rfl) ?_
    refine go_v (k1 := 0) (n1 := 0) (wr := [(f0, .inr (2, [.ref f00, .ref f01, .ref f02, .int x_f0_3, .ref f04, .ref f05, .ref f06, .ref f07, .ref f08, .ref f09, .ref f010, .int x_f0_11, .int x_f0_12, .ref f013, .int x_f0_14, .ref f015, .int x_f0_16, .ref f017]))]) [0, 1, 2, 3] [4] (rn_V (As := [.int 180, .int 0, .int 0, .int 0, .int v2]) (rest := []) (c_X0_put l D ct cd (180 : Int32) (0 : Int32) (0 : Int32) (0 : Int32) v2 cds cdg f0 p0 x_cd_4 p0r x_p0_1 g_p0r g_cdg (rg_w h_x_cd_4 (by decide)) h_x_p0_1 h_g_cdg _) (cb_of (n := 5) hn mw_848 mw_9 mw_845 mhX0_put ⟨(Nat.le_of_ble_eq_true rfl), (Nat.le_of_ble_eq_true rfl)⟩) hx hb hml hown hn hK hSK hZ hS mw_847 mw_s75 (ci := 0) (q0 := 0) rfl rfl rfl rfl hl.1 (Nat.le_of_ble_eq_true rfl) dX0_codeItem_60 ⟨(Nat.le_of_ble_eq_true rfl), (Nat.le_of_ble_eq_true rfl)⟩) hP hD hS hA rfl rfl (by decide) (by decide) (by decide) (Nat.le_of_ble_eq_true rfl) (Nat.le_of_ble_eq_true rfl) (fun u60_2 H locs hp60_3 hP hD hS => ?_)
    obtain ⟨y_cd_460_4, k_p0r60_5, k_cdg60_6⟩ := u60_2
    obtain ⟨hp60_7, hp60_8, hp60_9⟩ := hp60_3
    have hp60_7 : rg y_cd_460_4 1 1200000001 := hp60_7
    have hp60_9 : y_cd_460_4.toInt = x_cd_4.toInt + 1 := hp60_9
    have hP : va_P D vwCl [(f0, .inr (2, [.ref f00, .ref f01, .ref f02, .int x_f0_3, .ref f04, .ref f05, .ref f06, .ref f07, .ref f08, .ref f09, .ref f010, .int x_f0_11, .int x_f0_12, .ref f013, .int x_f0_14, .ref f015, .int x_f0_16, .ref f017])), (cd, .inr (0, [.ref cds, .ref cdg, .ref f0, .ref p0, .int y_cd_460_4])), (p0, .inr (7, [.ref p0r, .int x_p0_1])), (p0r, .inl (ct 2, 4000, .inr (.inl k_p0r60_5))), (cdg, .inl (ct 1, 4000, .inl k_cdg60_6))] _ := hP
    have hD : va_D A [(f0, .inr (2, [.ref f00, .ref f01, .ref f02, .int x_f0_3, .ref f04, .ref f05, .ref f06, .ref f07, .ref f08, .ref f09, .ref f010, .int x_f0_11, .int x_f0_12, .ref f013, .int x_f0_14, .ref f015, .int x_f0_16, .ref f017])), (cd, .inr (0, [.ref cds, .ref cdg, .ref f0, .ref p0, .int y_cd_460_4])), (p0, .inr (7, [.ref p0r, .int x_p0_1])), (p0r, .inl (ct 2, 4000, .inr (.inl k_p0r60_5))), (cdg, .inl (ct 1, 4000, .inl k_cdg60_6))] := hD
    refine lv_goto (tgt := 163) hx hb dX0_codeItem_63 (by decide) ?_
    exact endq_v hQ hx hb hr hlocks dX0_codeItem_163 (y_cd_460_4, k_p0r60_5, k_cdg60_6) ⟨(rg_w hp60_7 (by decide)), hp60_8, (show x_cd_4.toInt + 0 ≤ y_cd_460_4.toInt ∧ y_cd_460_4.toInt ≤ x_cd_4.toInt + 7 by have q0 := h_x_cd_4.1; have q1 := h_x_cd_4.2; have q2 := hp60_7.1; have q3 := hp60_7.2; have q4 := hp60_9; omega)⟩ hP hD hS [1, 2, 3, 4, 0] rfl (by decide) rfl (Nat.le_of_ble_eq_true rfl) (Nat.le_of_ble_eq_true rfl)
  by_cases h1_111 : v0.toInt = 1
  · have r1_112 : rg v0 1 1 := rg_at h1_111
    refine lv_tableIn (off := 65) (tgt := 66) hx hb dX0_codeItem_1 (by rw [h1_111]; decide) (by rw [h1_111]; decide) (by rw [h1_111]; rfl) (by decide) ?_
    refine lv_aload_n hx hb dX0_codeItem_66 rfl (lv_at hl 0 rfl) ?_
    refine lv_sipush (v := 188) hx hb dX0_codeItem_67 (by decide) ?_
    refine lv_iconst (v := 0) hx hb dX0_codeItem_70 (by decide) ?_
    refine lv_bipush (v := 6) hx hb dX0_codeItem_71 (by decide) ?_
    refine lv_iconst (v := 0) hx hb dX0_codeItem_73 (by decide) ?_
    refine lv_iconst (v := 0) hx hb dX0_codeItem_74 (by decide) ?_
    refine go_v (k1 := 0) (n1 := 0) (wr := [(f0, .inr (2, [.ref f00, .ref f01, .ref f02, .int x_f0_3, .ref f04, .ref f05, .ref f06, .ref f07, .ref f08, .ref f09, .ref f010, .int x_f0_11, .int x_f0_12, .ref f013, .int x_f0_14, .ref f015, .int x_f0_16, .ref f017]))]) [0, 1, 2, 3] [4] (rn_V (As := [.int 188, .int 0, .int 6, .int 0, .int 0]) (rest := []) (c_X0_put l D ct cd (188 : Int32) (0 : Int32) (6 : Int32) (0 : Int32) (0 : Int32) cds cdg f0 p0 x_cd_4 p0r x_p0_1 g_p0r g_cdg (rg_w h_x_cd_4 (by decide)) h_x_p0_1 h_g_cdg _) (cb_of (n := 5) hn mw_848 mw_9 mw_845 mhX0_put ⟨(Nat.le_of_ble_eq_true rfl), (Nat.le_of_ble_eq_true rfl)⟩) hx hb hml hown hn hK hSK hZ hS mw_847 mw_s75 (ci := 0) (q0 := 0) rfl rfl rfl rfl hl.1 (Nat.le_of_ble_eq_true rfl) dX0_codeItem_75 ⟨(Nat.le_of_ble_eq_true rfl), (Nat.le_of_ble_eq_true rfl)⟩) hP hD hS hA rfl rfl (by decide) (by decide) (by decide) (Nat.le_of_ble_eq_true rfl) (Nat.le_of_ble_eq_true rfl) (fun u75_2 H locs hp75_3 hP hD hS => ?_)
    obtain ⟨y_cd_475_4, k_p0r75_5, k_cdg75_6⟩ := u75_2
    obtain ⟨hp75_7, hp75_8, hp75_9⟩ := hp75_3
    have hp75_7 : rg y_cd_475_4 1 1200000001 := hp75_7
    have hp75_9 : y_cd_475_4.toInt = x_cd_4.toInt + 1 := hp75_9
    have hP : va_P D vwCl [(f0, .inr (2, [.ref f00, .ref f01, .ref f02, .int x_f0_3, .ref f04, .ref f05, .ref f06, .ref f07, .ref f08, .ref f09, .ref f010, .int x_f0_11, .int x_f0_12, .ref f013, .int x_f0_14, .ref f015, .int x_f0_16, .ref f017])), (cd, .inr (0, [.ref cds, .ref cdg, .ref f0, .ref p0, .int y_cd_475_4])), (p0, .inr (7, [.ref p0r, .int x_p0_1])), (p0r, .inl (ct 2, 4000, .inr (.inl k_p0r75_5))), (cdg, .inl (ct 1, 4000, .inl k_cdg75_6))] _ := hP
    have hD : va_D A [(f0, .inr (2, [.ref f00, .ref f01, .ref f02, .int x_f0_3, .ref f04, .ref f05, .ref f06, .ref f07, .ref f08, .ref f09, .ref f010, .int x_f0_11, .int x_f0_12, .ref f013, .int x_f0_14, .ref f015, .int x_f0_16, .ref f017])), (cd, .inr (0, [.ref cds, .ref cdg, .ref f0, .ref p0, .int y_cd_475_4])), (p0, .inr (7, [.ref p0r, .int x_p0_1])), (p0r, .inl (ct 2, 4000, .inr (.inl k_p0r75_5))), (cdg, .inl (ct 1, 4000, .inl k_cdg75_6))] := hD
    refine lv_goto (tgt := 163) hx hb dX0_codeItem_78 (by decide) ?_
    exact endq_v hQ hx hb hr hlocks dX0_codeItem_163 (y_cd_475_4, k_p0r75_5, k_cdg75_6) ⟨(rg_w hp75_7 (by decide)), hp75_8, (show x_cd_4.toInt + 0 ≤ y_cd_475_4.toInt ∧ y_cd_475_4.toInt ≤ x_cd_4.toInt + 7 by have q0 := h_x_cd_4.1; have q1 := h_x_cd_4.2; have q2 := hp75_7.1; have q3 := hp75_7.2; have q4 := hp75_9; omega)⟩ hP hD hS [1, 2, 3, 4, 0] rfl (by decide) rfl (Nat.le_of_ble_eq_true rfl) (Nat.le_of_ble_eq_true rfl)
  by_cases h1_121 : v0.toInt = 2
  · have r1_122 : rg v0 2 2 := rg_at h1_121
    refine lv_tableIn (off := 80) (tgt := 81) hx hb dX0_codeItem_1 (by rw [h1_121]; decide) (by rw [h1_121]; decide) (by rw [h1_121]; rfl) (by decide) ?_
    refine lv_aload_n hx hb dX0_codeItem_81 rfl (lv_at hl 0 rfl) ?_
    refine lv_iload_n hx hb dX0_codeItem_82 rfl (lv_at hl 3 rfl) ?_
    refine go_v (k1 := 0) (n1 := 0) (wr := [(f0, .inr (2, [.ref f00, .ref f01, .ref f02, .int x_f0_3, .ref f04, .ref f05, .ref f06, .ref f07, .ref f08, .ref f09, .ref f010, .int x_f0_11, .int x_f0_12, .ref f013, .int x_f0_14, .ref f015, .int x_f0_16, .ref f017]))]) [0, 1, 2, 3] [4] (rn_V (As := [.int v2]) (rest := []) (c_X0_codePush l D ct cd v2 cds cdg f0 p0 x_cd_4 p0r x_p0_1 g_p0r g_cdg (rg_w h_x_cd_4 (by decide)) h_x_p0_1 h_g_cdg _) (cb_of (n := 1) hn mw_866 mw_9 mw_863 mhX0_codePush ⟨(Nat.le_of_ble_eq_true rfl), (Nat.le_of_ble_eq_true rfl)⟩) hx hb hml hown hn hK hSK hZ hS mw_865 mw_s79 (ci := 0) (q0 := 0) rfl rfl rfl rfl hl.1 (Nat.le_of_ble_eq_true rfl) dX0_codeItem_83 ⟨(Nat.le_of_ble_eq_true rfl), (Nat.le_of_ble_eq_true rfl)⟩) hP hD hS hA rfl rfl (by decide) (by decide) (by decide) (Nat.le_of_ble_eq_true rfl) (Nat.le_of_ble_eq_true rfl) (fun u83_2 H locs hp83_3 hP hD hS => ?_)
    obtain ⟨y_cd_483_4, k_p0r83_5, k_cdg83_6⟩ := u83_2
    obtain ⟨hp83_7, hp83_8, hp83_9⟩ := hp83_3
    have hp83_7 : rg y_cd_483_4 1 1200000001 := hp83_7
    have hp83_9 : y_cd_483_4.toInt = x_cd_4.toInt + 1 := hp83_9
    have hP : va_P D vwCl [(f0, .inr (2, [.ref f00, .ref f01, .ref f02, .int x_f0_3, .ref f04, .ref f05, .ref f06, .ref f07, .ref f08, .ref f09, .ref f010, .int x_f0_11, .int x_f0_12, .ref f013, .int x_f0_14, .ref f015, .int x_f0_16, .ref f017])), (cd, .inr (0, [.ref cds, .ref cdg, .ref f0, .ref p0, .int y_cd_483_4])), (p0, .inr (7, [.ref p0r, .int x_p0_1])), (p0r, .inl (ct 2, 4000, .inr (.inl k_p0r83_5))), (cdg, .inl (ct 1, 4000, .inl k_cdg83_6))] _ := hP
    have hD : va_D A [(f0, .inr (2, [.ref f00, .ref f01, .ref f02, .int x_f0_3, .ref f04, .ref f05, .ref f06, .ref f07, .ref f08, .ref f09, .ref f010, .int x_f0_11, .int x_f0_12, .ref f013, .int x_f0_14, .ref f015, .int x_f0_16, .ref f017])), (cd, .inr (0, [.ref cds, .ref cdg, .ref f0, .ref p0, .int y_cd_483_4])), (p0, .inr (7, [.ref p0r, .int x_p0_1])), (p0r, .inl (ct 2, 4000, .inr (.inl k_p0r83_5))), (cdg, .inl (ct 1, 4000, .inl k_cdg83_6))] := hD
    refine lv_goto (tgt := 163) hx hb dX0_codeItem_86 (by decide) ?_
    exact endq_v hQ hx hb hr hlocks dX0_codeItem_163 (y_cd_483_4, k_p0r83_5, k_cdg83_6) ⟨(rg_w hp83_7 (by decide)), hp83_8, (show x_cd_4.toInt + 0 ≤ y_cd_483_4.toInt ∧ y_cd_483_4.toInt ≤ x_cd_4.toInt + 7 by have q0 := h_x_cd_4.1; have q1 := h_x_cd_4.2; have q2 := hp83_7.1; have q3 := hp83_7.2; have q4 := hp83_9; omega)⟩ hP hD hS [1, 2, 3, 4, 0] rfl (by decide) rfl (Nat.le_of_ble_eq_true rfl) (Nat.le_of_ble_eq_true rfl)
  by_cases h1_131 : v0.toInt = 3
  · have r1_132 : rg v0 3 3 := rg_at h1_131
    refine lv_tableIn (off := 88) (tgt := 89) hx hb dX0_codeItem_1 (by rw [h1_131]; decide) (by rw [h1_131]; decide) (by rw [h1_131]; rfl) (by decide) ?_
    refine lv_aload_n hx hb dX0_codeItem_89 rfl (lv_at hl 0 rfl) ?_
    refine lv_iload_n hx hb dX0_codeItem_90 rfl (lv_at hl 2 rfl) ?_
    refine lv_iload_n hx hb dX0_codeItem_91 rfl (lv_at hl 3 rfl) ?_
    refine go_v (k1 := 0) (n1 := 0) (wr := []) [0, 4, 1, 2, 3] [] (rn_V (As := [.int v1, .int v2]) (rest := []) (c_X0_codeWithNumber l D ct cd v1 v2 cds cdg f0 p0 x_cd_4 f00 f01 f02 x_f0_3 f04 f05 f06 f07 f08 f09 f010 x_f0_11 x_f0_12 f013 x_f0_14 f015 x_f0_16 f017 p0r x_p0_1 g_p0r g_cdg (rg_w h_x_cd_4 (by decide)) h_x_f0_3 h_x_f0_11 h_x_f0_12 h_x_f0_14 h_x_f0_16 h_x_p0_1 h_g_cdg _) (cb_of (n := 2) hn mw_873 mw_9 mw_870 mhX0_codeWithNumber ⟨(Nat.le_of_ble_eq_true rfl), (Nat.le_of_ble_eq_true rfl)⟩) hx hb hml hown hn hK hSK hZ hS mw_872 mw_s80 (ci := 0) (q0 := 0) rfl rfl rfl rfl hl.1 (Nat.le_of_ble_eq_true rfl) dX0_codeItem_92 ⟨(Nat.le_of_ble_eq_true rfl), (Nat.le_of_ble_eq_true rfl)⟩) hP hD hS hA rfl rfl (by decide) (by decide) (by decide) (Nat.le_of_ble_eq_true rfl) (Nat.le_of_ble_eq_true rfl) (fun u92_2 H locs hp92_3 hP hD hS => ?_)
    obtain ⟨y_cd_492_4, k_p0r92_5, k_cdg92_6⟩ := u92_2
    obtain ⟨hp92_7, hp92_8, hp92_9⟩ := hp92_3
    have hp92_7 : rg y_cd_492_4 1 1200000001 := hp92_7
    have hp92_9 : y_cd_492_4.toInt = x_cd_4.toInt + 1 := hp92_9
    have hP : va_P D vwCl [(cd, .inr (0, [.ref cds, .ref cdg, .ref f0, .ref p0, .int y_cd_492_4])), (f0, .inr (2, [.ref f00, .ref f01, .ref f02, .int x_f0_3, .ref f04, .ref f05, .ref f06, .ref f07, .ref f08, .ref f09, .ref f010, .int x_f0_11, .int x_f0_12, .ref f013, .int x_f0_14, .ref f015, .int x_f0_16, .ref f017])), (p0, .inr (7, [.ref p0r, .int x_p0_1])), (p0r, .inl (ct 2, 4000, .inr (.inl k_p0r92_5))), (cdg, .inl (ct 1, 4000, .inl k_cdg92_6))] _ := hP
    have hD : va_D A [(cd, .inr (0, [.ref cds, .ref cdg, .ref f0, .ref p0, .int y_cd_492_4])), (f0, .inr (2, [.ref f00, .ref f01, .ref f02, .int x_f0_3, .ref f04, .ref f05, .ref f06, .ref f07, .ref f08, .ref f09, .ref f010, .int x_f0_11, .int x_f0_12, .ref f013, .int x_f0_14, .ref f015, .int x_f0_16, .ref f017])), (p0, .inr (7, [.ref p0r, .int x_p0_1])), (p0r, .inl (ct 2, 4000, .inr (.inl k_p0r92_5))), (cdg, .inl (ct 1, 4000, .inl k_cdg92_6))] := hD
    refine lv_goto (tgt := 163) hx hb dX0_codeItem_95 (by decide) ?_
    exact endq_v hQ hx hb hr hlocks dX0_codeItem_163 (y_cd_492_4, k_p0r92_5, k_cdg92_6) ⟨(rg_w hp92_7 (by decide)), hp92_8, (show x_cd_4.toInt + 0 ≤ y_cd_492_4.toInt ∧ y_cd_492_4.toInt ≤ x_cd_4.toInt + 7 by have q0 := h_x_cd_4.1; have q1 := h_x_cd_4.2; have q2 := hp92_7.1; have q3 := hp92_7.2; have q4 := hp92_9; omega)⟩ hP hD hS [0, 2, 3, 4, 1] rfl (by decide) rfl (Nat.le_of_ble_eq_true rfl) (Nat.le_of_ble_eq_true rfl)
  by_cases h1_141 : v0.toInt = 4
  · have r1_142 : rg v0 4 4 := rg_at h1_141
    refine lv_tableIn (off := 97) (tgt := 98) hx hb dX0_codeItem_1 (by rw [h1_141]; decide) (by rw [h1_141]; decide) (by rw [h1_141]; rfl) (by decide) ?_
    refine lv_aload_n hx hb dX0_codeItem_98 rfl (lv_at hl 0 rfl) ?_
    refine lv_iload_n hx hb dX0_codeItem_99 rfl (lv_at hl 2 rfl) ?_
    refine lv_iload_n hx hb dX0_codeItem_100 rfl (lv_at hl 3 rfl) ?_
    refine go_v (k1 := 0) (n1 := 0) (wr := []) [0, 1, 2, 3, 4] [] (rn_V (As := [.int v1, .int v2]) (rest := []) (c_X0_codeWithPushed l D ct cd v1 v2 cds cdg f0 p0 x_cd_4 p0r x_p0_1 g_p0r g_cdg f00 f01 f02 x_f0_3 f04 f05 f06 f07 f08 f09 f010 x_f0_11 x_f0_12 f013 x_f0_14 f015 x_f0_16 f017 (rg_w h_x_cd_4 (by decide)) h_x_p0_1 h_g_cdg h_x_f0_3 h_x_f0_11 h_x_f0_12 h_x_f0_14 h_x_f0_16 _) (cb_of (n := 2) hn mw_881 mw_9 mw_878 mhX0_codeWithPushed ⟨(Nat.le_of_ble_eq_true rfl), (Nat.le_of_ble_eq_true rfl)⟩) hx hb hml hown hn hK hSK hZ hS mw_880 mw_s82 (ci := 0) (q0 := 0) rfl rfl rfl rfl hl.1 (Nat.le_of_ble_eq_true rfl) dX0_codeItem_101 ⟨(Nat.le_of_ble_eq_true rfl), (Nat.le_of_ble_eq_true rfl)⟩) hP hD hS hA rfl rfl (by decide) (by decide) (by decide) (Nat.le_of_ble_eq_true rfl) (Nat.le_of_ble_eq_true rfl) (fun u101_2 H locs hp101_3 hP hD hS => ?_)
    obtain ⟨y_cd_4101_4, k_p0r101_5, k_cdg101_6⟩ := u101_2
    obtain ⟨hp101_7, hp101_8, hp101_9⟩ := hp101_3
    have hp101_7 : rg y_cd_4101_4 1 1200000001 := hp101_7
    have hp101_9 : x_cd_4.toInt + 3 ≤ y_cd_4101_4.toInt ∧ y_cd_4101_4.toInt ≤ x_cd_4.toInt + 4 := hp101_9
    have hP : va_P D vwCl [(cd, .inr (0, [.ref cds, .ref cdg, .ref f0, .ref p0, .int y_cd_4101_4])), (p0, .inr (7, [.ref p0r, .int x_p0_1])), (p0r, .inl (ct 2, 4000, .inr (.inl k_p0r101_5))), (cdg, .inl (ct 1, 4000, .inl k_cdg101_6)), (f0, .inr (2, [.ref f00, .ref f01, .ref f02, .int x_f0_3, .ref f04, .ref f05, .ref f06, .ref f07, .ref f08, .ref f09, .ref f010, .int x_f0_11, .int x_f0_12, .ref f013, .int x_f0_14, .ref f015, .int x_f0_16, .ref f017]))] _ := hP
    have hD : va_D A [(cd, .inr (0, [.ref cds, .ref cdg, .ref f0, .ref p0, .int y_cd_4101_4])), (p0, .inr (7, [.ref p0r, .int x_p0_1])), (p0r, .inl (ct 2, 4000, .inr (.inl k_p0r101_5))), (cdg, .inl (ct 1, 4000, .inl k_cdg101_6)), (f0, .inr (2, [.ref f00, .ref f01, .ref f02, .int x_f0_3, .ref f04, .ref f05, .ref f06, .ref f07, .ref f08, .ref f09, .ref f010, .int x_f0_11, .int x_f0_12, .ref f013, .int x_f0_14, .ref f015, .int x_f0_16, .ref f017]))] := hD
    refine lv_goto (tgt := 163) hx hb dX0_codeItem_104 (by decide) ?_
    exact endq_v hQ hx hb hr hlocks dX0_codeItem_163 (y_cd_4101_4, k_p0r101_5, k_cdg101_6) ⟨(rg_w hp101_7 (by decide)), hp101_8, (show x_cd_4.toInt + 0 ≤ y_cd_4101_4.toInt ∧ y_cd_4101_4.toInt ≤ x_cd_4.toInt + 7 by have q0 := h_x_cd_4.1; have q1 := h_x_cd_4.2; have q2 := hp101_7.1; have q3 := hp101_7.2; have q4 := hp101_9; omega)⟩ hP hD hS [0, 1, 2, 3, 4] rfl (by decide) rfl (Nat.le_of_ble_eq_true rfl) (Nat.le_of_ble_eq_true rfl)
  by_cases h1_151 : v0.toInt = 5
  · have r1_152 : rg v0 5 5 := rg_at h1_151
    refine lv_tableIn (off := 106) (tgt := 107) hx hb dX0_codeItem_1 (by rw [h1_151]; decide) (by rw [h1_151]; decide) (by rw [h1_151]; rfl) (by decide) ?_
    refine lv_aload_n hx hb dX0_codeItem_107 rfl (lv_at hl 0 rfl) ?_
    refine lv_sipush (v := 132) hx hb dX0_codeItem_108 (by decide) ?_
    refine lv_iconst (v := 0) hx hb dX0_codeItem_111 (by decide) ?_
    refine lv_iconst (v := 0) hx hb dX0_codeItem_112 (by decide) ?_
    refine lv_iconst (v := 0) hx hb dX0_codeItem_113 (by decide) ?_
    refine lv_iconst (v := 0) hx hb dX0_codeItem_114 (by decide) ?_
    refine go_v (k1 := 0) (n1 := 0) (wr := [(f0, .inr (2, [.ref f00, .ref f01, .ref f02, .int x_f0_3, .ref f04, .ref f05, .ref f06, .ref f07, .ref f08, .ref f09, .ref f010, .int x_f0_11, .int x_f0_12, .ref f013, .int x_f0_14, .ref f015, .int x_f0_16, .ref f017]))]) [0, 1, 2, 3] [4] (rn_V (As := [.int 132, .int 0, .int 0, .int 0, .int 0]) (rest := []) (c_X0_put l D ct cd (132 : Int32) (0 : Int32) (0 : Int32) (0 : Int32) (0 : Int32) cds cdg f0 p0 x_cd_4 p0r x_p0_1 g_p0r g_cdg (rg_w h_x_cd_4 (by decide)) h_x_p0_1 h_g_cdg _) (cb_of (n := 5) hn mw_848 mw_9 mw_845 mhX0_put ⟨(Nat.le_of_ble_eq_true rfl), (Nat.le_of_ble_eq_true rfl)⟩) hx hb hml hown hn hK hSK hZ hS mw_847 mw_s75 (ci := 0) (q0 := 0) rfl rfl rfl rfl hl.1 (Nat.le_of_ble_eq_true rfl) dX0_codeItem_115 ⟨(Nat.le_of_ble_eq_true rfl), (Nat.le_of_ble_eq_true rfl)⟩) hP hD hS hA rfl rfl (by decide) (by decide) (by decide) (Nat.le_of_ble_eq_true rfl) (Nat.le_of_ble_eq_true rfl) (fun u115_2 H locs hp115_3 hP hD hS => ?_)
    obtain ⟨y_cd_4115_4, k_p0r115_5, k_cdg115_6⟩ := u115_2
    obtain ⟨hp115_7, hp115_8, hp115_9⟩ := hp115_3
    have hp115_7 : rg y_cd_4115_4 1 1200000001 := hp115_7
    have hp115_9 : y_cd_4115_4.toInt = x_cd_4.toInt + 1 := hp115_9
    have hP : va_P D vwCl [(f0, .inr (2, [.ref f00, .ref f01, .ref f02, .int x_f0_3, .ref f04, .ref f05, .ref f06, .ref f07, .ref f08, .ref f09, .ref f010, .int x_f0_11, .int x_f0_12, .ref f013, .int x_f0_14, .ref f015, .int x_f0_16, .ref f017])), (cd, .inr (0, [.ref cds, .ref cdg, .ref f0, .ref p0, .int y_cd_4115_4])), (p0, .inr (7, [.ref p0r, .int x_p0_1])), (p0r, .inl (ct 2, 4000, .inr (.inl k_p0r115_5))), (cdg, .inl (ct 1, 4000, .inl k_cdg115_6))] _ := hP
    have hD : va_D A [(f0, .inr (2, [.ref f00, .ref f01, .ref f02, .int x_f0_3, .ref f04, .ref f05, .ref f06, .ref f07, .ref f08, .ref f09, .ref f010, .int x_f0_11, .int x_f0_12, .ref f013, .int x_f0_14, .ref f015, .int x_f0_16, .ref f017])), (cd, .inr (0, [.ref cds, .ref cdg, .ref f0, .ref p0, .int y_cd_4115_4])), (p0, .inr (7, [.ref p0r, .int x_p0_1])), (p0r, .inl (ct 2, 4000, .inr (.inl k_p0r115_5))), (cdg, .inl (ct 1, 4000, .inl k_cdg115_6))] := hD
    refine lv_goto (tgt := 163) hx hb dX0_codeItem_118 (by decide) ?_
    exact endq_v hQ hx hb hr hlocks dX0_codeItem_163 (y_cd_4115_4, k_p0r115_5, k_cdg115_6) ⟨(rg_w hp115_7 (by decide)), hp115_8, (show x_cd_4.toInt + 0 ≤ y_cd_4115_4.toInt ∧ y_cd_4115_4.toInt ≤ x_cd_4.toInt + 7 by have q0 := h_x_cd_4.1; have q1 := h_x_cd_4.2; have q2 := hp115_7.1; have q3 := hp115_7.2; have q4 := hp115_9; omega)⟩ hP hD hS [1, 2, 3, 4, 0] rfl (by decide) rfl (Nat.le_of_ble_eq_true rfl) (Nat.le_of_ble_eq_true rfl)
  by_cases h1_161 : v0.toInt = 6
  · have r1_162 : rg v0 6 6 := rg_at h1_161
    refine lv_tableIn (off := 120) (tgt := 121) hx hb dX0_codeItem_1 (by rw [h1_161]; decide) (by rw [h1_161]; decide) (by rw [h1_161]; rfl) (by decide) ?_
    refine lv_aload_n hx hb dX0_codeItem_121 rfl (lv_at hl 0 rfl) ?_
    refine lv_iload_n hx hb dX0_codeItem_122 rfl (lv_at hl 2 rfl) ?_
    refine go_i (k1 := 0) (n1 := 0) (wr := [(cd, .inr (0, [.ref cds, .ref cdg, .ref f0, .ref p0, .int x_cd_4])), (p0, .inr (7, [.ref p0r, .int x_p0_1])), (p0r, .inl (ct 2, 4000, .inr (.inl g_p0r))), (cdg, .inl (ct 1, 4000, .inl g_cdg)), (f0, .inr (2, [.ref f00, .ref f01, .ref f02, .int x_f0_3, .ref f04, .ref f05, .ref f06, .ref f07, .ref f08, .ref f09, .ref f010, .int x_f0_11, .int x_f0_12, .ref f013, .int x_f0_14, .ref f015, .int x_f0_16, .ref f017]))]) [] [0, 1, 2, 3, 4] (rn_S (As := [.int v1]) (rest := [.ref cd]) (c_X0_readCode l D ct v1  _) (cb_of (n := 1) hn mw_888 mw_9 mw_886 mhX0_readCode ⟨(Nat.le_of_ble_eq_true rfl), (Nat.le_of_ble_eq_true rfl)⟩) hx hb hml hown hn hK hSK hZ hS mw_887 rfl hl.1 (Nat.le_of_ble_eq_true rfl) dX0_codeItem_123 ⟨(Nat.le_of_ble_eq_true rfl), (Nat.le_of_ble_eq_true rfl)⟩) hP hD hS hA rfl rfl (by decide) (by decide) (by decide) (Nat.le_of_ble_eq_true rfl) (Nat.le_of_ble_eq_true rfl) (fun r123_1 u123_2 H locs hp123_3 hP hD hS => ?_)
    have hp123_4 := hp123_3
    have hp123_4 : rg r123_1 32 48 := hp123_4
    have hP : va_P D vwCl [(cd, .inr (0, [.ref cds, .ref cdg, .ref f0, .ref p0, .int x_cd_4])), (p0, .inr (7, [.ref p0r, .int x_p0_1])), (p0r, .inl (ct 2, 4000, .inr (.inl g_p0r))), (cdg, .inl (ct 1, 4000, .inl g_cdg)), (f0, .inr (2, [.ref f00, .ref f01, .ref f02, .int x_f0_3, .ref f04, .ref f05, .ref f06, .ref f07, .ref f08, .ref f09, .ref f010, .int x_f0_11, .int x_f0_12, .ref f013, .int x_f0_14, .ref f015, .int x_f0_16, .ref f017]))] _ := hP
    have hD : va_D A [(cd, .inr (0, [.ref cds, .ref cdg, .ref f0, .ref p0, .int x_cd_4])), (p0, .inr (7, [.ref p0r, .int x_p0_1])), (p0r, .inl (ct 2, 4000, .inr (.inl g_p0r))), (cdg, .inl (ct 1, 4000, .inl g_cdg)), (f0, .inr (2, [.ref f00, .ref f01, .ref f02, .int x_f0_3, .ref f04, .ref f05, .ref f06, .ref f07, .ref f08, .ref f09, .ref f010, .int x_f0_11, .int x_f0_12, .ref f013, .int x_f0_14, .ref f015, .int x_f0_16, .ref f017]))] := hD
    refine lv_iconst (v := 0) hx hb dX0_codeItem_126 (by decide) ?_
    refine lv_iconst (v := 0) hx hb dX0_codeItem_127 (by decide) ?_
    refine lv_iconst (v := 0) hx hb dX0_codeItem_128 (by decide) ?_
    refine lv_iload_n hx hb dX0_codeItem_129 rfl (lv_at hl 3 rfl) ?_
    refine go_v (k1 := 0) (n1 := 0) (wr := [(f0, .inr (2, [.ref f00, .ref f01, .ref f02, .int x_f0_3, .ref f04, .ref f05, .ref f06, .ref f07, .ref f08, .ref f09, .ref f010, .int x_f0_11, .int x_f0_12, .ref f013, .int x_f0_14, .ref f015, .int x_f0_16, .ref f017]))]) [0, 1, 2, 3] [4] (rn_V (As := [.int r123_1, .int 0, .int 0, .int 0, .int v2]) (rest := []) (c_X0_put l D ct cd r123_1 (0 : Int32) (0 : Int32) (0 : Int32) v2 cds cdg f0 p0 x_cd_4 p0r x_p0_1 g_p0r g_cdg (rg_w h_x_cd_4 (by decide)) h_x_p0_1 h_g_cdg _) (cb_of (n := 5) hn mw_848 mw_9 mw_845 mhX0_put ⟨(Nat.le_of_ble_eq_true rfl), (Nat.le_of_ble_eq_true rfl)⟩) hx hb hml hown hn hK hSK hZ hS mw_847 mw_s75 (ci := 0) (q0 := 0) rfl rfl rfl rfl hl.1 (Nat.le_of_ble_eq_true rfl) dX0_codeItem_130 ⟨(Nat.le_of_ble_eq_true rfl), (Nat.le_of_ble_eq_true rfl)⟩) hP hD hS hA rfl rfl (by decide) (by decide) (by decide) (Nat.le_of_ble_eq_true rfl) (Nat.le_of_ble_eq_true rfl) (fun u130_2 H locs hp130_3 hP hD hS => ?_)
    obtain ⟨y_cd_4130_4, k_p0r130_5, k_cdg130_6⟩ := u130_2
    obtain ⟨hp130_7, hp130_8, hp130_9⟩ := hp130_3
    have hp130_7 : rg y_cd_4130_4 1 1200000001 := hp130_7
    have hp130_9 : y_cd_4130_4.toInt = x_cd_4.toInt + 1 := hp130_9
    have hP : va_P D vwCl [(f0, .inr (2, [.ref f00, .ref f01, .ref f02, .int x_f0_3, .ref f04, .ref f05, .ref f06, .ref f07, .ref f08, .ref f09, .ref f010, .int x_f0_11, .int x_f0_12, .ref f013, .int x_f0_14, .ref f015, .int x_f0_16, .ref f017])), (cd, .inr (0, [.ref cds, .ref cdg, .ref f0, .ref p0, .int y_cd_4130_4])), (p0, .inr (7, [.ref p0r, .int x_p0_1])), (p0r, .inl (ct 2, 4000, .inr (.inl k_p0r130_5))), (cdg, .inl (ct 1, 4000, .inl k_cdg130_6))] _ := hP
    have hD : va_D A [(f0, .inr (2, [.ref f00, .ref f01, .ref f02, .int x_f0_3, .ref f04, .ref f05, .ref f06, .ref f07, .ref f08, .ref f09, .ref f010, .int x_f0_11, .int x_f0_12, .ref f013, .int x_f0_14, .ref f015, .int x_f0_16, .ref f017])), (cd, .inr (0, [.ref cds, .ref cdg, .ref f0, .ref p0, .int y_cd_4130_4])), (p0, .inr (7, [.ref p0r, .int x_p0_1])), (p0r, .inl (ct 2, 4000, .inr (.inl k_p0r130_5))), (cdg, .inl (ct 1, 4000, .inl k_cdg130_6))] := hD
    refine lv_goto (tgt := 163) hx hb dX0_codeItem_133 (by decide) ?_
    exact endq_v hQ hx hb hr hlocks dX0_codeItem_163 (y_cd_4130_4, k_p0r130_5, k_cdg130_6) ⟨(rg_w hp130_7 (by decide)), hp130_8, (show x_cd_4.toInt + 0 ≤ y_cd_4130_4.toInt ∧ y_cd_4130_4.toInt ≤ x_cd_4.toInt + 7 by have q0 := h_x_cd_4.1; have q1 := h_x_cd_4.2; have q2 := hp130_7.1; have q3 := hp130_7.2; have q4 := hp130_9; omega)⟩ hP hD hS [1, 2, 3, 4, 0] rfl (by decide) rfl (Nat.le_of_ble_eq_true rfl) (Nat.le_of_ble_eq_true rfl)
  by_cases h1_171 : v0.toInt = 7
  · have r1_172 : rg v0 7 7 := rg_at h1_171
    refine lv_tableIn (off := 135) (tgt := 136) hx hb dX0_codeItem_1 (by rw [h1_171]; decide) (by rw [h1_171]; decide) (by rw [h1_171]; rfl) (by decide) ?_
    refine lv_aload_n hx hb dX0_codeItem_136 rfl (lv_at hl 0 rfl) ?_
    refine lv_iload_n hx hb dX0_codeItem_137 rfl (lv_at hl 2 rfl) ?_
    refine go_i (k1 := 0) (n1 := 0) (wr := [(cd, .inr (0, [.ref cds, .ref cdg, .ref f0, .ref p0, .int x_cd_4])), (p0, .inr (7, [.ref p0r, .int x_p0_1])), (p0r, .inl (ct 2, 4000, .inr (.inl g_p0r))), (cdg, .inl (ct 1, 4000, .inl g_cdg)), (f0, .inr (2, [.ref f00, .ref f01, .ref f02, .int x_f0_3, .ref f04, .ref f05, .ref f06, .ref f07, .ref f08, .ref f09, .ref f010, .int x_f0_11, .int x_f0_12, .ref f013, .int x_f0_14, .ref f015, .int x_f0_16, .ref f017]))]) [] [0, 1, 2, 3, 4] (rn_S (As := [.int v1]) (rest := [.ref cd]) (c_X0_readCode l D ct v1  _) (cb_of (n := 1) hn mw_888 mw_9 mw_886 mhX0_readCode ⟨(Nat.le_of_ble_eq_true rfl), (Nat.le_of_ble_eq_true rfl)⟩) hx hb hml hown hn hK hSK hZ hS mw_887 rfl hl.1 (Nat.le_of_ble_eq_true rfl) dX0_codeItem_138 ⟨(Nat.le_of_ble_eq_true rfl), (Nat.le_of_ble_eq_true rfl)⟩) hP hD hS hA rfl rfl (by decide) (by decide) (by decide) (Nat.le_of_ble_eq_true rfl) (Nat.le_of_ble_eq_true rfl) (fun r138_1 u138_2 H locs hp138_3 hP hD hS => ?_)
    have hp138_4 := hp138_3
    have hp138_4 : rg r138_1 32 48 := hp138_4
    have hP : va_P D vwCl [(cd, .inr (0, [.ref cds, .ref cdg, .ref f0, .ref p0, .int x_cd_4])), (p0, .inr (7, [.ref p0r, .int x_p0_1])), (p0r, .inl (ct 2, 4000, .inr (.inl g_p0r))), (cdg, .inl (ct 1, 4000, .inl g_cdg)), (f0, .inr (2, [.ref f00, .ref f01, .ref f02, .int x_f0_3, .ref f04, .ref f05, .ref f06, .ref f07, .ref f08, .ref f09, .ref f010, .int x_f0_11, .int x_f0_12, .ref f013, .int x_f0_14, .ref f015, .int x_f0_16, .ref f017]))] _ := hP
    have hD : va_D A [(cd, .inr (0, [.ref cds, .ref cdg, .ref f0, .ref p0, .int x_cd_4])), (p0, .inr (7, [.ref p0r, .int x_p0_1])), (p0r, .inl (ct 2, 4000, .inr (.inl g_p0r))), (cdg, .inl (ct 1, 4000, .inl g_cdg)), (f0, .inr (2, [.ref f00, .ref f01, .ref f02, .int x_f0_3, .ref f04, .ref f05, .ref f06, .ref f07, .ref f08, .ref f09, .ref f010, .int x_f0_11, .int x_f0_12, .ref f013, .int x_f0_14, .ref f015, .int x_f0_16, .ref f017]))] := hD
    refine lv_bipush (v := 32) hx hb dX0_codeItem_141 (by decide) ?_
    refine lv_iadd hx hb dX0_codeItem_143 ?_
    refine lv_topi (fun z143_1 ez143_1 => ?_)
    have r143_2 : rg z143_1 64 80 := rg_add ez143_1 hp138_4 (show rg (32 : Int32) 32 32 from rg_l (by decide)) (by decide)
    refine lv_iconst (v := 0) hx hb dX0_codeItem_144 (by decide) ?_
    refine lv_iconst (v := 0) hx hb dX0_codeItem_145 (by decide) ?_
    refine lv_iconst (v := 0) hx hb dX0_codeItem_146 (by decide) ?_
    refine lv_iload_n hx hb dX0_codeItem_147 rfl (lv_at hl 3 rfl) ?_
    refine go_v (k1 := 0) (n1 := 0) (wr := [(f0, .inr (2, [.ref f00, .ref f01, .ref f02, .int x_f0_3, .ref f04, .ref f05, .ref f06, .ref f07, .ref f08, .ref f09, .ref f010, .int x_f0_11, .int x_f0_12, .ref f013, .int x_f0_14, .ref f015, .int x_f0_16, .ref f017]))]) [0, 1, 2, 3] [4] (rn_V (As := [.int z143_1, .int 0, .int 0, .int 0, .int v2]) (rest := []) (c_X0_put l D ct cd z143_1 (0 : Int32) (0 : Int32) (0 : Int32) v2 cds cdg f0 p0 x_cd_4 p0r x_p0_1 g_p0r g_cdg (rg_w h_x_cd_4 (by decide)) h_x_p0_1 h_g_cdg _) (cb_of (n := 5) hn mw_848 mw_9 mw_845 mhX0_put ⟨(Nat.le_of_ble_eq_true rfl), (Nat.le_of_ble_eq_true rfl)⟩) hx hb hml hown hn hK hSK hZ hS mw_847 mw_s75 (ci := 0) (q0 := 0) rfl rfl rfl rfl hl.1 (Nat.le_of_ble_eq_true rfl) dX0_codeItem_148 ⟨(Nat.le_of_ble_eq_true rfl), (Nat.le_of_ble_eq_true rfl)⟩) hP hD hS hA rfl rfl (by decide) (by decide) (by decide) (Nat.le_of_ble_eq_true rfl) (Nat.le_of_ble_eq_true rfl) (fun u148_2 H locs hp148_3 hP hD hS => ?_)
    obtain ⟨y_cd_4148_4, k_p0r148_5, k_cdg148_6⟩ := u148_2
    obtain ⟨hp148_7, hp148_8, hp148_9⟩ := hp148_3
    have hp148_7 : rg y_cd_4148_4 1 1200000001 := hp148_7
    have hp148_9 : y_cd_4148_4.toInt = x_cd_4.toInt + 1 := hp148_9
    have hP : va_P D vwCl [(f0, .inr (2, [.ref f00, .ref f01, .ref f02, .int x_f0_3, .ref f04, .ref f05, .ref f06, .ref f07, .ref f08, .ref f09, .ref f010, .int x_f0_11, .int x_f0_12, .ref f013, .int x_f0_14, .ref f015, .int x_f0_16, .ref f017])), (cd, .inr (0, [.ref cds, .ref cdg, .ref f0, .ref p0, .int y_cd_4148_4])), (p0, .inr (7, [.ref p0r, .int x_p0_1])), (p0r, .inl (ct 2, 4000, .inr (.inl k_p0r148_5))), (cdg, .inl (ct 1, 4000, .inl k_cdg148_6))] _ := hP
    have hD : va_D A [(f0, .inr (2, [.ref f00, .ref f01, .ref f02, .int x_f0_3, .ref f04, .ref f05, .ref f06, .ref f07, .ref f08, .ref f09, .ref f010, .int x_f0_11, .int x_f0_12, .ref f013, .int x_f0_14, .ref f015, .int x_f0_16, .ref f017])), (cd, .inr (0, [.ref cds, .ref cdg, .ref f0, .ref p0, .int y_cd_4148_4])), (p0, .inr (7, [.ref p0r, .int x_p0_1])), (p0r, .inl (ct 2, 4000, .inr (.inl k_p0r148_5))), (cdg, .inl (ct 1, 4000, .inl k_cdg148_6))] := hD
    refine lv_goto (tgt := 163) hx hb dX0_codeItem_151 (by decide) ?_
    exact endq_v hQ hx hb hr hlocks dX0_codeItem_163 (y_cd_4148_4, k_p0r148_5, k_cdg148_6) ⟨(rg_w hp148_7 (by decide)), hp148_8, (show x_cd_4.toInt + 0 ≤ y_cd_4148_4.toInt ∧ y_cd_4148_4.toInt ≤ x_cd_4.toInt + 7 by have q0 := h_x_cd_4.1; have q1 := h_x_cd_4.2; have q2 := hp148_7.1; have q3 := hp148_7.2; have q4 := hp148_9; omega)⟩ hP hD hS [1, 2, 3, 4, 0] rfl (by decide) rfl (Nat.le_of_ble_eq_true rfl) (Nat.le_of_ble_eq_true rfl)
  by_cases h1_181 : v0.toInt = 8
  · have r1_182 : rg v0 8 8 := rg_at h1_181
    refine lv_tableIn (off := 153) (tgt := 154) hx hb dX0_codeItem_1 (by rw [h1_181]; decide) (by rw [h1_181]; decide) (by rw [h1_181]; rfl) (by decide) ?_
    refine lv_aload_n hx hb dX0_codeItem_154 rfl (lv_at hl 0 rfl) ?_
    refine lv_iload_n hx hb dX0_codeItem_155 rfl (lv_at hl 2 rfl) ?_
    refine lv_iload_n hx hb dX0_codeItem_156 rfl (lv_at hl 3 rfl) ?_
    refine go_v (k1 := 0) (n1 := 0) (wr := [(f0, .inr (2, [.ref f00, .ref f01, .ref f02, .int x_f0_3, .ref f04, .ref f05, .ref f06, .ref f07, .ref f08, .ref f09, .ref f010, .int x_f0_11, .int x_f0_12, .ref f013, .int x_f0_14, .ref f015, .int x_f0_16, .ref f017]))]) [0, 1, 2, 3] [4] (rn_V (As := [.int v1, .int v2]) (rest := []) (c_X0_codeReadInBody l D ct cd v1 v2 cds cdg f0 p0 x_cd_4 p0r x_p0_1 g_p0r g_cdg (rg_w h_x_cd_4 (by decide)) h_x_p0_1 h_g_cdg _) (cb_of (n := 2) hn mw_892 mw_9 mw_889 mhX0_codeReadInBody ⟨(Nat.le_of_ble_eq_true rfl), (Nat.le_of_ble_eq_true rfl)⟩) hx hb hml hown hn hK hSK hZ hS mw_891 mw_s84 (ci := 0) (q0 := 0) rfl rfl rfl rfl hl.1 (Nat.le_of_ble_eq_true rfl) dX0_codeItem_157 ⟨(Nat.le_of_ble_eq_true rfl), (Nat.le_of_ble_eq_true rfl)⟩) hP hD hS hA rfl rfl (by decide) (by decide) (by decide) (Nat.le_of_ble_eq_true rfl) (Nat.le_of_ble_eq_true rfl) (fun u157_2 H locs hp157_3 hP hD hS => ?_)
    obtain ⟨y_cd_4157_4, k_p0r157_5, k_cdg157_6⟩ := u157_2
    obtain ⟨hp157_7, hp157_8, hp157_9⟩ := hp157_3
    have hp157_7 : rg y_cd_4157_4 1 1200000001 := hp157_7
    have hp157_9 : y_cd_4157_4.toInt = x_cd_4.toInt + 7 := hp157_9
    have hP : va_P D vwCl [(f0, .inr (2, [.ref f00, .ref f01, .ref f02, .int x_f0_3, .ref f04, .ref f05, .ref f06, .ref f07, .ref f08, .ref f09, .ref f010, .int x_f0_11, .int x_f0_12, .ref f013, .int x_f0_14, .ref f015, .int x_f0_16, .ref f017])), (cd, .inr (0, [.ref cds, .ref cdg, .ref f0, .ref p0, .int y_cd_4157_4])), (p0, .inr (7, [.ref p0r, .int x_p0_1])), (p0r, .inl (ct 2, 4000, .inr (.inl k_p0r157_5))), (cdg, .inl (ct 1, 4000, .inl k_cdg157_6))] _ := hP
    have hD : va_D A [(f0, .inr (2, [.ref f00, .ref f01, .ref f02, .int x_f0_3, .ref f04, .ref f05, .ref f06, .ref f07, .ref f08, .ref f09, .ref f010, .int x_f0_11, .int x_f0_12, .ref f013, .int x_f0_14, .ref f015, .int x_f0_16, .ref f017])), (cd, .inr (0, [.ref cds, .ref cdg, .ref f0, .ref p0, .int y_cd_4157_4])), (p0, .inr (7, [.ref p0r, .int x_p0_1])), (p0r, .inl (ct 2, 4000, .inr (.inl k_p0r157_5))), (cdg, .inl (ct 1, 4000, .inl k_cdg157_6))] := hD
    refine lv_goto (tgt := 163) hx hb dX0_codeItem_160 (by decide) ?_
    exact endq_v hQ hx hb hr hlocks dX0_codeItem_163 (y_cd_4157_4, k_p0r157_5, k_cdg157_6) ⟨(rg_w hp157_7 (by decide)), hp157_8, (show x_cd_4.toInt + 0 ≤ y_cd_4157_4.toInt ∧ y_cd_4157_4.toInt ≤ x_cd_4.toInt + 7 by have q0 := h_x_cd_4.1; have q1 := h_x_cd_4.2; have q2 := hp157_7.1; have q3 := hp157_7.2; have q4 := hp157_9; omega)⟩ hP hD hS [1, 2, 3, 4, 0] rfl (by decide) rfl (Nat.le_of_ble_eq_true rfl) (Nat.le_of_ble_eq_true rfl)
  refine lv_tableOut (tgt := 163) hx hb dX0_codeItem_1 (by have q0 := (rg_any v0); have q1 := q0.1; have q2 := q0.2; omega) (by decide) ?_
  exact endq_v hQ hx hb hr hlocks dX0_codeItem_163 (x_cd_4, g_p0r, g_cdg) ⟨(rg_w h_x_cd_4 (by decide)), h_g_cdg, (show x_cd_4.toInt + 0 ≤ x_cd_4.toInt ∧ x_cd_4.toInt ≤ x_cd_4.toInt + 7 by have q0 := h_x_cd_4.1; have q1 := h_x_cd_4.2; omega)⟩ hP hD hS [0, 1, 2, 3, 4] rfl (by decide) rfl (Nat.le_of_ble_eq_true rfl) (Nat.le_of_ble_eq_true rfl)
set_option maxHeartbeats 2000000 in
theorem c_X0_codeItems (l : Launch) (D : va_G) (ct : Nat → ClassId) (cd : Nat) (v0 : Int32) (v1 : Int32) (cds : Nat) (cdg : Nat) (f0 : Nat) (p0 : Nat) (x_cd_4 : Int32) (f00 : Nat) (f01 : Nat) (f02 : Nat) (x_f0_3 : Int32) (f04 : Nat) (f05 : Nat) (f06 : Nat) (f07 : Nat) (f08 : Nat) (f09 : Nat) (f010 : Nat) (x_f0_11 : Int32) (x_f0_12 : Int32) (f013 : Nat) (x_f0_14 : Int32) (f015 : Nat) (x_f0_16 : Int32) (f017 : Nat) (g_f00 : Nat → Int32) (g_f01 : Nat → Int32) (g_f02 : Nat → Int32) (p0r : Nat) (x_p0_1 : Int32) (g_p0r : Nat → Int64) (g_cdg : Nat → Int32) (h_v0 : rg v0 0 7000) (h_v1 : rg v1 0 7000) (h_x_cd_4 : rg x_cd_4 0 1199940000) (h_x_f0_3 : rg x_f0_3 0 7000) (h_x_f0_11 : rg x_f0_11 0 3000) (h_x_f0_12 : rg x_f0_12 0 3000) (h_x_f0_14 : rg x_f0_14 2 5000) (h_x_f0_16 : rg x_f0_16 0 6) (h_g_f00 : Rg g_f00 7000 0 8) (h_x_p0_1 : rg x_p0_1 0 4000) (h_g_cdg : Rg g_cdg 4000 (-1) 3001) : KV (S := Int32 × (Nat → Int64) × (Nat → Int32)) l yX0_codeItems cX0_codeItems 4 none 5 116 D ct [.ref cd, .int v0, .int v1] [(cd, .inr (0, [.ref cds, .ref cdg, .ref f0, .ref p0, .int x_cd_4])), (f0, .inr (2, [.ref f00, .ref f01, .ref f02, .int x_f0_3, .ref f04, .ref f05, .ref f06, .ref f07, .ref f08, .ref f09, .ref f010, .int x_f0_11, .int x_f0_12, .ref f013, .int x_f0_14, .ref f015, .int x_f0_16, .ref f017])), (f00, .inl (ct 1, 7000, .inl g_f00)), (f01, .inl (ct 1, 7000, .inl g_f01)), (f02, .inl (ct 1, 7000, .inl g_f02)), (p0, .inr (7, [.ref p0r, .int x_p0_1])), (p0r, .inl (ct 2, 4000, .inr (.inl g_p0r))), (cdg, .inl (ct 1, 4000, .inl g_cdg))] 0 0 (fun (u : Int32 × (Nat → Int64) × (Nat → Int32)) => match u with | (y_cd_4, k_p0r, k_cdg) => rg y_cd_4 0 1200000000 ∧ Rg k_cdg 4000 (-1) 3001 ∧ (x_cd_4.toInt + 0 ≤ y_cd_4.toInt ∧ y_cd_4.toInt ≤ x_cd_4.toInt + 56000)) (fun (u : Int32 × (Nat → Int64) × (Nat → Int32)) => match u with | (y_cd_4, k_p0r, k_cdg) => [(cd, .inr (0, [.ref cds, .ref cdg, .ref f0, .ref p0, .int y_cd_4])), (f0, .inr (2, [.ref f00, .ref f01, .ref f02, .int x_f0_3, .ref f04, .ref f05, .ref f06, .ref f07, .ref f08, .ref f09, .ref f010, .int x_f0_11, .int x_f0_12, .ref f013, .int x_f0_14, .ref f015, .int x_f0_16, .ref f017])), (f00, .inl (ct 1, 7000, .inl g_f00)), (f01, .inl (ct 1, 7000, .inl g_f01)), (f02, .inl (ct 1, 7000, .inl g_f02)), (p0, .inr (7, [.ref p0r, .int x_p0_1])), (p0r, .inl (ct 2, 4000, .inr (.inl k_p0r))), (cdg, .inl (ct 1, 4000, .inl k_cdg))]) := by
  refine KVq_of (by decide) (Nat.le_of_ble_eq_true rfl) (fun p e s m below meth c A Q C0 hA H locs hS hP hD hQ ls hl => ?_)
  obtain ⟨hx, hb, hr, hown, hin, hml, hlocks, hn, hK, hZ, hSK⟩ := C0
  have hl : lv_has ls 4 [(0, .ref cd), (1, .int v0), (2, .int v1)] := hl
  refine lv_iload_n hx hb dX0_codeItems_0 rfl (lv_at hl 1 rfl) ?_
  refine lv_istore_n (lv' := [(3, .int v0), (0, .ref cd), (1, .int v0), (2, .int v1)]) hx hb dX0_codeItems_1 rfl hl (by decide) rfl (fun ls hl => ?_)
  have b2 : ∀ (n : Nat) (j2_l3 : Int32) (j2_fcd_4 : Int32) (j2_cp0r : Nat → Int64) (j2_ccdg : Nat → Int32) (H : Heap) (locs : List Loc) (ls : Array Slot), (rg j2_l3 0 7000) → (rg j2_fcd_4 0 1200000000) → (Rg j2_ccdg 4000 (-1) 3001) → (j2_fcd_4.toInt ≤ x_cd_4.toInt + 8 * j2_l3.toInt - 8 * v0.toInt ∧ x_cd_4.toInt ≤ j2_fcd_4.toInt ∧ v0.toInt ≤ j2_l3.toInt) → ((2147483647 : Int) - j2_l3.toInt).toNat < n → lv_has ls 4 [(0, .ref cd), (2, .int v1), (3, .int j2_l3)] → va_P D vwCl [(cd, .inr (0, [.ref cds, .ref cdg, .ref f0, .ref p0, .int j2_fcd_4])), (f0, .inr (2, [.ref f00, .ref f01, .ref f02, .int x_f0_3, .ref f04, .ref f05, .ref f06, .ref f07, .ref f08, .ref f09, .ref f010, .int x_f0_11, .int x_f0_12, .ref f013, .int x_f0_14, .ref f015, .int x_f0_16, .ref f017])), (f00, .inl (ct 1, 7000, .inl g_f00)), (f01, .inl (ct 1, 7000, .inl g_f01)), (f02, .inl (ct 1, 7000, .inl g_f02)), (p0, .inr (7, [.ref p0r, .int x_p0_1])), (p0r, .inl (ct 2, 4000, .inr (.inl j2_cp0r))), (cdg, .inl (ct 1, 4000, .inl j2_ccdg))] H → va_D A [(cd, .inr (0, [.ref cds, .ref cdg, .ref f0, .ref p0, .int j2_fcd_4])), (f0, .inr (2, [.ref f00, .ref f01, .ref f02, .int x_f0_3, .ref f04, .ref f05, .ref f06, .ref f07, .ref f08, .ref f09, .ref f010, .int x_f0_11, .int x_f0_12, .ref f013, .int x_f0_14, .ref f015, .int x_f0_16, .ref f017])), (f00, .inl (ct 1, 7000, .inl g_f00)), (f01, .inl (ct 1, 7000, .inl g_f01)), (f02, .inl (ct 1, 7000, .inl g_f02)), (p0, .inr (7, [.ref p0r, .int x_p0_1])), (p0r, .inl (ct 2, 4000, .inr (.inl j2_cp0r))), (cdg, .inl (ct 1, 4000, .inl j2_ccdg))] → va_S A s.heap H locs → W p l e ({ frames := 5, cells := 0, slots := 0, locals := 116 }) s m [.ref cd, .int v0, .int v1].toArray below meth c H locs 0 0 Q (F0 m 2 ls []) := by
    intro n
    induction n with
    | zero => intros; rename_i hms _ _ _ _; exact absurd hms (Nat.not_lt_zero _)
    | succ n ih =>
      intro j2_l3 j2_fcd_4 j2_cp0r j2_ccdg H locs ls r2_1001 r2_1002 hc2_1003 hi2_1004 hms hl hP hD hS
      refine lv_iload_n hx hb dX0_codeItems_2 rfl (lv_at hl 2 rfl) ?_
      refine lv_iload_n hx hb dX0_codeItems_3 rfl (lv_at hl 1 rfl) ?_
      refine lv_icmp_ge (tgt := 44) hx hb dX0_codeItems_4 (by decide) (fun c4_1 => ?_) (fun c4_1 => ?_)
      · have t4_2 := (i_le c4_1)
        exact endq_v hQ hx hb hr hlocks dX0_codeItems_44 (j2_fcd_4, j2_cp0r, j2_ccdg) ⟨r2_1002, hc2_1003, (show x_cd_4.toInt + 0 ≤ j2_fcd_4.toInt ∧ j2_fcd_4.toInt ≤ x_cd_4.toInt + 56000 by have q0 := h_x_cd_4.1; have q1 := h_x_cd_4.2; have q2 := r2_1002.1; have q3 := r2_1002.2; have q4 := r2_1001.1; have q5 := r2_1001.2; have q6 := h_v0.1; have q7 := h_v0.2; have q8 := h_v1.1; have q9 := h_v1.2; have q10 := hi2_1004; have q11 := t4_2; omega)⟩ hP hD hS [0, 1, 2, 3, 4, 5, 6, 7] rfl (by decide) rfl (Nat.le_of_ble_eq_true rfl) (Nat.le_of_ble_eq_true rfl)
      · have t4_2 := (i_nle c4_1)
        have r4_3 : rg j2_l3 0 6999 := rg_ltA t4_2 r2_1001 h_v1 (by decide)
        have r4_4 : rg v1 1 7000 := rg_ltB t4_2 r2_1001 h_v1 (by decide)
        refine lv_aload_n hx hb dX0_codeItems_7 rfl (lv_at hl 0 rfl) ?_
        refine lv_aload_n hx hb dX0_codeItems_8 rfl (lv_at hl 0 rfl) ?_
        refine va_get (D := D) (ci := 0) (v := .ref f0) (C := RX0) (T := TX0) (N := 5) hx hb (htX0 hn) (fun _ h => h) hown hK hP 0 rfl rfl 2 (by decide) (hn.get mw_268 rfl) (fun _ h9 => h9) rfl dX0_codeItems_9 ?_
        refine va_getN (D := D) (ci := 2) (v := .ref f00) (C := RX2) (T := TX2) (N := 18) hx hb (htX2 hn) (fun _ h => h) hown hK hP 1 rfl rfl 0 (by decide) (hn.get mw_148 rfl) (fun _ h9 => h9) rfl dX0_codeItems_12 ?_
        refine lv_iload_n hx hb dX0_codeItems_15 rfl (lv_at hl 2 rfl) ?_
        have hi16_1 : vp_in j2_l3 7000 := (in_rg r4_3 (by decide))
        refine va_iald hx hb hK hP 2 1 rfl rfl hi16_1 dX0_codeItems_16 ?_
        refine lv_topi (fun z16_2 ez16_2 => ?_)
        have r16_3 : rg z16_2 0 8 := Rg_at h_g_f00 hi16_1 ez16_2
        refine lv_aload_n hx hb dX0_codeItems_17 rfl (lv_at hl 0 rfl) ?_
        refine va_get (D := D) (ci := 0) (v := .ref f0) (C := RX0) (T := TX0) (N := 5) hx hb (htX0 hn) (fun _ h => h) hown hK hP 0 rfl rfl 2 (by decide) (hn.get mw_268 rfl) (fun _ h9 => h9) rfl dX0_codeItems_18 ?_
        refine va_getN (D := D) (ci := 2) (v := .ref f01) (C := RX2) (T := TX2) (N := 18) hx hb (htX2 hn) (fun _ h => h) hown hK hP 1 rfl rfl 1 (by decide) (hn.get mw_150 rfl) (fun _ h9 => h9) rfl dX0_codeItems_21 ?_
        refine lv_iload_n hx hb dX0_codeItems_24 rfl (lv_at hl 2 rfl) ?_
        have hi25_1 : vp_in j2_l3 7000 := (in_rg r4_3 (by decide))
        refine va_iald hx hb hK hP 3 1 rfl rfl hi25_1 dX0_codeItems_25 ?_
        refine lv_topi (fun z25_2 ez25_2 => ?_)
        refine lv_aload_n hx hb dX0_codeItems_26 rfl (lv_at hl 0 rfl) ?_
        refine va_get (D := D) (ci := 0) (v := .ref f0) (C := RX0) (T := TX0) (N := 5) hx hb (htX0 hn) (fun _ h => h) hown hK hP 0 rfl rfl 2 (by decide) (hn.get mw_268 rfl) (fun _ h9 => h9) rfl dX0_codeItems_27 ?_
        refine va_getN (D := D) (ci := 2) (v := .ref f02) (C := RX2) (T := TX2) (N := 18) hx hb (htX2 hn) (fun _ h => h) hown hK hP 1 rfl rfl 2 (by decide) (hn.get mw_152 rfl) (fun _ h9 => h9) rfl dX0_codeItems_30 ?_
        refine lv_iload_n hx hb dX0_codeItems_33 rfl (lv_at hl 2 rfl) ?_
        have hi34_1 : vp_in j2_l3 7000 := (in_rg r4_3 (by decide))
        refine va_iald hx hb hK hP 4 1 rfl rfl hi34_1 dX0_codeItems_34 ?_
        refine lv_topi (fun z34_2 ez34_2 => ?_)
        refine go_v (k1 := 0) (n1 := 0) (wr := [(f00, .inl (ct 1, 7000, .inl g_f00)), (f01, .inl (ct 1, 7000, .inl g_f01)), (f02, .inl (ct 1, 7000, .inl g_f02))]) [0, 5, 6, 7, 1] [2, 3, 4] (rn_V (As := [.int z16_2, .int z25_2, .int z34_2]) (rest := []) (c_X0_codeItem l D ct cd z16_2 z25_2 z34_2 cds cdg f0 p0 j2_fcd_4 p0r x_p0_1 j2_cp0r j2_ccdg f00 f01 f02 x_f0_3 f04 f05 f06 f07 f08 f09 f010 x_f0_11 x_f0_12 f013 x_f0_14 f015 x_f0_16 f017 (rg_of (show 0 ≤ j2_fcd_4.toInt ∧ j2_fcd_4.toInt ≤ 1199999900 by have q0 := r2_1002.1; have q1 := r2_1002.2; have q2 := r4_3.1; have q3 := r4_3.2; have q4 := h_v0.1; have q5 := h_v0.2; have q6 := h_x_cd_4.1; have q7 := h_x_cd_4.2; have q8 := r4_4.1; have q9 := r4_4.2; have q10 := hi2_1004; have q11 := t4_2; omega)) h_x_p0_1 hc2_1003 h_x_f0_3 h_x_f0_11 h_x_f0_12 h_x_f0_14 h_x_f0_16 _) (cb_of (n := 3) hn mw_862 mw_9 mw_859 mhX0_codeItem ⟨(Nat.le_of_ble_eq_true rfl), (Nat.le_of_ble_eq_true rfl)⟩) hx hb hml hown hn hK hSK hZ hS mw_861 mw_s78 (ci := 0) (q0 := 0) rfl rfl rfl rfl hl.1 (Nat.le_of_ble_eq_true rfl) dX0_codeItems_35 ⟨(Nat.le_of_ble_eq_true rfl), (Nat.le_of_ble_eq_true rfl)⟩) hP hD hS hA rfl rfl (by decide) (by decide) (by decide) (Nat.le_of_ble_eq_true rfl) (Nat.le_of_ble_eq_true rfl) (fun u35_2 H locs hp35_3 hP hD hS => ?_)
        obtain ⟨y_cd_435_4, k_p0r35_5, k_cdg35_6⟩ := u35_2
        obtain ⟨hp35_7, hp35_8, hp35_9⟩ := hp35_3
        have hp35_7 : rg y_cd_435_4 0 1200000001 := hp35_7
        have hp35_9 : j2_fcd_4.toInt + 0 ≤ y_cd_435_4.toInt ∧ y_cd_435_4.toInt ≤ j2_fcd_4.toInt + 7 := hp35_9
        have hP : va_P D vwCl [(f00, .inl (ct 1, 7000, .inl g_f00)), (f01, .inl (ct 1, 7000, .inl g_f01)), (f02, .inl (ct 1, 7000, .inl g_f02)), (cd, .inr (0, [.ref cds, .ref cdg, .ref f0, .ref p0, .int y_cd_435_4])), (p0, .inr (7, [.ref p0r, .int x_p0_1])), (p0r, .inl (ct 2, 4000, .inr (.inl k_p0r35_5))), (cdg, .inl (ct 1, 4000, .inl k_cdg35_6)), (f0, .inr (2, [.ref f00, .ref f01, .ref f02, .int x_f0_3, .ref f04, .ref f05, .ref f06, .ref f07, .ref f08, .ref f09, .ref f010, .int x_f0_11, .int x_f0_12, .ref f013, .int x_f0_14, .ref f015, .int x_f0_16, .ref f017]))] _ := hP
        have hD : va_D A [(f00, .inl (ct 1, 7000, .inl g_f00)), (f01, .inl (ct 1, 7000, .inl g_f01)), (f02, .inl (ct 1, 7000, .inl g_f02)), (cd, .inr (0, [.ref cds, .ref cdg, .ref f0, .ref p0, .int y_cd_435_4])), (p0, .inr (7, [.ref p0r, .int x_p0_1])), (p0r, .inl (ct 2, 4000, .inr (.inl k_p0r35_5))), (cdg, .inl (ct 1, 4000, .inl k_cdg35_6)), (f0, .inr (2, [.ref f00, .ref f01, .ref f02, .int x_f0_3, .ref f04, .ref f05, .ref f06, .ref f07, .ref f08, .ref f09, .ref f010, .int x_f0_11, .int x_f0_12, .ref f013, .int x_f0_14, .ref f015, .int x_f0_16, .ref f017]))] := hD
        obtain ⟨x38_1, ex38_1⟩ : ∃ z : Int32, z = j2_l3 + 1 := ⟨_, rfl⟩
        have r38_2 : rg x38_1 1 7000 := rg_add ex38_1 r4_3 (show rg (1 : Int32) 1 1 from rg_l (by decide)) (by decide)
        refine lv_iinc (v := x38_1) (lv' := [(3, .int x38_1), (0, .ref cd), (2, .int v1)]) hx hb dX0_codeItems_38 hl (k := 2) rfl (by rw [ex38_1]; rfl) (by decide) rfl (fun ls hl => ?_)
        refine lv_goto (tgt := 2) hx hb dX0_codeItems_41 (by decide) ?_
        have hP := hP.sub (ws' := [(cd, .inr (0, [.ref cds, .ref cdg, .ref f0, .ref p0, .int y_cd_435_4])), (f0, .inr (2, [.ref f00, .ref f01, .ref f02, .int x_f0_3, .ref f04, .ref f05, .ref f06, .ref f07, .ref f08, .ref f09, .ref f010, .int x_f0_11, .int x_f0_12, .ref f013, .int x_f0_14, .ref f015, .int x_f0_16, .ref f017])), (f00, .inl (ct 1, 7000, .inl g_f00)), (f01, .inl (ct 1, 7000, .inl g_f01)), (f02, .inl (ct 1, 7000, .inl g_f02)), (p0, .inr (7, [.ref p0r, .int x_p0_1])), (p0r, .inl (ct 2, 4000, .inr (.inl k_p0r35_5))), (cdg, .inl (ct 1, 4000, .inl k_cdg35_6))]) [3, 7, 0, 1, 2, 4, 5, 6] rfl
        have hD := hD.sub (ws' := [(cd, .inr (0, [.ref cds, .ref cdg, .ref f0, .ref p0, .int y_cd_435_4])), (f0, .inr (2, [.ref f00, .ref f01, .ref f02, .int x_f0_3, .ref f04, .ref f05, .ref f06, .ref f07, .ref f08, .ref f09, .ref f010, .int x_f0_11, .int x_f0_12, .ref f013, .int x_f0_14, .ref f015, .int x_f0_16, .ref f017])), (f00, .inl (ct 1, 7000, .inl g_f00)), (f01, .inl (ct 1, 7000, .inl g_f01)), (f02, .inl (ct 1, 7000, .inl g_f02)), (p0, .inr (7, [.ref p0r, .int x_p0_1])), (p0r, .inl (ct 2, 4000, .inr (.inl k_p0r35_5))), (cdg, .inl (ct 1, 4000, .inl k_cdg35_6))]) [3, 7, 0, 1, 2, 4, 5, 6] (by decide) rfl
        exact ih x38_1 y_cd_435_4 k_p0r35_5 k_cdg35_6 H locs ls (rg_w r38_2 (by decide)) (rg_of (show 0 ≤ y_cd_435_4.toInt ∧ y_cd_435_4.toInt ≤ 1200000000 by have q0 := hp35_7.1; have q1 := hp35_7.2; have q2 := r2_1002.1; have q3 := r2_1002.2; have q4 := r4_3.1; have q5 := r4_3.2; have q6 := h_v0.1; have q7 := h_v0.2; have q8 := h_x_cd_4.1; have q9 := h_x_cd_4.2; have q10 := r4_4.1; have q11 := r4_4.2; have q12 := hi2_1004; have q13 := t4_2; have q14 := hp35_9; omega)) hp35_8 (show y_cd_435_4.toInt ≤ x_cd_4.toInt + 8 * x38_1.toInt - 8 * v0.toInt ∧ x_cd_4.toInt ≤ y_cd_435_4.toInt ∧ v0.toInt ≤ x38_1.toInt by have q0 := r38_2.1; have q1 := r38_2.2; have q2 := (eq_add ex38_1 r4_3 (show rg (1 : Int32) 1 1 from rg_l (by decide)) (by decide)); have q3 := (show rg (1 : Int32) 1 1 from rg_l (by decide)).1; have q4 := (show rg (1 : Int32) 1 1 from rg_l (by decide)).2; have q5 := r4_3.1; have q6 := r4_3.2; have q7 := h_v0.1; have q8 := h_v0.2; have q9 := hp35_7.1; have q10 := hp35_7.2; have q11 := h_x_cd_4.1; have q12 := h_x_cd_4.2; have q13 := r2_1002.1; have q14 := r2_1002.2; have q15 := r4_4.1; have q16 := r4_4.2; have q17 := hi2_1004; have q18 := t4_2; have q19 := hp35_9; omega) (show ((2147483647 : Int) - x38_1.toInt).toNat < n by have q0 := r4_3.1; have q1 := r4_3.2; have q2 := r38_2.1; have q3 := r38_2.2; have q4 := (eq_add ex38_1 r4_3 (show rg (1 : Int32) 1 1 from rg_l (by decide)) (by decide)); have q5 := (show rg (1 : Int32) 1 1 from rg_l (by decide)).1; have q6 := (show rg (1 : Int32) 1 1 from rg_l (by decide)).2; have q7 := h_v0.1; have q8 := h_v0.2; have q9 := r2_1002.1; have q10 := r2_1002.2; have q11 := h_x_cd_4.1; have q12 := h_x_cd_4.2; have q13 := r4_4.1; have q14 := r4_4.2; have q15 := hp35_7.1; have q16 := hp35_7.2; have q17 := hi2_1004; have q18 := t4_2; have q19 := hp35_9; have q20 := hms; omega) (lv_sub hl [1, 2, 0] rfl) hP hD hS
  exact b2 _ v0 x_cd_4 g_p0r g_cdg H locs ls h_v0 (rg_w h_x_cd_4 (by decide)) h_g_cdg (show x_cd_4.toInt ≤ x_cd_4.toInt + 8 * v0.toInt - 8 * v0.toInt ∧ x_cd_4.toInt ≤ x_cd_4.toInt ∧ v0.toInt ≤ v0.toInt by have q0 := h_v0.1; have q1 := h_v0.2; have q2 := h_x_cd_4.1; have q3 := h_x_cd_4.2; omega) (Nat.lt_succ_self _) (lv_sub hl [1, 3, 0] rfl) hP hD hS
set_option maxHeartbeats 2000000 in
theorem c_X0_rightIsNumber (l : Launch) (D : va_G) (ct : Nat → ClassId) (cd : Nat) (v0 : Int32) (cds : Nat) (cdg : Nat) (f0 : Nat) (p0 : Nat) (x_cd_4 : Int32) (f00 : Nat) (f01 : Nat) (f02 : Nat) (x_f0_3 : Int32) (f04 : Nat) (f05 : Nat) (f06 : Nat) (f07 : Nat) (f08 : Nat) (f09 : Nat) (f010 : Nat) (x_f0_11 : Int32) (x_f0_12 : Int32) (f013 : Nat) (x_f0_14 : Int32) (f015 : Nat) (x_f0_16 : Int32) (f017 : Nat) (g_f05 : Nat → Int32) (g_f06 : Nat → Int32) (g_f00 : Nat → Int32) (g_f01 : Nat → Int32) (h_v0 : rg v0 0 2999) (h_x_cd_4 : rg x_cd_4 0 1200000000) (h_x_f0_3 : rg x_f0_3 0 7000) (h_x_f0_11 : rg x_f0_11 0 3000) (h_x_f0_12 : rg x_f0_12 0 3000) (h_x_f0_14 : rg x_f0_14 2 5000) (h_x_f0_16 : rg x_f0_16 0 6) (h_g_f05 : Rg g_f05 3000 0 7000) (h_g_f06 : Rg g_f06 3000 0 7000) (h_g_f00 : Rg g_f00 7000 0 8) : KI (S := Unit) l yX0_rightIsNumber cX0_rightIsNumber 3 (some .boolean) 1 20 D ct [.ref cd, .int v0] [(cd, .inr (0, [.ref cds, .ref cdg, .ref f0, .ref p0, .int x_cd_4])), (f0, .inr (2, [.ref f00, .ref f01, .ref f02, .int x_f0_3, .ref f04, .ref f05, .ref f06, .ref f07, .ref f08, .ref f09, .ref f010, .int x_f0_11, .int x_f0_12, .ref f013, .int x_f0_14, .ref f015, .int x_f0_16, .ref f017])), (f05, .inl (ct 1, 3000, .inl g_f05)), (f06, .inl (ct 1, 3000, .inl g_f06)), (f00, .inl (ct 1, 7000, .inl g_f00)), (f01, .inl (ct 1, 7000, .inl g_f01))] 0 0 (fun (r : Int32) (_ : Unit) => rg r 0 1 ∧ (r.toInt = 1 → (g_f05 v0.toNatClampNeg).toInt ≤ 6999)) (fun (_ : Unit) => [(cd, .inr (0, [.ref cds, .ref cdg, .ref f0, .ref p0, .int x_cd_4])), (f0, .inr (2, [.ref f00, .ref f01, .ref f02, .int x_f0_3, .ref f04, .ref f05, .ref f06, .ref f07, .ref f08, .ref f09, .ref f010, .int x_f0_11, .int x_f0_12, .ref f013, .int x_f0_14, .ref f015, .int x_f0_16, .ref f017])), (f05, .inl (ct 1, 3000, .inl g_f05)), (f06, .inl (ct 1, 3000, .inl g_f06)), (f00, .inl (ct 1, 7000, .inl g_f00)), (f01, .inl (ct 1, 7000, .inl g_f01))]) := by
  refine KIq_of (by decide) (Nat.le_of_ble_eq_true rfl) (fun p e s m below meth c A Q C0 hA H locs hS hP hD hQ ls hl => ?_)
  obtain ⟨hx, hb, hr, hown, hin, hml, hlocks, hn, hK, hZ, hSK⟩ := C0
  have hl : lv_has ls 3 [(0, .ref cd), (1, .int v0)] := hl
  refine lv_aload_n hx hb dX0_rightIsNumber_0 rfl (lv_at hl 0 rfl) ?_
  refine va_get (D := D) (ci := 0) (v := .ref f0) (C := RX0) (T := TX0) (N := 5) hx hb (htX0 hn) (fun _ h => h) hown hK hP 0 rfl rfl 2 (by decide) (hn.get mw_268 rfl) (fun _ h9 => h9) rfl dX0_rightIsNumber_1 ?_
  refine va_getN (D := D) (ci := 2) (v := .ref f05) (C := RX2) (T := TX2) (N := 18) hx hb (htX2 hn) (fun _ h => h) hown hK hP 1 rfl rfl 5 (by decide) (hn.get mw_158 rfl) (fun _ h9 => h9) rfl dX0_rightIsNumber_4 ?_
  refine lv_iload_n hx hb dX0_rightIsNumber_7 rfl (lv_at hl 1 rfl) ?_
  have hi8_1 : vp_in v0 3000 := (in_rg h_v0 (by decide))
  refine va_iald hx hb hK hP 2 1 rfl rfl hi8_1 dX0_rightIsNumber_8 ?_
  refine lv_topi (fun z8_2 ez8_2 => ?_)
  have r8_3 : rg z8_2 0 7000 := Rg_at h_g_f05 hi8_1 ez8_2
  refine lv_istore_n (lv' := [(2, .int z8_2), (0, .ref cd), (1, .int v0)]) hx hb dX0_rightIsNumber_9 rfl hl (by decide) rfl (fun ls hl => ?_)
  refine lv_aload_n hx hb dX0_rightIsNumber_10 rfl (lv_at hl 1 rfl) ?_
  refine va_get (D := D) (ci := 0) (v := .ref f0) (C := RX0) (T := TX0) (N := 5) hx hb (htX0 hn) (fun _ h => h) hown hK hP 0 rfl rfl 2 (by decide) (hn.get mw_268 rfl) (fun _ h9 => h9) rfl dX0_rightIsNumber_11 ?_
  refine va_getN (D := D) (ci := 2) (v := .ref f06) (C := RX2) (T := TX2) (N := 18) hx hb (htX2 hn) (fun _ h => h) hown hK hP 1 rfl rfl 6 (by decide) (hn.get mw_160 rfl) (fun _ h9 => h9) rfl dX0_rightIsNumber_14 ?_
  refine lv_iload_n hx hb dX0_rightIsNumber_17 rfl (lv_at hl 2 rfl) ?_
  have hi18_1 : vp_in v0 3000 := (in_rg h_v0 (by decide))
  refine va_iald hx hb hK hP 3 1 rfl rfl hi18_1 dX0_rightIsNumber_18 ?_
  refine lv_topi (fun z18_2 ez18_2 => ?_)
  have r18_3 : rg z18_2 0 7000 := Rg_at h_g_f06 hi18_1 ez18_2
  refine lv_iload_n hx hb dX0_rightIsNumber_19 rfl (lv_at hl 0 rfl) ?_
  refine lv_isub hx hb dX0_rightIsNumber_20 ?_
  refine lv_topi (fun z20_1 ez20_1 => ?_)
  have r20_2 : rg z20_1 (-7000) 7000 := rg_sub ez20_1 r18_3 r8_3 (by decide)
  refine lv_iconst (v := 1) hx hb dX0_rightIsNumber_21 (by decide) ?_
  refine lv_icmp_ne (tgt := 54) hx hb dX0_rightIsNumber_22 (by decide) (fun c22_1 => ?_) (fun c22_1 => ?_)
  · have t22_2 := (i_ne c22_1)
    refine lv_iconst (v := 0) hx hb dX0_rightIsNumber_54 (by decide) ?_
    exact endq_i hQ hx hb hr hlocks dX0_rightIsNumber_55 (by decide) () ⟨(rg_w (show rg (0 : Int32) 0 0 from rg_l (by decide)) (by decide)), (show (0 : Int32).toInt = 1 → (g_f05 v0.toNatClampNeg).toInt ≤ 6999 by have q0 := (rg_any (g_f05 v0.toNatClampNeg)).1; have q1 := (rg_any (g_f05 v0.toNatClampNeg)).2; have q2 := (show rg (0 : Int32) 0 0 from rg_l (by decide)).1; have q3 := (show rg (0 : Int32) 0 0 from rg_l (by decide)).2; have q4 := (show rg (1 : Int32) 1 1 from rg_l (by decide)).1; have q5 := (show rg (1 : Int32) 1 1 from rg_l (by decide)).2; have q6 := r20_2.1; have q7 := r20_2.2; have q8 := (eq_sub ez20_1 r18_3 r8_3 (by decide)); have q9 := r8_3.1; have q10 := r8_3.2; have q11 := (congrArg Int32.toInt ez8_2); have q12 := r18_3.1; have q13 := r18_3.2; have q14 := (congrArg Int32.toInt ez18_2); have q15 := (rg_any (g_f06 v0.toNatClampNeg)).1; have q16 := (rg_any (g_f06 v0.toNatClampNeg)).2; have q17 := t22_2; omega)⟩ hP hD hS [0, 1, 2, 3, 4, 5] rfl (by decide) rfl (Nat.le_of_ble_eq_true rfl) (Nat.le_of_ble_eq_true rfl)
  · have t22_2 := (i_eq c22_1)
    have r22_3 : rg z20_1 1 1 := rg_eqA t22_2 r20_2 (show rg (1 : Int32) 1 1 from rg_l (by decide)) (by decide)
    refine lv_aload_n hx hb dX0_rightIsNumber_25 rfl (lv_at hl 1 rfl) ?_
    refine va_get (D := D) (ci := 0) (v := .ref f0) (C := RX0) (T := TX0) (N := 5) hx hb (htX0 hn) (fun _ h => h) hown hK hP 0 rfl rfl 2 (by decide) (hn.get mw_268 rfl) (fun _ h9 => h9) rfl dX0_rightIsNumber_26 ?_
    refine va_getN (D := D) (ci := 2) (v := .ref f00) (C := RX2) (T := TX2) (N := 18) hx hb (htX2 hn) (fun _ h => h) hown hK hP 1 rfl rfl 0 (by decide) (hn.get mw_148 rfl) (fun _ h9 => h9) rfl dX0_rightIsNumber_29 ?_
    refine lv_iload_n hx hb dX0_rightIsNumber_32 rfl (lv_at hl 0 rfl) ?_
    have hi33_1 : vp_in z8_2 7000 := (in_of (show 0 ≤ z8_2.toInt ∧ z8_2.toInt < 7000 by have q0 := r8_3.1; have q1 := r8_3.2; have q2 := (congrArg Int32.toInt ez8_2); have q3 := (rg_any (g_f05 v0.toNatClampNeg)).1; have q4 := (rg_any (g_f05 v0.toNatClampNeg)).2; have q5 := (show rg (1 : Int32) 1 1 from rg_l (by decide)).1; have q6 := (show rg (1 : Int32) 1 1 from rg_l (by decide)).2; have q7 := r22_3.1; have q8 := r22_3.2; have q9 := (eq_sub ez20_1 r18_3 r8_3 (by decide)); have q10 := r18_3.1; have q11 := r18_3.2; have q12 := (congrArg Int32.toInt ez18_2); have q13 := (rg_any (g_f06 v0.toNatClampNeg)).1; have q14 := (rg_any (g_f06 v0.toNatClampNeg)).2; have q15 := t22_2; omega))
    refine va_iald hx hb hK hP 4 1 rfl rfl hi33_1 dX0_rightIsNumber_33 ?_
    refine lv_topi (fun z33_2 ez33_2 => ?_)
    have r33_3 : rg z33_2 0 8 := Rg_at h_g_f00 hi33_1 ez33_2
    refine lv_if_ne (tgt := 54) hx hb dX0_rightIsNumber_34 (by decide) (fun c34_1 => ?_) (fun c34_1 => ?_)
    · have t34_2 := (i_ne c34_1)
      have r34_3 : rg z33_2 1 8 := rg_neAl t34_2 r33_3 (show rg (0 : Int32) 0 0 from rg_l (by decide)) (by decide)
      refine lv_iconst (v := 0) hx hb dX0_rightIsNumber_54 (by decide) ?_
      exact endq_i hQ hx hb hr hlocks dX0_rightIsNumber_55 (by decide) () ⟨(rg_w (show rg (0 : Int32) 0 0 from rg_l (by decide)) (by decide)), (show (0 : Int32).toInt = 1 → (g_f05 v0.toNatClampNeg).toInt ≤ 6999 by have q0 := (rg_any (g_f05 v0.toNatClampNeg)).1; have q1 := (rg_any (g_f05 v0.toNatClampNeg)).2; have q2 := (show rg (0 : Int32) 0 0 from rg_l (by decide)).1; have q3 := (show rg (0 : Int32) 0 0 from rg_l (by decide)).2; have q4 := (show rg (1 : Int32) 1 1 from rg_l (by decide)).1; have q5 := (show rg (1 : Int32) 1 1 from rg_l (by decide)).2; have q6 := r22_3.1; have q7 := r22_3.2; have q8 := (eq_sub ez20_1 r18_3 r8_3 (by decide)); have q9 := r8_3.1; have q10 := r8_3.2; have q11 := (congrArg Int32.toInt ez8_2); have q12 := r18_3.1; have q13 := r18_3.2; have q14 := (congrArg Int32.toInt ez18_2); have q15 := (rg_any (g_f06 v0.toNatClampNeg)).1; have q16 := (rg_any (g_f06 v0.toNatClampNeg)).2; have q17 := t22_2; omega)⟩ hP hD hS [0, 1, 2, 3, 4, 5] rfl (by decide) rfl (Nat.le_of_ble_eq_true rfl) (Nat.le_of_ble_eq_true rfl)
    · have t34_2 := (i_eq c34_1)
      have r34_3 : rg z33_2 0 0 := rg_eqA t34_2 r33_3 (show rg (0 : Int32) 0 0 from rg_l (by decide)) (by decide)
      refine lv_aload_n hx hb dX0_rightIsNumber_37 rfl (lv_at hl 1 rfl) ?_
      refine va_get (D := D) (ci := 0) (v := .ref f0) (C := RX0) (T := TX0) (N := 5) hx hb (htX0 hn) (fun _ h => h) hown hK hP 0 rfl rfl 2 (by decide) (hn.get mw_268 rfl) (fun _ h9 => h9) rfl dX0_rightIsNumber_38 ?_
      refine va_getN (D := D) (ci := 2) (v := .ref f01) (C := RX2) (T := TX2) (N := 18) hx hb (htX2 hn) (fun _ h => h) hown hK hP 1 rfl rfl 1 (by decide) (hn.get mw_150 rfl) (fun _ h9 => h9) rfl dX0_rightIsNumber_41 ?_
      refine lv_iload_n hx hb dX0_rightIsNumber_44 rfl (lv_at hl 0 rfl) ?_
      have hi45_1 : vp_in z8_2 7000 := (in_of (show 0 ≤ z8_2.toInt ∧ z8_2.toInt < 7000 by have q0 := r8_3.1; have q1 := r8_3.2; have q2 := (congrArg Int32.toInt ez8_2); have q3 := (rg_any (g_f05 v0.toNatClampNeg)).1; have q4 := (rg_any (g_f05 v0.toNatClampNeg)).2; have q5 := (show rg (1 : Int32) 1 1 from rg_l (by decide)).1; have q6 := (show rg (1 : Int32) 1 1 from rg_l (by decide)).2; have q7 := r22_3.1; have q8 := r22_3.2; have q9 := (eq_sub ez20_1 r18_3 r8_3 (by decide)); have q10 := r18_3.1; have q11 := r18_3.2; have q12 := (congrArg Int32.toInt ez18_2); have q13 := (rg_any (g_f06 v0.toNatClampNeg)).1; have q14 := (rg_any (g_f06 v0.toNatClampNeg)).2; have q15 := t22_2; omega))
      refine va_iald hx hb hK hP 5 1 rfl rfl hi45_1 dX0_rightIsNumber_45 ?_
      refine lv_topi (fun z45_2 ez45_2 => ?_)
      refine lv_iconst (v := 1) hx hb dX0_rightIsNumber_46 (by decide) ?_
      refine lv_icmp_ne (tgt := 54) hx hb dX0_rightIsNumber_47 (by decide) (fun c47_1 => ?_) (fun c47_1 => ?_)
      · have t47_2 := (i_ne c47_1)
        refine lv_iconst (v := 0) hx hb dX0_rightIsNumber_54 (by decide) ?_
        exact endq_i hQ hx hb hr hlocks dX0_rightIsNumber_55 (by decide) () ⟨(rg_w (show rg (0 : Int32) 0 0 from rg_l (by decide)) (by decide)), (show (0 : Int32).toInt = 1 → (g_f05 v0.toNatClampNeg).toInt ≤ 6999 by have q0 := (rg_any (g_f05 v0.toNatClampNeg)).1; have q1 := (rg_any (g_f05 v0.toNatClampNeg)).2; have q2 := (show rg (0 : Int32) 0 0 from rg_l (by decide)).1; have q3 := (show rg (0 : Int32) 0 0 from rg_l (by decide)).2; have q4 := (show rg (1 : Int32) 1 1 from rg_l (by decide)).1; have q5 := (show rg (1 : Int32) 1 1 from rg_l (by decide)).2; have q6 := r22_3.1; have q7 := r22_3.2; have q8 := (eq_sub ez20_1 r18_3 r8_3 (by decide)); have q9 := r8_3.1; have q10 := r8_3.2; have q11 := (congrArg Int32.toInt ez8_2); have q12 := r18_3.1; have q13 := r18_3.2; have q14 := (congrArg Int32.toInt ez18_2); have q15 := (rg_any (g_f06 v0.toNatClampNeg)).1; have q16 := (rg_any (g_f06 v0.toNatClampNeg)).2; have q17 := t22_2; omega)⟩ hP hD hS [0, 1, 2, 3, 4, 5] rfl (by decide) rfl (Nat.le_of_ble_eq_true rfl) (Nat.le_of_ble_eq_true rfl)
      · have t47_2 := (i_eq c47_1)
        have r47_3 : rg z45_2 1 1 := rg_eqA t47_2 (rg_any z45_2) (show rg (1 : Int32) 1 1 from rg_l (by decide)) (by decide)
        refine lv_iconst (v := 1) hx hb dX0_rightIsNumber_50 (by decide) ?_
        refine lv_goto (tgt := 55) hx hb dX0_rightIsNumber_51 (by decide) ?_
        exact endq_i hQ hx hb hr hlocks dX0_rightIsNumber_55 (by decide) () ⟨(rg_w (show rg (1 : Int32) 1 1 from rg_l (by decide)) (by decide)), (show (1 : Int32).toInt = 1 → (g_f05 v0.toNatClampNeg).toInt ≤ 6999 by have q0 := (rg_any (g_f05 v0.toNatClampNeg)).1; have q1 := (rg_any (g_f05 v0.toNatClampNeg)).2; have q2 := (show rg (1 : Int32) 1 1 from rg_l (by decide)).1; have q3 := (show rg (1 : Int32) 1 1 from rg_l (by decide)).2; have q4 := r22_3.1; have q5 := r22_3.2; have q6 := (eq_sub ez20_1 r18_3 r8_3 (by decide)); have q7 := r8_3.1; have q8 := r8_3.2; have q9 := (congrArg Int32.toInt ez8_2); have q10 := r18_3.1; have q11 := r18_3.2; have q12 := (congrArg Int32.toInt ez18_2); have q13 := (rg_any (g_f06 v0.toNatClampNeg)).1; have q14 := (rg_any (g_f06 v0.toNatClampNeg)).2; have q15 := t22_2; omega)⟩ hP hD hS [0, 1, 2, 3, 4, 5] rfl (by decide) rfl (Nat.le_of_ble_eq_true rfl) (Nat.le_of_ble_eq_true rfl)
set_option maxHeartbeats 2000000 in
theorem c_X0_codeTest (l : Launch) (D : va_G) (ct : Nat → ClassId) (cd : Nat) (v0 : Int32) (cds : Nat) (cdg : Nat) (f0 : Nat) (p0 : Nat) (x_cd_4 : Int32) (f00 : Nat) (f01 : Nat) (f02 : Nat) (x_f0_3 : Int32) (f04 : Nat) (f05 : Nat) (f06 : Nat) (f07 : Nat) (f08 : Nat) (f09 : Nat) (f010 : Nat) (x_f0_11 : Int32) (x_f0_12 : Int32) (f013 : Nat) (x_f0_14 : Int32) (f015 : Nat) (x_f0_16 : Int32) (f017 : Nat) (g_f04 : Nat → Int32) (g_f05 : Nat → Int32) (g_f00 : Nat → Int32) (g_f01 : Nat → Int32) (g_f02 : Nat → Int32) (p0r : Nat) (x_p0_1 : Int32) (g_p0r : Nat → Int64) (g_cdg : Nat → Int32) (g_f06 : Nat → Int32) (h_v0 : rg v0 0 2999) (h_x_cd_4 : rg x_cd_4 0 1199800000) (h_x_f0_3 : rg x_f0_3 0 7000) (h_x_f0_11 : rg x_f0_11 0 3000) (h_x_f0_12 : rg x_f0_12 0 3000) (h_x_f0_14 : rg x_f0_14 2 5000) (h_x_f0_16 : rg x_f0_16 0 6) (h_g_f04 : Rg g_f04 3000 0 7000) (h_g_f05 : Rg g_f05 3000 0 7000) (h_g_f00 : Rg g_f00 7000 0 8) (h_x_p0_1 : rg x_p0_1 0 4000) (h_g_cdg : Rg g_cdg 4000 (-1) 3001) (h_g_f06 : Rg g_f06 3000 0 7000) : KV (S := Int32 × (Nat → Int64) × (Nat → Int32)) l yX0_codeTest cX0_codeTest 2 none 6 139 D ct [.ref cd, .int v0] [(cd, .inr (0, [.ref cds, .ref cdg, .ref f0, .ref p0, .int x_cd_4])), (f0, .inr (2, [.ref f00, .ref f01, .ref f02, .int x_f0_3, .ref f04, .ref f05, .ref f06, .ref f07, .ref f08, .ref f09, .ref f010, .int x_f0_11, .int x_f0_12, .ref f013, .int x_f0_14, .ref f015, .int x_f0_16, .ref f017])), (f04, .inl (ct 1, 3000, .inl g_f04)), (f05, .inl (ct 1, 3000, .inl g_f05)), (f00, .inl (ct 1, 7000, .inl g_f00)), (f01, .inl (ct 1, 7000, .inl g_f01)), (f02, .inl (ct 1, 7000, .inl g_f02)), (p0, .inr (7, [.ref p0r, .int x_p0_1])), (p0r, .inl (ct 2, 4000, .inr (.inl g_p0r))), (cdg, .inl (ct 1, 4000, .inl g_cdg)), (f06, .inl (ct 1, 3000, .inl g_f06))] 0 0 (fun (u : Int32 × (Nat → Int64) × (Nat → Int32)) => match u with | (y_cd_4, k_p0r, k_cdg) => rg y_cd_4 0 1200000001 ∧ Rg k_cdg 4000 (-1) 3001 ∧ (x_cd_4.toInt + 0 ≤ y_cd_4.toInt ∧ y_cd_4.toInt ≤ x_cd_4.toInt + 112003)) (fun (u : Int32 × (Nat → Int64) × (Nat → Int32)) => match u with | (y_cd_4, k_p0r, k_cdg) => [(cd, .inr (0, [.ref cds, .ref cdg, .ref f0, .ref p0, .int y_cd_4])), (f0, .inr (2, [.ref f00, .ref f01, .ref f02, .int x_f0_3, .ref f04, .ref f05, .ref f06, .ref f07, .ref f08, .ref f09, .ref f010, .int x_f0_11, .int x_f0_12, .ref f013, .int x_f0_14, .ref f015, .int x_f0_16, .ref f017])), (f04, .inl (ct 1, 3000, .inl g_f04)), (f05, .inl (ct 1, 3000, .inl g_f05)), (f00, .inl (ct 1, 7000, .inl g_f00)), (f01, .inl (ct 1, 7000, .inl g_f01)), (f02, .inl (ct 1, 7000, .inl g_f02)), (p0, .inr (7, [.ref p0r, .int x_p0_1])), (p0r, .inl (ct 2, 4000, .inr (.inl k_p0r))), (cdg, .inl (ct 1, 4000, .inl k_cdg)), (f06, .inl (ct 1, 3000, .inl g_f06))]) := by
  refine KVq_of (by decide) (Nat.le_of_ble_eq_true rfl) (fun p e s m below meth c A Q C0 hA H locs hS hP hD hQ ls hl => ?_)
  obtain ⟨hx, hb, hr, hown, hin, hml, hlocks, hn, hK, hZ, hSK⟩ := C0
  have hl : lv_has ls 2 [(0, .ref cd), (1, .int v0)] := hl
  refine lv_aload_n hx hb dX0_codeTest_0 rfl (lv_at hl 0 rfl) ?_
  refine lv_aload_n hx hb dX0_codeTest_1 rfl (lv_at hl 0 rfl) ?_
  refine va_get (D := D) (ci := 0) (v := .ref f0) (C := RX0) (T := TX0) (N := 5) hx hb (htX0 hn) (fun _ h => h) hown hK hP 0 rfl rfl 2 (by decide) (hn.get mw_268 rfl) (fun _ h9 => h9) rfl dX0_codeTest_2 ?_
  refine va_getN (D := D) (ci := 2) (v := .ref f04) (C := RX2) (T := TX2) (N := 18) hx hb (htX2 hn) (fun _ h => h) hown hK hP 1 rfl rfl 4 (by decide) (hn.get mw_156 rfl) (fun _ h9 => h9) rfl dX0_codeTest_5 ?_
  refine lv_iload_n hx hb dX0_codeTest_8 rfl (lv_at hl 1 rfl) ?_
  have hi9_1 : vp_in v0 3000 := (in_rg h_v0 (by decide))
  refine va_iald hx hb hK hP 2 1 rfl rfl hi9_1 dX0_codeTest_9 ?_
  refine lv_topi (fun z9_2 ez9_2 => ?_)
  have r9_3 : rg z9_2 0 7000 := Rg_at h_g_f04 hi9_1 ez9_2
  refine lv_aload_n hx hb dX0_codeTest_10 rfl (lv_at hl 0 rfl) ?_
  refine va_get (D := D) (ci := 0) (v := .ref f0) (C := RX0) (T := TX0) (N := 5) hx hb (htX0 hn) (fun _ h => h) hown hK hP 0 rfl rfl 2 (by decide) (hn.get mw_268 rfl) (fun _ h9 => h9) rfl dX0_codeTest_11 ?_
  refine va_getN (D := D) (ci := 2) (v := .ref f05) (C := RX2) (T := TX2) (N := 18) hx hb (htX2 hn) (fun _ h => h) hown hK hP 1 rfl rfl 5 (by decide) (hn.get mw_158 rfl) (fun _ h9 => h9) rfl dX0_codeTest_14 ?_
  refine lv_iload_n hx hb dX0_codeTest_17 rfl (lv_at hl 1 rfl) ?_
  have hi18_1 : vp_in v0 3000 := (in_rg h_v0 (by decide))
  refine va_iald hx hb hK hP 3 1 rfl rfl hi18_1 dX0_codeTest_18 ?_
  refine lv_topi (fun z18_2 ez18_2 => ?_)
  have r18_3 : rg z18_2 0 7000 := Rg_at h_g_f05 hi18_1 ez18_2
  refine go_v (k1 := 0) (n1 := 0) (wr := [(f04, .inl (ct 1, 3000, .inl g_f04)), (f05, .inl (ct 1, 3000, .inl g_f05)), (f06, .inl (ct 1, 3000, .inl g_f06))]) [0, 1, 4, 5, 6, 7, 8, 9] [2, 3, 10] (rn_V (As := [.int z9_2, .int z18_2]) (rest := []) (c_X0_codeItems l D ct cd z9_2 z18_2 cds cdg f0 p0 x_cd_4 f00 f01 f02 x_f0_3 f04 f05 f06 f07 f08 f09 f010 x_f0_11 x_f0_12 f013 x_f0_14 f015 x_f0_16 f017 g_f00 g_f01 g_f02 p0r x_p0_1 g_p0r g_cdg r9_3 r18_3 (rg_w h_x_cd_4 (by decide)) h_x_f0_3 h_x_f0_11 h_x_f0_12 h_x_f0_14 h_x_f0_16 h_g_f00 h_x_p0_1 h_g_cdg _) (cb_of (n := 2) hn mw_858 mw_9 mw_855 mhX0_codeItems ⟨(Nat.le_of_ble_eq_true rfl), (Nat.le_of_ble_eq_true rfl)⟩) hx hb hml hown hn hK hSK hZ hS mw_857 mw_s77 (ci := 0) (q0 := 0) rfl rfl rfl rfl hl.1 (Nat.le_of_ble_eq_true rfl) dX0_codeTest_19 ⟨(Nat.le_of_ble_eq_true rfl), (Nat.le_of_ble_eq_true rfl)⟩) hP hD hS hA rfl rfl (by decide) (by decide) (by decide) (Nat.le_of_ble_eq_true rfl) (Nat.le_of_ble_eq_true rfl) (fun u19_2 H locs hp19_3 hP hD hS => ?_)
  obtain ⟨y_cd_419_4, k_p0r19_5, k_cdg19_6⟩ := u19_2
  obtain ⟨hp19_7, hp19_8, hp19_9⟩ := hp19_3
  have hp19_7 : rg y_cd_419_4 0 1200000000 := hp19_7
  have hp19_9 : x_cd_4.toInt + 0 ≤ y_cd_419_4.toInt ∧ y_cd_419_4.toInt ≤ x_cd_4.toInt + 56000 := hp19_9
  have hP : va_P D vwCl [(f04, .inl (ct 1, 3000, .inl g_f04)), (f05, .inl (ct 1, 3000, .inl g_f05)), (f06, .inl (ct 1, 3000, .inl g_f06)), (cd, .inr (0, [.ref cds, .ref cdg, .ref f0, .ref p0, .int y_cd_419_4])), (f0, .inr (2, [.ref f00, .ref f01, .ref f02, .int x_f0_3, .ref f04, .ref f05, .ref f06, .ref f07, .ref f08, .ref f09, .ref f010, .int x_f0_11, .int x_f0_12, .ref f013, .int x_f0_14, .ref f015, .int x_f0_16, .ref f017])), (f00, .inl (ct 1, 7000, .inl g_f00)), (f01, .inl (ct 1, 7000, .inl g_f01)), (f02, .inl (ct 1, 7000, .inl g_f02)), (p0, .inr (7, [.ref p0r, .int x_p0_1])), (p0r, .inl (ct 2, 4000, .inr (.inl k_p0r19_5))), (cdg, .inl (ct 1, 4000, .inl k_cdg19_6))] _ := hP
  have hD : va_D A [(f04, .inl (ct 1, 3000, .inl g_f04)), (f05, .inl (ct 1, 3000, .inl g_f05)), (f06, .inl (ct 1, 3000, .inl g_f06)), (cd, .inr (0, [.ref cds, .ref cdg, .ref f0, .ref p0, .int y_cd_419_4])), (f0, .inr (2, [.ref f00, .ref f01, .ref f02, .int x_f0_3, .ref f04, .ref f05, .ref f06, .ref f07, .ref f08, .ref f09, .ref f010, .int x_f0_11, .int x_f0_12, .ref f013, .int x_f0_14, .ref f015, .int x_f0_16, .ref f017])), (f00, .inl (ct 1, 7000, .inl g_f00)), (f01, .inl (ct 1, 7000, .inl g_f01)), (f02, .inl (ct 1, 7000, .inl g_f02)), (p0, .inr (7, [.ref p0r, .int x_p0_1])), (p0r, .inl (ct 2, 4000, .inr (.inl k_p0r19_5))), (cdg, .inl (ct 1, 4000, .inl k_cdg19_6))] := hD
  refine lv_aload_n hx hb dX0_codeTest_22 rfl (lv_at hl 0 rfl) ?_
  refine lv_iload_n hx hb dX0_codeTest_23 rfl (lv_at hl 1 rfl) ?_
  refine go_i (k1 := 0) (n1 := 0) (wr := [(f04, .inl (ct 1, 3000, .inl g_f04)), (f02, .inl (ct 1, 7000, .inl g_f02)), (p0, .inr (7, [.ref p0r, .int x_p0_1])), (p0r, .inl (ct 2, 4000, .inr (.inl k_p0r19_5))), (cdg, .inl (ct 1, 4000, .inl k_cdg19_6))]) [3, 4, 1, 2, 5, 6] [0, 7, 8, 9, 10] (rn_V (As := [.int v0]) (rest := []) (c_X0_rightIsNumber l D ct cd v0 cds cdg f0 p0 y_cd_419_4 f00 f01 f02 x_f0_3 f04 f05 f06 f07 f08 f09 f010 x_f0_11 x_f0_12 f013 x_f0_14 f015 x_f0_16 f017 g_f05 g_f06 g_f00 g_f01 h_v0 hp19_7 h_x_f0_3 h_x_f0_11 h_x_f0_12 h_x_f0_14 h_x_f0_16 h_g_f05 h_g_f06 h_g_f00 _) (cb_of (n := 1) hn mw_896 mw_9 mw_893 mhX0_rightIsNumber ⟨(Nat.le_of_ble_eq_true rfl), (Nat.le_of_ble_eq_true rfl)⟩) hx hb hml hown hn hK hSK hZ hS mw_895 mw_s85 (ci := 0) (q0 := 0) rfl rfl rfl rfl hl.1 (Nat.le_of_ble_eq_true rfl) dX0_codeTest_24 ⟨(Nat.le_of_ble_eq_true rfl), (Nat.le_of_ble_eq_true rfl)⟩) hP hD hS hA rfl rfl (by decide) (by decide) (by decide) (Nat.le_of_ble_eq_true rfl) (Nat.le_of_ble_eq_true rfl) (fun r24_1 u24_2 H locs hp24_3 hP hD hS => ?_)
  obtain ⟨hp24_4, hp24_5⟩ := hp24_3
  have hp24_4 : rg r24_1 0 1 := hp24_4
  have hp24_5 : r24_1.toInt = 1 → (g_f05 v0.toNatClampNeg).toInt ≤ 6999 := hp24_5
  have hP : va_P D vwCl [(f04, .inl (ct 1, 3000, .inl g_f04)), (f02, .inl (ct 1, 7000, .inl g_f02)), (p0, .inr (7, [.ref p0r, .int x_p0_1])), (p0r, .inl (ct 2, 4000, .inr (.inl k_p0r19_5))), (cdg, .inl (ct 1, 4000, .inl k_cdg19_6)), (cd, .inr (0, [.ref cds, .ref cdg, .ref f0, .ref p0, .int y_cd_419_4])), (f0, .inr (2, [.ref f00, .ref f01, .ref f02, .int x_f0_3, .ref f04, .ref f05, .ref f06, .ref f07, .ref f08, .ref f09, .ref f010, .int x_f0_11, .int x_f0_12, .ref f013, .int x_f0_14, .ref f015, .int x_f0_16, .ref f017])), (f05, .inl (ct 1, 3000, .inl g_f05)), (f06, .inl (ct 1, 3000, .inl g_f06)), (f00, .inl (ct 1, 7000, .inl g_f00)), (f01, .inl (ct 1, 7000, .inl g_f01))] _ := hP
  have hD : va_D A [(f04, .inl (ct 1, 3000, .inl g_f04)), (f02, .inl (ct 1, 7000, .inl g_f02)), (p0, .inr (7, [.ref p0r, .int x_p0_1])), (p0r, .inl (ct 2, 4000, .inr (.inl k_p0r19_5))), (cdg, .inl (ct 1, 4000, .inl k_cdg19_6)), (cd, .inr (0, [.ref cds, .ref cdg, .ref f0, .ref p0, .int y_cd_419_4])), (f0, .inr (2, [.ref f00, .ref f01, .ref f02, .int x_f0_3, .ref f04, .ref f05, .ref f06, .ref f07, .ref f08, .ref f09, .ref f010, .int x_f0_11, .int x_f0_12, .ref f013, .int x_f0_14, .ref f015, .int x_f0_16, .ref f017])), (f05, .inl (ct 1, 3000, .inl g_f05)), (f06, .inl (ct 1, 3000, .inl g_f06)), (f00, .inl (ct 1, 7000, .inl g_f00)), (f01, .inl (ct 1, 7000, .inl g_f01))] := hD
  refine lv_if_ne (tgt := 62) hx hb dX0_codeTest_27 (by decide) (fun c27_1 => ?_) (fun c27_1 => ?_)
  · have t27_2 := (i_ne c27_1)
    have r27_3 : rg r24_1 1 1 := rg_neAl t27_2 hp24_4 (show rg (0 : Int32) 0 0 from rg_l (by decide)) (by decide)
    exact endq_v hQ hx hb hr hlocks dX0_codeTest_62 (y_cd_419_4, k_p0r19_5, k_cdg19_6) ⟨(rg_w hp19_7 (by decide)), hp19_8, (show x_cd_4.toInt + 0 ≤ y_cd_419_4.toInt ∧ y_cd_419_4.toInt ≤ x_cd_4.toInt + 112003 by have q0 := h_x_cd_4.1; have q1 := h_x_cd_4.2; have q2 := hp19_7.1; have q3 := hp19_7.2; have q4 := hp19_9; omega)⟩ hP hD hS [5, 6, 0, 7, 9, 10, 1, 2, 3, 4, 8] rfl (by decide) rfl (Nat.le_of_ble_eq_true rfl) (Nat.le_of_ble_eq_true rfl)
  · have t27_2 := (i_eq c27_1)
    have r27_3 : rg r24_1 0 0 := rg_eqA t27_2 hp24_4 (show rg (0 : Int32) 0 0 from rg_l (by decide)) (by decide)
    refine lv_aload_n hx hb dX0_codeTest_30 rfl (lv_at hl 0 rfl) ?_
    refine lv_iconst (v := 0) hx hb dX0_codeTest_31 (by decide) ?_
    refine go_v (k1 := 0) (n1 := 0) (wr := [(f04, .inl (ct 1, 3000, .inl g_f04)), (f02, .inl (ct 1, 7000, .inl g_f02)), (f0, .inr (2, [.ref f00, .ref f01, .ref f02, .int x_f0_3, .ref f04, .ref f05, .ref f06, .ref f07, .ref f08, .ref f09, .ref f010, .int x_f0_11, .int x_f0_12, .ref f013, .int x_f0_14, .ref f015, .int x_f0_16, .ref f017])), (f05, .inl (ct 1, 3000, .inl g_f05)), (f06, .inl (ct 1, 3000, .inl g_f06)), (f00, .inl (ct 1, 7000, .inl g_f00)), (f01, .inl (ct 1, 7000, .inl g_f01))]) [5, 2, 3, 4] [0, 1, 6, 7, 8, 9, 10] (rn_V (As := [.int 0]) (rest := []) (c_X0_codePush l D ct cd (0 : Int32) cds cdg f0 p0 y_cd_419_4 p0r x_p0_1 k_p0r19_5 k_cdg19_6 (rg_of (show 0 ≤ y_cd_419_4.toInt ∧ y_cd_419_4.toInt ≤ 1199999980 by have q0 := hp19_7.1; have q1 := hp19_7.2; have q2 := h_x_cd_4.1; have q3 := h_x_cd_4.2; have q4 := hp19_9; omega)) h_x_p0_1 hp19_8 _) (cb_of (n := 1) hn mw_866 mw_9 mw_863 mhX0_codePush ⟨(Nat.le_of_ble_eq_true rfl), (Nat.le_of_ble_eq_true rfl)⟩) hx hb hml hown hn hK hSK hZ hS mw_865 mw_s79 (ci := 0) (q0 := 0) rfl rfl rfl rfl hl.1 (Nat.le_of_ble_eq_true rfl) dX0_codeTest_32 ⟨(Nat.le_of_ble_eq_true rfl), (Nat.le_of_ble_eq_true rfl)⟩) hP hD hS hA rfl rfl (by decide) (by decide) (by decide) (Nat.le_of_ble_eq_true rfl) (Nat.le_of_ble_eq_true rfl) (fun u32_2 H locs hp32_3 hP hD hS => ?_)
    obtain ⟨y_cd_432_4, k_p0r32_5, k_cdg32_6⟩ := u32_2
    obtain ⟨hp32_7, hp32_8, hp32_9⟩ := hp32_3
    have hp32_7 : rg y_cd_432_4 1 1200000001 := hp32_7
    have hp32_9 : y_cd_432_4.toInt = y_cd_419_4.toInt + 1 := hp32_9
    have hP : va_P D vwCl [(f04, .inl (ct 1, 3000, .inl g_f04)), (f02, .inl (ct 1, 7000, .inl g_f02)), (f0, .inr (2, [.ref f00, .ref f01, .ref f02, .int x_f0_3, .ref f04, .ref f05, .ref f06, .ref f07, .ref f08, .ref f09, .ref f010, .int x_f0_11, .int x_f0_12, .ref f013, .int x_f0_14, .ref f015, .int x_f0_16, .ref f017])), (f05, .inl (ct 1, 3000, .inl g_f05)), (f06, .inl (ct 1, 3000, .inl g_f06)), (f00, .inl (ct 1, 7000, .inl g_f00)), (f01, .inl (ct 1, 7000, .inl g_f01)), (cd, .inr (0, [.ref cds, .ref cdg, .ref f0, .ref p0, .int y_cd_432_4])), (p0, .inr (7, [.ref p0r, .int x_p0_1])), (p0r, .inl (ct 2, 4000, .inr (.inl k_p0r32_5))), (cdg, .inl (ct 1, 4000, .inl k_cdg32_6))] _ := hP
    have hD : va_D A [(f04, .inl (ct 1, 3000, .inl g_f04)), (f02, .inl (ct 1, 7000, .inl g_f02)), (f0, .inr (2, [.ref f00, .ref f01, .ref f02, .int x_f0_3, .ref f04, .ref f05, .ref f06, .ref f07, .ref f08, .ref f09, .ref f010, .int x_f0_11, .int x_f0_12, .ref f013, .int x_f0_14, .ref f015, .int x_f0_16, .ref f017])), (f05, .inl (ct 1, 3000, .inl g_f05)), (f06, .inl (ct 1, 3000, .inl g_f06)), (f00, .inl (ct 1, 7000, .inl g_f00)), (f01, .inl (ct 1, 7000, .inl g_f01)), (cd, .inr (0, [.ref cds, .ref cdg, .ref f0, .ref p0, .int y_cd_432_4])), (p0, .inr (7, [.ref p0r, .int x_p0_1])), (p0r, .inl (ct 2, 4000, .inr (.inl k_p0r32_5))), (cdg, .inl (ct 1, 4000, .inl k_cdg32_6))] := hD
    refine lv_aload_n hx hb dX0_codeTest_35 rfl (lv_at hl 0 rfl) ?_
    refine lv_aload_n hx hb dX0_codeTest_36 rfl (lv_at hl 0 rfl) ?_
    refine va_get (D := D) (ci := 0) (v := .ref f0) (C := RX0) (T := TX0) (N := 5) hx hb (htX0 hn) (fun _ h => h) hown hK hP 7 rfl rfl 2 (by decide) (hn.get mw_268 rfl) (fun _ h9 => h9) rfl dX0_codeTest_37 ?_
    refine va_getN (D := D) (ci := 2) (v := .ref f05) (C := RX2) (T := TX2) (N := 18) hx hb (htX2 hn) (fun _ h => h) hown hK hP 2 rfl rfl 5 (by decide) (hn.get mw_158 rfl) (fun _ h9 => h9) rfl dX0_codeTest_40 ?_
    refine lv_iload_n hx hb dX0_codeTest_43 rfl (lv_at hl 1 rfl) ?_
    have hi44_1 : vp_in v0 3000 := (in_rg h_v0 (by decide))
    refine va_iald hx hb hK hP 3 1 rfl rfl hi44_1 dX0_codeTest_44 ?_
    refine lv_topi (fun z44_2 ez44_2 => ?_)
    have r44_3 : rg z44_2 0 7000 := Rg_at h_g_f05 hi44_1 ez44_2
    refine lv_aload_n hx hb dX0_codeTest_45 rfl (lv_at hl 0 rfl) ?_
    refine va_get (D := D) (ci := 0) (v := .ref f0) (C := RX0) (T := TX0) (N := 5) hx hb (htX0 hn) (fun _ h => h) hown hK hP 7 rfl rfl 2 (by decide) (hn.get mw_268 rfl) (fun _ h9 => h9) rfl dX0_codeTest_46 ?_
    refine va_getN (D := D) (ci := 2) (v := .ref f06) (C := RX2) (T := TX2) (N := 18) hx hb (htX2 hn) (fun _ h => h) hown hK hP 2 rfl rfl 6 (by decide) (hn.get mw_160 rfl) (fun _ h9 => h9) rfl dX0_codeTest_49 ?_
    refine lv_iload_n hx hb dX0_codeTest_52 rfl (lv_at hl 1 rfl) ?_
    have hi53_1 : vp_in v0 3000 := (in_rg h_v0 (by decide))
    refine va_iald hx hb hK hP 4 1 rfl rfl hi53_1 dX0_codeTest_53 ?_
    refine lv_topi (fun z53_2 ez53_2 => ?_)
    have r53_3 : rg z53_2 0 7000 := Rg_at h_g_f06 hi53_1 ez53_2
    refine go_v (k1 := 0) (n1 := 0) (wr := [(f04, .inl (ct 1, 3000, .inl g_f04)), (f05, .inl (ct 1, 3000, .inl g_f05)), (f06, .inl (ct 1, 3000, .inl g_f06))]) [7, 2, 5, 6, 1, 8, 9, 10] [0, 3, 4] (rn_V (As := [.int z44_2, .int z53_2]) (rest := []) (c_X0_codeItems l D ct cd z44_2 z53_2 cds cdg f0 p0 y_cd_432_4 f00 f01 f02 x_f0_3 f04 f05 f06 f07 f08 f09 f010 x_f0_11 x_f0_12 f013 x_f0_14 f015 x_f0_16 f017 g_f00 g_f01 g_f02 p0r x_p0_1 k_p0r32_5 k_cdg32_6 r44_3 r53_3 (rg_of (show 0 ≤ y_cd_432_4.toInt ∧ y_cd_432_4.toInt ≤ 1199940000 by have q0 := hp32_7.1; have q1 := hp32_7.2; have q2 := hp19_7.1; have q3 := hp19_7.2; have q4 := h_x_cd_4.1; have q5 := h_x_cd_4.2; have q6 := hp19_9; have q7 := hp32_9; omega)) h_x_f0_3 h_x_f0_11 h_x_f0_12 h_x_f0_14 h_x_f0_16 h_g_f00 h_x_p0_1 hp32_8 _) (cb_of (n := 2) hn mw_858 mw_9 mw_855 mhX0_codeItems ⟨(Nat.le_of_ble_eq_true rfl), (Nat.le_of_ble_eq_true rfl)⟩) hx hb hml hown hn hK hSK hZ hS mw_857 mw_s77 (ci := 0) (q0 := 0) rfl rfl rfl rfl hl.1 (Nat.le_of_ble_eq_true rfl) dX0_codeTest_54 ⟨(Nat.le_of_ble_eq_true rfl), (Nat.le_of_ble_eq_true rfl)⟩) hP hD hS hA rfl rfl (by decide) (by decide) (by decide) (Nat.le_of_ble_eq_true rfl) (Nat.le_of_ble_eq_true rfl) (fun u54_2 H locs hp54_3 hP hD hS => ?_)
    obtain ⟨y_cd_454_4, k_p0r54_5, k_cdg54_6⟩ := u54_2
    obtain ⟨hp54_7, hp54_8, hp54_9⟩ := hp54_3
    have hp54_7 : rg y_cd_454_4 0 1200000000 := hp54_7
    have hp54_9 : y_cd_432_4.toInt + 0 ≤ y_cd_454_4.toInt ∧ y_cd_454_4.toInt ≤ y_cd_432_4.toInt + 56000 := hp54_9
    have hP : va_P D vwCl [(f04, .inl (ct 1, 3000, .inl g_f04)), (f05, .inl (ct 1, 3000, .inl g_f05)), (f06, .inl (ct 1, 3000, .inl g_f06)), (cd, .inr (0, [.ref cds, .ref cdg, .ref f0, .ref p0, .int y_cd_454_4])), (f0, .inr (2, [.ref f00, .ref f01, .ref f02, .int x_f0_3, .ref f04, .ref f05, .ref f06, .ref f07, .ref f08, .ref f09, .ref f010, .int x_f0_11, .int x_f0_12, .ref f013, .int x_f0_14, .ref f015, .int x_f0_16, .ref f017])), (f00, .inl (ct 1, 7000, .inl g_f00)), (f01, .inl (ct 1, 7000, .inl g_f01)), (f02, .inl (ct 1, 7000, .inl g_f02)), (p0, .inr (7, [.ref p0r, .int x_p0_1])), (p0r, .inl (ct 2, 4000, .inr (.inl k_p0r54_5))), (cdg, .inl (ct 1, 4000, .inl k_cdg54_6))] _ := hP
    have hD : va_D A [(f04, .inl (ct 1, 3000, .inl g_f04)), (f05, .inl (ct 1, 3000, .inl g_f05)), (f06, .inl (ct 1, 3000, .inl g_f06)), (cd, .inr (0, [.ref cds, .ref cdg, .ref f0, .ref p0, .int y_cd_454_4])), (f0, .inr (2, [.ref f00, .ref f01, .ref f02, .int x_f0_3, .ref f04, .ref f05, .ref f06, .ref f07, .ref f08, .ref f09, .ref f010, .int x_f0_11, .int x_f0_12, .ref f013, .int x_f0_14, .ref f015, .int x_f0_16, .ref f017])), (f00, .inl (ct 1, 7000, .inl g_f00)), (f01, .inl (ct 1, 7000, .inl g_f01)), (f02, .inl (ct 1, 7000, .inl g_f02)), (p0, .inr (7, [.ref p0r, .int x_p0_1])), (p0r, .inl (ct 2, 4000, .inr (.inl k_p0r54_5))), (cdg, .inl (ct 1, 4000, .inl k_cdg54_6))] := hD
    refine lv_aload_n hx hb dX0_codeTest_57 rfl (lv_at hl 0 rfl) ?_
    refine lv_iconst (v := 0) hx hb dX0_codeTest_58 (by decide) ?_
    refine go_v (k1 := 0) (n1 := 0) (wr := [(f04, .inl (ct 1, 3000, .inl g_f04)), (f05, .inl (ct 1, 3000, .inl g_f05)), (f06, .inl (ct 1, 3000, .inl g_f06)), (f0, .inr (2, [.ref f00, .ref f01, .ref f02, .int x_f0_3, .ref f04, .ref f05, .ref f06, .ref f07, .ref f08, .ref f09, .ref f010, .int x_f0_11, .int x_f0_12, .ref f013, .int x_f0_14, .ref f015, .int x_f0_16, .ref f017])), (f00, .inl (ct 1, 7000, .inl g_f00)), (f01, .inl (ct 1, 7000, .inl g_f01)), (f02, .inl (ct 1, 7000, .inl g_f02))]) [3, 8, 9, 10] [0, 1, 2, 4, 5, 6, 7] (rn_V (As := [.int 0]) (rest := []) (c_X0_codePull l D ct cd (0 : Int32) cds cdg f0 p0 y_cd_454_4 p0r x_p0_1 k_p0r54_5 k_cdg54_6 (rg_of (show 0 ≤ y_cd_454_4.toInt ∧ y_cd_454_4.toInt ≤ 1199999980 by have q0 := hp54_7.1; have q1 := hp54_7.2; have q2 := hp32_7.1; have q3 := hp32_7.2; have q4 := hp19_7.1; have q5 := hp19_7.2; have q6 := h_x_cd_4.1; have q7 := h_x_cd_4.2; have q8 := hp19_9; have q9 := hp32_9; have q10 := hp54_9; omega)) h_x_p0_1 hp54_8 _) (cb_of (n := 1) hn mw_885 mw_9 mw_882 mhX0_codePull ⟨(Nat.le_of_ble_eq_true rfl), (Nat.le_of_ble_eq_true rfl)⟩) hx hb hml hown hn hK hSK hZ hS mw_884 mw_s83 (ci := 0) (q0 := 0) rfl rfl rfl rfl hl.1 (Nat.le_of_ble_eq_true rfl) dX0_codeTest_59 ⟨(Nat.le_of_ble_eq_true rfl), (Nat.le_of_ble_eq_true rfl)⟩) hP hD hS hA rfl rfl (by decide) (by decide) (by decide) (Nat.le_of_ble_eq_true rfl) (Nat.le_of_ble_eq_true rfl) (fun u59_2 H locs hp59_3 hP hD hS => ?_)
    obtain ⟨y_cd_459_4, k_p0r59_5, k_cdg59_6⟩ := u59_2
    obtain ⟨hp59_7, hp59_8, hp59_9⟩ := hp59_3
    have hp59_7 : rg y_cd_459_4 1 1200000001 := hp59_7
    have hp59_9 : y_cd_459_4.toInt = y_cd_454_4.toInt + 2 := hp59_9
    have hP : va_P D vwCl [(f04, .inl (ct 1, 3000, .inl g_f04)), (f05, .inl (ct 1, 3000, .inl g_f05)), (f06, .inl (ct 1, 3000, .inl g_f06)), (f0, .inr (2, [.ref f00, .ref f01, .ref f02, .int x_f0_3, .ref f04, .ref f05, .ref f06, .ref f07, .ref f08, .ref f09, .ref f010, .int x_f0_11, .int x_f0_12, .ref f013, .int x_f0_14, .ref f015, .int x_f0_16, .ref f017])), (f00, .inl (ct 1, 7000, .inl g_f00)), (f01, .inl (ct 1, 7000, .inl g_f01)), (f02, .inl (ct 1, 7000, .inl g_f02)), (cd, .inr (0, [.ref cds, .ref cdg, .ref f0, .ref p0, .int y_cd_459_4])), (p0, .inr (7, [.ref p0r, .int x_p0_1])), (p0r, .inl (ct 2, 4000, .inr (.inl k_p0r59_5))), (cdg, .inl (ct 1, 4000, .inl k_cdg59_6))] _ := hP
    have hD : va_D A [(f04, .inl (ct 1, 3000, .inl g_f04)), (f05, .inl (ct 1, 3000, .inl g_f05)), (f06, .inl (ct 1, 3000, .inl g_f06)), (f0, .inr (2, [.ref f00, .ref f01, .ref f02, .int x_f0_3, .ref f04, .ref f05, .ref f06, .ref f07, .ref f08, .ref f09, .ref f010, .int x_f0_11, .int x_f0_12, .ref f013, .int x_f0_14, .ref f015, .int x_f0_16, .ref f017])), (f00, .inl (ct 1, 7000, .inl g_f00)), (f01, .inl (ct 1, 7000, .inl g_f01)), (f02, .inl (ct 1, 7000, .inl g_f02)), (cd, .inr (0, [.ref cds, .ref cdg, .ref f0, .ref p0, .int y_cd_459_4])), (p0, .inr (7, [.ref p0r, .int x_p0_1])), (p0r, .inl (ct 2, 4000, .inr (.inl k_p0r59_5))), (cdg, .inl (ct 1, 4000, .inl k_cdg59_6))] := hD
    exact endq_v hQ hx hb hr hlocks dX0_codeTest_62 (y_cd_459_4, k_p0r59_5, k_cdg59_6) ⟨(rg_w hp59_7 (by decide)), hp59_8, (show x_cd_4.toInt + 0 ≤ y_cd_459_4.toInt ∧ y_cd_459_4.toInt ≤ x_cd_4.toInt + 112003 by have q0 := h_x_cd_4.1; have q1 := h_x_cd_4.2; have q2 := hp59_7.1; have q3 := hp59_7.2; have q4 := hp19_7.1; have q5 := hp19_7.2; have q6 := hp54_7.1; have q7 := hp54_7.2; have q8 := hp32_7.1; have q9 := hp32_7.2; have q10 := hp19_9; have q11 := hp32_9; have q12 := hp54_9; have q13 := hp59_9; omega)⟩ hP hD hS [7, 3, 0, 1, 4, 5, 6, 8, 9, 10, 2] rfl (by decide) rfl (Nat.le_of_ble_eq_true rfl) (Nat.le_of_ble_eq_true rfl)
set_option maxHeartbeats 2000000 in
theorem c_X0_nextKept (l : Launch) (D : va_G) (ct : Nat → ClassId) (cd : Nat) (v0 : Int32) (cds : Nat) (cdg : Nat) (f0 : Nat) (p0 : Nat) (x_cd_4 : Int32) (f00 : Nat) (f01 : Nat) (f02 : Nat) (x_f0_3 : Int32) (f04 : Nat) (f05 : Nat) (f06 : Nat) (f07 : Nat) (f08 : Nat) (f09 : Nat) (f010 : Nat) (x_f0_11 : Int32) (x_f0_12 : Int32) (f013 : Nat) (x_f0_14 : Int32) (f015 : Nat) (x_f0_16 : Int32) (f017 : Nat) (g_f010 : Nat → Int32) (h_v0 : rg v0 0 2999) (h_x_cd_4 : rg x_cd_4 0 1200000000) (h_x_f0_3 : rg x_f0_3 0 7000) (h_x_f0_11 : rg x_f0_11 0 3000) (h_x_f0_12 : rg x_f0_12 0 3000) (h_x_f0_14 : rg x_f0_14 2 5000) (h_x_f0_16 : rg x_f0_16 0 6) (h_g_f010 : Rg g_f010 3000 0 1) : KI (S := Unit) l yX0_nextKept cX0_nextKept 3 (some .int) 1 20 D ct [.ref cd, .int v0] [(cd, .inr (0, [.ref cds, .ref cdg, .ref f0, .ref p0, .int x_cd_4])), (f0, .inr (2, [.ref f00, .ref f01, .ref f02, .int x_f0_3, .ref f04, .ref f05, .ref f06, .ref f07, .ref f08, .ref f09, .ref f010, .int x_f0_11, .int x_f0_12, .ref f013, .int x_f0_14, .ref f015, .int x_f0_16, .ref f017])), (f010, .inl (ct 3, 3000, .inl g_f010))] 0 0 (fun (r : Int32) (_ : Unit) => rg r 1 3000) (fun (_ : Unit) => [(cd, .inr (0, [.ref cds, .ref cdg, .ref f0, .ref p0, .int x_cd_4])), (f0, .inr (2, [.ref f00, .ref f01, .ref f02, .int x_f0_3, .ref f04, .ref f05, .ref f06, .ref f07, .ref f08, .ref f09, .ref f010, .int x_f0_11, .int x_f0_12, .ref f013, .int x_f0_14, .ref f015, .int x_f0_16, .ref f017])), (f010, .inl (ct 3, 3000, .inl g_f010))]) := by
  refine KIq_of (by decide) (Nat.le_of_ble_eq_true rfl) (fun p e s m below meth c A Q C0 hA H locs hS hP hD hQ ls hl => ?_)
  obtain ⟨hx, hb, hr, hown, hin, hml, hlocks, hn, hK, hZ, hSK⟩ := C0
  have hl : lv_has ls 3 [(0, .ref cd), (1, .int v0)] := hl
  refine lv_iload_n hx hb dX0_nextKept_0 rfl (lv_at hl 1 rfl) ?_
  refine lv_iconst (v := 1) hx hb dX0_nextKept_1 (by decide) ?_
  refine lv_iadd hx hb dX0_nextKept_2 ?_
  refine lv_topi (fun z2_1 ez2_1 => ?_)
  have r2_2 : rg z2_1 1 3000 := rg_add ez2_1 h_v0 (show rg (1 : Int32) 1 1 from rg_l (by decide)) (by decide)
  refine lv_istore_n (lv' := [(2, .int z2_1), (0, .ref cd), (1, .int v0)]) hx hb dX0_nextKept_3 rfl hl (by decide) rfl (fun ls hl => ?_)
  have b4 : ∀ (n : Nat) (j4_l2 : Int32) (H : Heap) (locs : List Loc) (ls : Array Slot), (rg j4_l2 1 3000) → ((2147483647 : Int) - j4_l2.toInt).toNat < n → lv_has ls 3 [(0, .ref cd), (2, .int j4_l2)] → va_P D vwCl [(cd, .inr (0, [.ref cds, .ref cdg, .ref f0, .ref p0, .int x_cd_4])), (f0, .inr (2, [.ref f00, .ref f01, .ref f02, .int x_f0_3, .ref f04, .ref f05, .ref f06, .ref f07, .ref f08, .ref f09, .ref f010, .int x_f0_11, .int x_f0_12, .ref f013, .int x_f0_14, .ref f015, .int x_f0_16, .ref f017])), (f010, .inl (ct 3, 3000, .inl g_f010))] H → va_D A [(cd, .inr (0, [.ref cds, .ref cdg, .ref f0, .ref p0, .int x_cd_4])), (f0, .inr (2, [.ref f00, .ref f01, .ref f02, .int x_f0_3, .ref f04, .ref f05, .ref f06, .ref f07, .ref f08, .ref f09, .ref f010, .int x_f0_11, .int x_f0_12, .ref f013, .int x_f0_14, .ref f015, .int x_f0_16, .ref f017])), (f010, .inl (ct 3, 3000, .inl g_f010))] → va_S A s.heap H locs → W p l e ({ frames := 1, cells := 0, slots := 0, locals := 20 }) s m [.ref cd, .int v0].toArray below meth c H locs 0 0 Q (F0 m 4 ls []) := by
    intro n
    induction n with
    | zero => intros; rename_i hms _ _ _ _; exact absurd hms (Nat.not_lt_zero _)
    | succ n ih =>
      intro j4_l2 H locs ls r4_1001 hms hl hP hD hS
      refine lv_iload_n hx hb dX0_nextKept_4 rfl (lv_at hl 1 rfl) ?_
      refine lv_aload_n hx hb dX0_nextKept_5 rfl (lv_at hl 0 rfl) ?_
      refine va_get (D := D) (ci := 0) (v := .ref f0) (C := RX0) (T := TX0) (N := 5) hx hb (htX0 hn) (fun _ h => h) hown hK hP 0 rfl rfl 2 (by decide) (hn.get mw_268 rfl) (fun _ h9 => h9) rfl dX0_nextKept_6 ?_
      refine va_getN (D := D) (ci := 2) (v := .int x_f0_11) (C := RX2) (T := TX2) (N := 18) hx hb (htX2 hn) (fun _ h => h) hown hK hP 1 rfl rfl 11 (by decide) (hn.get mw_170 rfl) (fun _ h9 => h9) rfl dX0_nextKept_9 ?_
      refine lv_icmp_ge (tgt := 33) hx hb dX0_nextKept_12 (by decide) (fun c12_1 => ?_) (fun c12_1 => ?_)
      · have t12_2 := (i_le c12_1)
        refine lv_iload_n hx hb dX0_nextKept_33 rfl (lv_at hl 1 rfl) ?_
        exact endq_i hQ hx hb hr hlocks dX0_nextKept_34 rfl () r4_1001 hP hD hS [0, 1, 2] rfl (by decide) rfl (Nat.le_of_ble_eq_true rfl) (Nat.le_of_ble_eq_true rfl)
      · have t12_2 := (i_nle c12_1)
        have r12_3 : rg j4_l2 1 2999 := rg_ltA t12_2 r4_1001 h_x_f0_11 (by decide)
        have r12_4 : rg x_f0_11 2 3000 := rg_ltB t12_2 r4_1001 h_x_f0_11 (by decide)
        refine lv_aload_n hx hb dX0_nextKept_15 rfl (lv_at hl 0 rfl) ?_
        refine va_get (D := D) (ci := 0) (v := .ref f0) (C := RX0) (T := TX0) (N := 5) hx hb (htX0 hn) (fun _ h => h) hown hK hP 0 rfl rfl 2 (by decide) (hn.get mw_268 rfl) (fun _ h9 => h9) rfl dX0_nextKept_16 ?_
        refine va_getN (D := D) (ci := 2) (v := .ref f010) (C := RX2) (T := TX2) (N := 18) hx hb (htX2 hn) (fun _ h => h) hown hK hP 1 rfl rfl 10 (by decide) (hn.get mw_168 rfl) (fun _ h9 => h9) rfl dX0_nextKept_19 ?_
        refine lv_iload_n hx hb dX0_nextKept_22 rfl (lv_at hl 1 rfl) ?_
        have hi23_1 : vp_in j4_l2 3000 := (in_rg r12_3 (by decide))
        refine va_zald hx hb hK hP 2 3 rfl rfl hi23_1 dX0_nextKept_23 ?_
        refine lv_topi (fun z23_2 ez23_2 => ?_)
        have r23_3 : rg z23_2 0 1 := Rg_at h_g_f010 hi23_1 ez23_2
        refine lv_if_ne (tgt := 33) hx hb dX0_nextKept_24 (by decide) (fun c24_1 => ?_) (fun c24_1 => ?_)
        · have t24_2 := (i_ne c24_1)
          have r24_3 : rg z23_2 1 1 := rg_neAl t24_2 r23_3 (show rg (0 : Int32) 0 0 from rg_l (by decide)) (by decide)
          refine lv_iload_n hx hb dX0_nextKept_33 rfl (lv_at hl 1 rfl) ?_
          exact endq_i hQ hx hb hr hlocks dX0_nextKept_34 rfl () (rg_w r12_3 (by decide)) hP hD hS [0, 1, 2] rfl (by decide) rfl (Nat.le_of_ble_eq_true rfl) (Nat.le_of_ble_eq_true rfl)
        · have t24_2 := (i_eq c24_1)
          have r24_3 : rg z23_2 0 0 := rg_eqA t24_2 r23_3 (show rg (0 : Int32) 0 0 from rg_l (by decide)) (by decide)
          obtain ⟨x27_1, ex27_1⟩ : ∃ z : Int32, z = j4_l2 + 1 := ⟨_, rfl⟩
          have r27_2 : rg x27_1 2 3000 := rg_add ex27_1 r12_3 (show rg (1 : Int32) 1 1 from rg_l (by decide)) (by decide)
          refine lv_iinc (v := x27_1) (lv' := [(2, .int x27_1), (0, .ref cd)]) hx hb dX0_nextKept_27 hl (k := 1) rfl (by rw [ex27_1]; rfl) (by decide) rfl (fun ls hl => ?_)
          refine lv_goto (tgt := 4) hx hb dX0_nextKept_30 (by decide) ?_
          exact ih x27_1 H locs ls (rg_w r27_2 (by decide)) (show ((2147483647 : Int) - x27_1.toInt).toNat < n by have q0 := r12_3.1; have q1 := r12_3.2; have q2 := r27_2.1; have q3 := r27_2.2; have q4 := (eq_add ex27_1 r12_3 (show rg (1 : Int32) 1 1 from rg_l (by decide)) (by decide)); have q5 := (show rg (1 : Int32) 1 1 from rg_l (by decide)).1; have q6 := (show rg (1 : Int32) 1 1 from rg_l (by decide)).2; have q7 := r12_4.1; have q8 := r12_4.2; have q9 := t12_2; have q10 := hms; omega) (lv_sub hl [1, 0] rfl) hP hD hS
  exact b4 _ z2_1 H locs ls r2_2 (Nat.lt_succ_self _) (lv_sub hl [1, 0] rfl) hP hD hS
set_option maxHeartbeats 2000000 in
theorem c_X0_codeWays (l : Launch) (D : va_G) (ct : Nat → ClassId) (cd : Nat) (v0 : Int32) (cds : Nat) (cdg : Nat) (f0 : Nat) (p0 : Nat) (x_cd_4 : Int32) (f00 : Nat) (f01 : Nat) (f02 : Nat) (x_f0_3 : Int32) (f04 : Nat) (f05 : Nat) (f06 : Nat) (f07 : Nat) (f08 : Nat) (f09 : Nat) (f010 : Nat) (x_f0_11 : Int32) (x_f0_12 : Int32) (f013 : Nat) (x_f0_14 : Int32) (f015 : Nat) (x_f0_16 : Int32) (f017 : Nat) (g_f08 : Nat → Int32) (g_f09 : Nat → Int32) (g_f010 : Nat → Int32) (g_f07 : Nat → Int32) (g_f05 : Nat → Int32) (g_f06 : Nat → Int32) (g_f00 : Nat → Int32) (g_f01 : Nat → Int32) (g_f02 : Nat → Int32) (p0r : Nat) (x_p0_1 : Int32) (g_p0r : Nat → Int64) (g_cdg : Nat → Int32) (h_v0 : rg v0 0 2999) (h_x_cd_4 : rg x_cd_4 0 1199800000) (h_x_f0_3 : rg x_f0_3 0 7000) (h_x_f0_11 : rg x_f0_11 0 3000) (h_x_f0_12 : rg x_f0_12 0 3000) (h_x_f0_14 : rg x_f0_14 2 5000) (h_x_f0_16 : rg x_f0_16 0 6) (h_g_f010 : Rg g_f010 3000 0 1) (h_g_f07 : Rg g_f07 3000 (-1) 13) (h_g_f05 : Rg g_f05 3000 0 7000) (h_g_f06 : Rg g_f06 3000 0 7000) (h_g_f00 : Rg g_f00 7000 0 8) (h_x_p0_1 : rg x_p0_1 0 4000) (h_g_cdg : Rg g_cdg 4000 (-1) 3001) (hq0 : v0.toInt < x_f0_11.toInt) (hg0 : RgP g_f08 x_f0_11.toInt 0 3001) (hg1 : RgP g_f09 x_f0_11.toInt 0 3001) : KV (S := Int32 × (Nat → Int64) × (Nat → Int32)) l yX0_codeWays cX0_codeWays 8 none 3 71 D ct [.ref cd, .int v0] [(cd, .inr (0, [.ref cds, .ref cdg, .ref f0, .ref p0, .int x_cd_4])), (f0, .inr (2, [.ref f00, .ref f01, .ref f02, .int x_f0_3, .ref f04, .ref f05, .ref f06, .ref f07, .ref f08, .ref f09, .ref f010, .int x_f0_11, .int x_f0_12, .ref f013, .int x_f0_14, .ref f015, .int x_f0_16, .ref f017])), (f08, .inl (ct 1, 3000, .inl g_f08)), (f09, .inl (ct 1, 3000, .inl g_f09)), (f010, .inl (ct 3, 3000, .inl g_f010)), (f07, .inl (ct 1, 3000, .inl g_f07)), (f05, .inl (ct 1, 3000, .inl g_f05)), (f06, .inl (ct 1, 3000, .inl g_f06)), (f00, .inl (ct 1, 7000, .inl g_f00)), (f01, .inl (ct 1, 7000, .inl g_f01)), (f02, .inl (ct 1, 7000, .inl g_f02)), (p0, .inr (7, [.ref p0r, .int x_p0_1])), (p0r, .inl (ct 2, 4000, .inr (.inl g_p0r))), (cdg, .inl (ct 1, 4000, .inl g_cdg))] 0 0 (fun (u : Int32 × (Nat → Int64) × (Nat → Int32)) => match u with | (y_cd_4, k_p0r, k_cdg) => rg y_cd_4 0 1200000001 ∧ Rg k_cdg 4000 (-1) 3001 ∧ (x_cd_4.toInt + 0 ≤ y_cd_4.toInt ∧ y_cd_4.toInt ≤ x_cd_4.toInt + 2)) (fun (u : Int32 × (Nat → Int64) × (Nat → Int32)) => match u with | (y_cd_4, k_p0r, k_cdg) => [(cd, .inr (0, [.ref cds, .ref cdg, .ref f0, .ref p0, .int y_cd_4])), (f0, .inr (2, [.ref f00, .ref f01, .ref f02, .int x_f0_3, .ref f04, .ref f05, .ref f06, .ref f07, .ref f08, .ref f09, .ref f010, .int x_f0_11, .int x_f0_12, .ref f013, .int x_f0_14, .ref f015, .int x_f0_16, .ref f017])), (f08, .inl (ct 1, 3000, .inl g_f08)), (f09, .inl (ct 1, 3000, .inl g_f09)), (f010, .inl (ct 3, 3000, .inl g_f010)), (f07, .inl (ct 1, 3000, .inl g_f07)), (f05, .inl (ct 1, 3000, .inl g_f05)), (f06, .inl (ct 1, 3000, .inl g_f06)), (f00, .inl (ct 1, 7000, .inl g_f00)), (f01, .inl (ct 1, 7000, .inl g_f01)), (f02, .inl (ct 1, 7000, .inl g_f02)), (p0, .inr (7, [.ref p0r, .int x_p0_1])), (p0r, .inl (ct 2, 4000, .inr (.inl k_p0r))), (cdg, .inl (ct 1, 4000, .inl k_cdg))]) := by
  refine KVq_of (by decide) (Nat.le_of_ble_eq_true rfl) (fun p e s m below meth c A Q C0 hA H locs hS hP hD hQ ls hl => ?_)
  obtain ⟨hx, hb, hr, hown, hin, hml, hlocks, hn, hK, hZ, hSK⟩ := C0
  have hl : lv_has ls 8 [(0, .ref cd), (1, .int v0)] := hl
  refine lv_aload_n hx hb dX0_codeWays_0 rfl (lv_at hl 0 rfl) ?_
  refine va_get (D := D) (ci := 0) (v := .ref f0) (C := RX0) (T := TX0) (N := 5) hx hb (htX0 hn) (fun _ h => h) hown hK hP 0 rfl rfl 2 (by decide) (hn.get mw_268 rfl) (fun _ h9 => h9) rfl dX0_codeWays_1 ?_
  refine va_getN (D := D) (ci := 2) (v := .ref f08) (C := RX2) (T := TX2) (N := 18) hx hb (htX2 hn) (fun _ h => h) hown hK hP 1 rfl rfl 8 (by decide) (hn.get mw_164 rfl) (fun _ h9 => h9) rfl dX0_codeWays_4 ?_
  refine lv_iload_n hx hb dX0_codeWays_7 rfl (lv_at hl 1 rfl) ?_
  have hi8_1 : vp_in v0 3000 := (in_rg h_v0 (by decide))
  refine va_iald hx hb hK hP 2 1 rfl rfl hi8_1 dX0_codeWays_8 ?_
  refine lv_topi (fun z8_2 ez8_2 => ?_)
  have r8_3 : rg z8_2 0 3001 := (by rw [ez8_2]; exact rg_of (hg0 v0 (show 0 ≤ v0.toInt by have q0 := h_v0.1; have q1 := h_v0.2; have q2 := h_x_f0_11.1; have q3 := h_x_f0_11.2; have q4 := hq0; omega) (show v0.toInt < x_f0_11.toInt by have q0 := h_x_f0_11.1; have q1 := h_x_f0_11.2; have q2 := h_v0.1; have q3 := h_v0.2; have q4 := hq0; omega)))
  refine lv_istore_n (lv' := [(2, .int z8_2), (0, .ref cd), (1, .int v0)]) hx hb dX0_codeWays_9 rfl hl (by decide) rfl (fun ls hl => ?_)
  refine lv_aload_n hx hb dX0_codeWays_10 rfl (lv_at hl 1 rfl) ?_
  refine va_get (D := D) (ci := 0) (v := .ref f0) (C := RX0) (T := TX0) (N := 5) hx hb (htX0 hn) (fun _ h => h) hown hK hP 0 rfl rfl 2 (by decide) (hn.get mw_268 rfl) (fun _ h9 => h9) rfl dX0_codeWays_11 ?_
  refine va_getN (D := D) (ci := 2) (v := .ref f09) (C := RX2) (T := TX2) (N := 18) hx hb (htX2 hn) (fun _ h => h) hown hK hP 1 rfl rfl 9 (by decide) (hn.get mw_166 rfl) (fun _ h9 => h9) rfl dX0_codeWays_14 ?_
  refine lv_iload_n hx hb dX0_codeWays_17 rfl (lv_at hl 2 rfl) ?_
  have hi18_1 : vp_in v0 3000 := (in_rg h_v0 (by decide))
  refine va_iald hx hb hK hP 3 1 rfl rfl hi18_1 dX0_codeWays_18 ?_
  refine lv_topi (fun z18_2 ez18_2 => ?_)
  have r18_3 : rg z18_2 0 3001 := (by rw [ez18_2]; exact rg_of (hg1 v0 (show 0 ≤ v0.toInt by have q0 := h_v0.1; have q1 := h_v0.2; have q2 := h_x_f0_11.1; have q3 := h_x_f0_11.2; have q4 := hq0; omega) (show v0.toInt < x_f0_11.toInt by have q0 := h_x_f0_11.1; have q1 := h_x_f0_11.2; have q2 := h_v0.1; have q3 := h_v0.2; have q4 := hq0; omega)))
  refine lv_istore_n (lv' := [(3, .int z18_2), (2, .int z8_2), (0, .ref cd), (1, .int v0)]) hx hb dX0_codeWays_19 rfl hl (by decide) rfl (fun ls hl => ?_)
  refine lv_aload_n hx hb dX0_codeWays_20 rfl (lv_at hl 2 rfl) ?_
  refine lv_iload_n hx hb dX0_codeWays_21 rfl (lv_at hl 3 rfl) ?_
  refine go_i (k1 := 0) (n1 := 0) (wr := [(f08, .inl (ct 1, 3000, .inl g_f08)), (f09, .inl (ct 1, 3000, .inl g_f09)), (f07, .inl (ct 1, 3000, .inl g_f07)), (f05, .inl (ct 1, 3000, .inl g_f05)), (f06, .inl (ct 1, 3000, .inl g_f06)), (f00, .inl (ct 1, 7000, .inl g_f00)), (f01, .inl (ct 1, 7000, .inl g_f01)), (f02, .inl (ct 1, 7000, .inl g_f02)), (p0, .inr (7, [.ref p0r, .int x_p0_1])), (p0r, .inl (ct 2, 4000, .inr (.inl g_p0r))), (cdg, .inl (ct 1, 4000, .inl g_cdg))]) [0, 1, 4] [2, 3, 5, 6, 7, 8, 9, 10, 11, 12, 13] (rn_V (As := [.int v0]) (rest := []) (c_X0_nextKept l D ct cd v0 cds cdg f0 p0 x_cd_4 f00 f01 f02 x_f0_3 f04 f05 f06 f07 f08 f09 f010 x_f0_11 x_f0_12 f013 x_f0_14 f015 x_f0_16 f017 g_f010 h_v0 (rg_w h_x_cd_4 (by decide)) h_x_f0_3 h_x_f0_11 h_x_f0_12 h_x_f0_14 h_x_f0_16 h_g_f010 _) (cb_of (n := 1) hn mw_904 mw_9 mw_901 mhX0_nextKept ⟨(Nat.le_of_ble_eq_true rfl), (Nat.le_of_ble_eq_true rfl)⟩) hx hb hml hown hn hK hSK hZ hS mw_903 mw_s87 (ci := 0) (q0 := 0) rfl rfl rfl rfl hl.1 (Nat.le_of_ble_eq_true rfl) dX0_codeWays_22 ⟨(Nat.le_of_ble_eq_true rfl), (Nat.le_of_ble_eq_true rfl)⟩) hP hD hS hA rfl rfl (by decide) (by decide) (by decide) (Nat.le_of_ble_eq_true rfl) (Nat.le_of_ble_eq_true rfl) (fun r22_1 u22_2 H locs hp22_3 hP hD hS => ?_)
  have hp22_4 := hp22_3
  have hp22_4 : rg r22_1 1 3000 := hp22_4
  have hP : va_P D vwCl [(f08, .inl (ct 1, 3000, .inl g_f08)), (f09, .inl (ct 1, 3000, .inl g_f09)), (f07, .inl (ct 1, 3000, .inl g_f07)), (f05, .inl (ct 1, 3000, .inl g_f05)), (f06, .inl (ct 1, 3000, .inl g_f06)), (f00, .inl (ct 1, 7000, .inl g_f00)), (f01, .inl (ct 1, 7000, .inl g_f01)), (f02, .inl (ct 1, 7000, .inl g_f02)), (p0, .inr (7, [.ref p0r, .int x_p0_1])), (p0r, .inl (ct 2, 4000, .inr (.inl g_p0r))), (cdg, .inl (ct 1, 4000, .inl g_cdg)), (cd, .inr (0, [.ref cds, .ref cdg, .ref f0, .ref p0, .int x_cd_4])), (f0, .inr (2, [.ref f00, .ref f01, .ref f02, .int x_f0_3, .ref f04, .ref f05, .ref f06, .ref f07, .ref f08, .ref f09, .ref f010, .int x_f0_11, .int x_f0_12, .ref f013, .int x_f0_14, .ref f015, .int x_f0_16, .ref f017])), (f010, .inl (ct 3, 3000, .inl g_f010))] _ := hP
  have hD : va_D A [(f08, .inl (ct 1, 3000, .inl g_f08)), (f09, .inl (ct 1, 3000, .inl g_f09)), (f07, .inl (ct 1, 3000, .inl g_f07)), (f05, .inl (ct 1, 3000, .inl g_f05)), (f06, .inl (ct 1, 3000, .inl g_f06)), (f00, .inl (ct 1, 7000, .inl g_f00)), (f01, .inl (ct 1, 7000, .inl g_f01)), (f02, .inl (ct 1, 7000, .inl g_f02)), (p0, .inr (7, [.ref p0r, .int x_p0_1])), (p0r, .inl (ct 2, 4000, .inr (.inl g_p0r))), (cdg, .inl (ct 1, 4000, .inl g_cdg)), (cd, .inr (0, [.ref cds, .ref cdg, .ref f0, .ref p0, .int x_cd_4])), (f0, .inr (2, [.ref f00, .ref f01, .ref f02, .int x_f0_3, .ref f04, .ref f05, .ref f06, .ref f07, .ref f08, .ref f09, .ref f010, .int x_f0_11, .int x_f0_12, .ref f013, .int x_f0_14, .ref f015, .int x_f0_16, .ref f017])), (f010, .inl (ct 3, 3000, .inl g_f010))] := hD
  refine lv_istore (lv' := [(4, .int r22_1), (3, .int z18_2), (2, .int z8_2), (0, .ref cd), (1, .int v0)]) hx hb dX0_codeWays_25 hl (by decide) rfl (fun ls hl => ?_)
  refine lv_iload_n hx hb dX0_codeWays_27 rfl (lv_at hl 2 rfl) ?_
  refine lv_iload_n hx hb dX0_codeWays_28 rfl (lv_at hl 1 rfl) ?_
  refine lv_icmp_ne (tgt := 48) hx hb dX0_codeWays_29 (by decide) (fun c29_1 => ?_) (fun c29_1 => ?_)
  · have t29_2 := (i_ne c29_1)
    refine lv_iload_n hx hb dX0_codeWays_48 rfl (lv_at hl 2 rfl) ?_
    refine lv_iload hx hb dX0_codeWays_49 (lv_at hl 0 rfl) ?_
    have b59 : ∀ (j59_s0 : Int32) (H : Heap) (locs : List Loc) (ls : Array Slot), (rg j59_s0 0 1) → lv_has ls 8 [(0, .ref cd), (1, .int v0), (2, .int z8_2), (3, .int z18_2), (4, .int r22_1)] → va_P D vwCl [(f08, .inl (ct 1, 3000, .inl g_f08)), (f09, .inl (ct 1, 3000, .inl g_f09)), (f07, .inl (ct 1, 3000, .inl g_f07)), (f05, .inl (ct 1, 3000, .inl g_f05)), (f06, .inl (ct 1, 3000, .inl g_f06)), (f00, .inl (ct 1, 7000, .inl g_f00)), (f01, .inl (ct 1, 7000, .inl g_f01)), (f02, .inl (ct 1, 7000, .inl g_f02)), (p0, .inr (7, [.ref p0r, .int x_p0_1])), (p0r, .inl (ct 2, 4000, .inr (.inl g_p0r))), (cdg, .inl (ct 1, 4000, .inl g_cdg)), (cd, .inr (0, [.ref cds, .ref cdg, .ref f0, .ref p0, .int x_cd_4])), (f0, .inr (2, [.ref f00, .ref f01, .ref f02, .int x_f0_3, .ref f04, .ref f05, .ref f06, .ref f07, .ref f08, .ref f09, .ref f010, .int x_f0_11, .int x_f0_12, .ref f013, .int x_f0_14, .ref f015, .int x_f0_16, .ref f017])), (f010, .inl (ct 3, 3000, .inl g_f010))] H → va_D A [(f08, .inl (ct 1, 3000, .inl g_f08)), (f09, .inl (ct 1, 3000, .inl g_f09)), (f07, .inl (ct 1, 3000, .inl g_f07)), (f05, .inl (ct 1, 3000, .inl g_f05)), (f06, .inl (ct 1, 3000, .inl g_f06)), (f00, .inl (ct 1, 7000, .inl g_f00)), (f01, .inl (ct 1, 7000, .inl g_f01)), (f02, .inl (ct 1, 7000, .inl g_f02)), (p0, .inr (7, [.ref p0r, .int x_p0_1])), (p0r, .inl (ct 2, 4000, .inr (.inl g_p0r))), (cdg, .inl (ct 1, 4000, .inl g_cdg)), (cd, .inr (0, [.ref cds, .ref cdg, .ref f0, .ref p0, .int x_cd_4])), (f0, .inr (2, [.ref f00, .ref f01, .ref f02, .int x_f0_3, .ref f04, .ref f05, .ref f06, .ref f07, .ref f08, .ref f09, .ref f010, .int x_f0_11, .int x_f0_12, .ref f013, .int x_f0_14, .ref f015, .int x_f0_16, .ref f017])), (f010, .inl (ct 3, 3000, .inl g_f010))] → va_S A s.heap H locs → W p l e ({ frames := 3, cells := 0, slots := 0, locals := 71 }) s m [.ref cd, .int v0].toArray below meth c H locs 0 0 Q (F0 m 59 ls [.int j59_s0]) := by
      intro j59_s0 H locs ls r59_1001 hl hP hD hS
      refine lv_istore (lv' := [(5, .int j59_s0), (0, .ref cd), (1, .int v0), (2, .int z8_2), (3, .int z18_2), (4, .int r22_1)]) hx hb dX0_codeWays_59 hl (by decide) rfl (fun ls hl => ?_)
      refine lv_iload hx hb dX0_codeWays_61 (lv_at hl 0 rfl) ?_
      have b90 : ∀ (j90_s0 : Int32) (H : Heap) (locs : List Loc) (ls : Array Slot), (rg j90_s0 (-1) 13) → lv_has ls 8 [(0, .ref cd), (1, .int v0), (2, .int z8_2), (3, .int z18_2), (4, .int r22_1), (5, .int j59_s0)] → va_P D vwCl [(f08, .inl (ct 1, 3000, .inl g_f08)), (f09, .inl (ct 1, 3000, .inl g_f09)), (f07, .inl (ct 1, 3000, .inl g_f07)), (f05, .inl (ct 1, 3000, .inl g_f05)), (f06, .inl (ct 1, 3000, .inl g_f06)), (f00, .inl (ct 1, 7000, .inl g_f00)), (f01, .inl (ct 1, 7000, .inl g_f01)), (f02, .inl (ct 1, 7000, .inl g_f02)), (p0, .inr (7, [.ref p0r, .int x_p0_1])), (p0r, .inl (ct 2, 4000, .inr (.inl g_p0r))), (cdg, .inl (ct 1, 4000, .inl g_cdg)), (cd, .inr (0, [.ref cds, .ref cdg, .ref f0, .ref p0, .int x_cd_4])), (f0, .inr (2, [.ref f00, .ref f01, .ref f02, .int x_f0_3, .ref f04, .ref f05, .ref f06, .ref f07, .ref f08, .ref f09, .ref f010, .int x_f0_11, .int x_f0_12, .ref f013, .int x_f0_14, .ref f015, .int x_f0_16, .ref f017])), (f010, .inl (ct 3, 3000, .inl g_f010))] H → va_D A [(f08, .inl (ct 1, 3000, .inl g_f08)), (f09, .inl (ct 1, 3000, .inl g_f09)), (f07, .inl (ct 1, 3000, .inl g_f07)), (f05, .inl (ct 1, 3000, .inl g_f05)), (f06, .inl (ct 1, 3000, .inl g_f06)), (f00, .inl (ct 1, 7000, .inl g_f00)), (f01, .inl (ct 1, 7000, .inl g_f01)), (f02, .inl (ct 1, 7000, .inl g_f02)), (p0, .inr (7, [.ref p0r, .int x_p0_1])), (p0r, .inl (ct 2, 4000, .inr (.inl g_p0r))), (cdg, .inl (ct 1, 4000, .inl g_cdg)), (cd, .inr (0, [.ref cds, .ref cdg, .ref f0, .ref p0, .int x_cd_4])), (f0, .inr (2, [.ref f00, .ref f01, .ref f02, .int x_f0_3, .ref f04, .ref f05, .ref f06, .ref f07, .ref f08, .ref f09, .ref f010, .int x_f0_11, .int x_f0_12, .ref f013, .int x_f0_14, .ref f015, .int x_f0_16, .ref f017])), (f010, .inl (ct 3, 3000, .inl g_f010))] → va_S A s.heap H locs → W p l e ({ frames := 3, cells := 0, slots := 0, locals := 71 }) s m [.ref cd, .int v0].toArray below meth c H locs 0 0 Q (F0 m 90 ls [.int j90_s0]) := by
        intro j90_s0 H locs ls r90_1001 hl hP hD hS
        refine lv_istore (lv' := [(6, .int j90_s0), (0, .ref cd), (1, .int v0), (2, .int z8_2), (3, .int z18_2), (4, .int r22_1), (5, .int j59_s0)]) hx hb dX0_codeWays_90 hl (by decide) rfl (fun ls hl => ?_)
        refine lv_aload_n hx hb dX0_codeWays_92 rfl (lv_at hl 1 rfl) ?_
        refine lv_iload_n hx hb dX0_codeWays_93 rfl (lv_at hl 2 rfl) ?_
        refine go_i (k1 := 0) (n1 := 0) (wr := [(f08, .inl (ct 1, 3000, .inl g_f08)), (f09, .inl (ct 1, 3000, .inl g_f09)), (f07, .inl (ct 1, 3000, .inl g_f07)), (f02, .inl (ct 1, 7000, .inl g_f02)), (p0, .inr (7, [.ref p0r, .int x_p0_1])), (p0r, .inl (ct 2, 4000, .inr (.inl g_p0r))), (cdg, .inl (ct 1, 4000, .inl g_cdg)), (f010, .inl (ct 3, 3000, .inl g_f010))]) [11, 12, 3, 4, 5, 6] [0, 1, 2, 7, 8, 9, 10, 13] (rn_V (As := [.int v0]) (rest := []) (c_X0_rightIsNumber l D ct cd v0 cds cdg f0 p0 x_cd_4 f00 f01 f02 x_f0_3 f04 f05 f06 f07 f08 f09 f010 x_f0_11 x_f0_12 f013 x_f0_14 f015 x_f0_16 f017 g_f05 g_f06 g_f00 g_f01 h_v0 (rg_w h_x_cd_4 (by decide)) h_x_f0_3 h_x_f0_11 h_x_f0_12 h_x_f0_14 h_x_f0_16 h_g_f05 h_g_f06 h_g_f00 _) (cb_of (n := 1) hn mw_896 mw_9 mw_893 mhX0_rightIsNumber ⟨(Nat.le_of_ble_eq_true rfl), (Nat.le_of_ble_eq_true rfl)⟩) hx hb hml hown hn hK hSK hZ hS mw_895 mw_s85 (ci := 0) (q0 := 0) rfl rfl rfl rfl hl.1 (Nat.le_of_ble_eq_true rfl) dX0_codeWays_94 ⟨(Nat.le_of_ble_eq_true rfl), (Nat.le_of_ble_eq_true rfl)⟩) hP hD hS hA rfl rfl (by decide) (by decide) (by decide) (Nat.le_of_ble_eq_true rfl) (Nat.le_of_ble_eq_true rfl) (fun r94_1 u94_2 H locs hp94_3 hP hD hS => ?_)
        obtain ⟨hp94_4, hp94_5⟩ := hp94_3
        have hp94_4 : rg r94_1 0 1 := hp94_4
        have hp94_5 : r94_1.toInt = 1 → (g_f05 v0.toNatClampNeg).toInt ≤ 6999 := hp94_5
        have hP : va_P D vwCl [(f08, .inl (ct 1, 3000, .inl g_f08)), (f09, .inl (ct 1, 3000, .inl g_f09)), (f07, .inl (ct 1, 3000, .inl g_f07)), (f02, .inl (ct 1, 7000, .inl g_f02)), (p0, .inr (7, [.ref p0r, .int x_p0_1])), (p0r, .inl (ct 2, 4000, .inr (.inl g_p0r))), (cdg, .inl (ct 1, 4000, .inl g_cdg)), (f010, .inl (ct 3, 3000, .inl g_f010)), (cd, .inr (0, [.ref cds, .ref cdg, .ref f0, .ref p0, .int x_cd_4])), (f0, .inr (2, [.ref f00, .ref f01, .ref f02, .int x_f0_3, .ref f04, .ref f05, .ref f06, .ref f07, .ref f08, .ref f09, .ref f010, .int x_f0_11, .int x_f0_12, .ref f013, .int x_f0_14, .ref f015, .int x_f0_16, .ref f017])), (f05, .inl (ct 1, 3000, .inl g_f05)), (f06, .inl (ct 1, 3000, .inl g_f06)), (f00, .inl (ct 1, 7000, .inl g_f00)), (f01, .inl (ct 1, 7000, .inl g_f01))] _ := hP
        have hD : va_D A [(f08, .inl (ct 1, 3000, .inl g_f08)), (f09, .inl (ct 1, 3000, .inl g_f09)), (f07, .inl (ct 1, 3000, .inl g_f07)), (f02, .inl (ct 1, 7000, .inl g_f02)), (p0, .inr (7, [.ref p0r, .int x_p0_1])), (p0r, .inl (ct 2, 4000, .inr (.inl g_p0r))), (cdg, .inl (ct 1, 4000, .inl g_cdg)), (f010, .inl (ct 3, 3000, .inl g_f010)), (cd, .inr (0, [.ref cds, .ref cdg, .ref f0, .ref p0, .int x_cd_4])), (f0, .inr (2, [.ref f00, .ref f01, .ref f02, .int x_f0_3, .ref f04, .ref f05, .ref f06, .ref f07, .ref f08, .ref f09, .ref f010, .int x_f0_11, .int x_f0_12, .ref f013, .int x_f0_14, .ref f015, .int x_f0_16, .ref f017])), (f05, .inl (ct 1, 3000, .inl g_f05)), (f06, .inl (ct 1, 3000, .inl g_f06)), (f00, .inl (ct 1, 7000, .inl g_f00)), (f01, .inl (ct 1, 7000, .inl g_f01))] := hD
        refine lv_istore (lv' := [(7, .int r94_1), (6, .int j90_s0), (0, .ref cd), (1, .int v0), (2, .int z8_2), (3, .int z18_2), (4, .int r22_1), (5, .int j59_s0)]) hx hb dX0_codeWays_97 hl (by decide) rfl (fun ls hl => ?_)
        refine lv_aload_n hx hb dX0_codeWays_99 rfl (lv_at hl 2 rfl) ?_
        refine lv_iload hx hb dX0_codeWays_100 (lv_at hl 1 rfl) ?_
        refine lv_iconst (v := 4) hx hb dX0_codeWays_102 (by decide) ?_
        refine lv_ishl hx hb dX0_codeWays_103 ?_
        refine lv_topi (fun z103_1 ez103_1 => ?_)
        refine lv_iload hx hb dX0_codeWays_104 (lv_at hl 0 rfl) ?_
        have b116 : ∀ (j116_s0 : Int32) (H : Heap) (locs : List Loc) (ls : Array Slot), (rg j116_s0 6 14) → lv_has ls 8 [(0, .ref cd), (1, .int v0), (2, .int z8_2), (3, .int z18_2), (4, .int r22_1), (5, .int j59_s0), (7, .int r94_1)] → va_P D vwCl [(f08, .inl (ct 1, 3000, .inl g_f08)), (f09, .inl (ct 1, 3000, .inl g_f09)), (f07, .inl (ct 1, 3000, .inl g_f07)), (f02, .inl (ct 1, 7000, .inl g_f02)), (p0, .inr (7, [.ref p0r, .int x_p0_1])), (p0r, .inl (ct 2, 4000, .inr (.inl g_p0r))), (cdg, .inl (ct 1, 4000, .inl g_cdg)), (f010, .inl (ct 3, 3000, .inl g_f010)), (cd, .inr (0, [.ref cds, .ref cdg, .ref f0, .ref p0, .int x_cd_4])), (f0, .inr (2, [.ref f00, .ref f01, .ref f02, .int x_f0_3, .ref f04, .ref f05, .ref f06, .ref f07, .ref f08, .ref f09, .ref f010, .int x_f0_11, .int x_f0_12, .ref f013, .int x_f0_14, .ref f015, .int x_f0_16, .ref f017])), (f05, .inl (ct 1, 3000, .inl g_f05)), (f06, .inl (ct 1, 3000, .inl g_f06)), (f00, .inl (ct 1, 7000, .inl g_f00)), (f01, .inl (ct 1, 7000, .inl g_f01))] H → va_D A [(f08, .inl (ct 1, 3000, .inl g_f08)), (f09, .inl (ct 1, 3000, .inl g_f09)), (f07, .inl (ct 1, 3000, .inl g_f07)), (f02, .inl (ct 1, 7000, .inl g_f02)), (p0, .inr (7, [.ref p0r, .int x_p0_1])), (p0r, .inl (ct 2, 4000, .inr (.inl g_p0r))), (cdg, .inl (ct 1, 4000, .inl g_cdg)), (f010, .inl (ct 3, 3000, .inl g_f010)), (cd, .inr (0, [.ref cds, .ref cdg, .ref f0, .ref p0, .int x_cd_4])), (f0, .inr (2, [.ref f00, .ref f01, .ref f02, .int x_f0_3, .ref f04, .ref f05, .ref f06, .ref f07, .ref f08, .ref f09, .ref f010, .int x_f0_11, .int x_f0_12, .ref f013, .int x_f0_14, .ref f015, .int x_f0_16, .ref f017])), (f05, .inl (ct 1, 3000, .inl g_f05)), (f06, .inl (ct 1, 3000, .inl g_f06)), (f00, .inl (ct 1, 7000, .inl g_f00)), (f01, .inl (ct 1, 7000, .inl g_f01))] → va_S A s.heap H locs → W p l e ({ frames := 3, cells := 0, slots := 0, locals := 71 }) s m [.ref cd, .int v0].toArray below meth c H locs 0 0 Q (F0 m 116 ls [.int j116_s0, .int z103_1, .ref cd]) := by
          intro j116_s0 H locs ls r116_1001 hl hP hD hS
          refine lv_ior hx hb dX0_codeWays_116 ?_
          refine lv_topi (fun z116_1 ez116_1 => ?_)
          refine lv_iconst (v := 0) hx hb dX0_codeWays_117 (by decide) ?_
          refine lv_iload hx hb dX0_codeWays_118 (lv_at hl 6 rfl) ?_
          have b129 : ∀ (j129_s0 : Int32) (H : Heap) (locs : List Loc) (ls : Array Slot), (rg j129_s0 0 7) → lv_has ls 8 [(0, .ref cd), (1, .int v0), (2, .int z8_2), (3, .int z18_2), (4, .int r22_1), (5, .int j59_s0), (7, .int r94_1)] → va_P D vwCl [(f08, .inl (ct 1, 3000, .inl g_f08)), (f09, .inl (ct 1, 3000, .inl g_f09)), (f07, .inl (ct 1, 3000, .inl g_f07)), (f02, .inl (ct 1, 7000, .inl g_f02)), (p0, .inr (7, [.ref p0r, .int x_p0_1])), (p0r, .inl (ct 2, 4000, .inr (.inl g_p0r))), (cdg, .inl (ct 1, 4000, .inl g_cdg)), (f010, .inl (ct 3, 3000, .inl g_f010)), (cd, .inr (0, [.ref cds, .ref cdg, .ref f0, .ref p0, .int x_cd_4])), (f0, .inr (2, [.ref f00, .ref f01, .ref f02, .int x_f0_3, .ref f04, .ref f05, .ref f06, .ref f07, .ref f08, .ref f09, .ref f010, .int x_f0_11, .int x_f0_12, .ref f013, .int x_f0_14, .ref f015, .int x_f0_16, .ref f017])), (f05, .inl (ct 1, 3000, .inl g_f05)), (f06, .inl (ct 1, 3000, .inl g_f06)), (f00, .inl (ct 1, 7000, .inl g_f00)), (f01, .inl (ct 1, 7000, .inl g_f01))] H → va_D A [(f08, .inl (ct 1, 3000, .inl g_f08)), (f09, .inl (ct 1, 3000, .inl g_f09)), (f07, .inl (ct 1, 3000, .inl g_f07)), (f02, .inl (ct 1, 7000, .inl g_f02)), (p0, .inr (7, [.ref p0r, .int x_p0_1])), (p0r, .inl (ct 2, 4000, .inr (.inl g_p0r))), (cdg, .inl (ct 1, 4000, .inl g_cdg)), (f010, .inl (ct 3, 3000, .inl g_f010)), (cd, .inr (0, [.ref cds, .ref cdg, .ref f0, .ref p0, .int x_cd_4])), (f0, .inr (2, [.ref f00, .ref f01, .ref f02, .int x_f0_3, .ref f04, .ref f05, .ref f06, .ref f07, .ref f08, .ref f09, .ref f010, .int x_f0_11, .int x_f0_12, .ref f013, .int x_f0_14, .ref f015, .int x_f0_16, .ref f017])), (f05, .inl (ct 1, 3000, .inl g_f05)), (f06, .inl (ct 1, 3000, .inl g_f06)), (f00, .inl (ct 1, 7000, .inl g_f00)), (f01, .inl (ct 1, 7000, .inl g_f01))] → va_S A s.heap H locs → W p l e ({ frames := 3, cells := 0, slots := 0, locals := 71 }) s m [.ref cd, .int v0].toArray below meth c H locs 0 0 Q (F0 m 129 ls [.int j129_s0, .int 0, .int z116_1, .ref cd]) := by
            intro j129_s0 H locs ls r129_1001 hl hP hD hS
            refine lv_iload hx hb dX0_codeWays_129 (lv_at hl 6 rfl) ?_
            have b155 : ∀ (j155_s0 : Int32) (H : Heap) (locs : List Loc) (ls : Array Slot), lv_has ls 8 [(0, .ref cd), (2, .int z8_2), (3, .int z18_2), (4, .int r22_1), (5, .int j59_s0)] → va_P D vwCl [(f08, .inl (ct 1, 3000, .inl g_f08)), (f09, .inl (ct 1, 3000, .inl g_f09)), (f07, .inl (ct 1, 3000, .inl g_f07)), (f02, .inl (ct 1, 7000, .inl g_f02)), (p0, .inr (7, [.ref p0r, .int x_p0_1])), (p0r, .inl (ct 2, 4000, .inr (.inl g_p0r))), (cdg, .inl (ct 1, 4000, .inl g_cdg)), (f010, .inl (ct 3, 3000, .inl g_f010)), (cd, .inr (0, [.ref cds, .ref cdg, .ref f0, .ref p0, .int x_cd_4])), (f0, .inr (2, [.ref f00, .ref f01, .ref f02, .int x_f0_3, .ref f04, .ref f05, .ref f06, .ref f07, .ref f08, .ref f09, .ref f010, .int x_f0_11, .int x_f0_12, .ref f013, .int x_f0_14, .ref f015, .int x_f0_16, .ref f017])), (f05, .inl (ct 1, 3000, .inl g_f05)), (f06, .inl (ct 1, 3000, .inl g_f06)), (f00, .inl (ct 1, 7000, .inl g_f00)), (f01, .inl (ct 1, 7000, .inl g_f01))] H → va_D A [(f08, .inl (ct 1, 3000, .inl g_f08)), (f09, .inl (ct 1, 3000, .inl g_f09)), (f07, .inl (ct 1, 3000, .inl g_f07)), (f02, .inl (ct 1, 7000, .inl g_f02)), (p0, .inr (7, [.ref p0r, .int x_p0_1])), (p0r, .inl (ct 2, 4000, .inr (.inl g_p0r))), (cdg, .inl (ct 1, 4000, .inl g_cdg)), (f010, .inl (ct 3, 3000, .inl g_f010)), (cd, .inr (0, [.ref cds, .ref cdg, .ref f0, .ref p0, .int x_cd_4])), (f0, .inr (2, [.ref f00, .ref f01, .ref f02, .int x_f0_3, .ref f04, .ref f05, .ref f06, .ref f07, .ref f08, .ref f09, .ref f010, .int x_f0_11, .int x_f0_12, .ref f013, .int x_f0_14, .ref f015, .int x_f0_16, .ref f017])), (f05, .inl (ct 1, 3000, .inl g_f05)), (f06, .inl (ct 1, 3000, .inl g_f06)), (f00, .inl (ct 1, 7000, .inl g_f00)), (f01, .inl (ct 1, 7000, .inl g_f01))] → va_S A s.heap H locs → W p l e ({ frames := 3, cells := 0, slots := 0, locals := 71 }) s m [.ref cd, .int v0].toArray below meth c H locs 0 0 Q (F0 m 155 ls [.int j155_s0, .int j129_s0, .int 0, .int z116_1, .ref cd]) := by
              intro j155_s0 H locs ls  hl hP hD hS
              refine lv_iload hx hb dX0_codeWays_155 (lv_at hl 4 rfl) ?_
              have b165 : ∀ (j165_s0 : Int32) (H : Heap) (locs : List Loc) (ls : Array Slot), (rg j165_s0 0 3001) → lv_has ls 8 [(0, .ref cd), (3, .int z18_2), (4, .int r22_1), (5, .int j59_s0)] → va_P D vwCl [(f08, .inl (ct 1, 3000, .inl g_f08)), (f09, .inl (ct 1, 3000, .inl g_f09)), (f07, .inl (ct 1, 3000, .inl g_f07)), (f02, .inl (ct 1, 7000, .inl g_f02)), (p0, .inr (7, [.ref p0r, .int x_p0_1])), (p0r, .inl (ct 2, 4000, .inr (.inl g_p0r))), (cdg, .inl (ct 1, 4000, .inl g_cdg)), (f010, .inl (ct 3, 3000, .inl g_f010)), (cd, .inr (0, [.ref cds, .ref cdg, .ref f0, .ref p0, .int x_cd_4])), (f0, .inr (2, [.ref f00, .ref f01, .ref f02, .int x_f0_3, .ref f04, .ref f05, .ref f06, .ref f07, .ref f08, .ref f09, .ref f010, .int x_f0_11, .int x_f0_12, .ref f013, .int x_f0_14, .ref f015, .int x_f0_16, .ref f017])), (f05, .inl (ct 1, 3000, .inl g_f05)), (f06, .inl (ct 1, 3000, .inl g_f06)), (f00, .inl (ct 1, 7000, .inl g_f00)), (f01, .inl (ct 1, 7000, .inl g_f01))] H → va_D A [(f08, .inl (ct 1, 3000, .inl g_f08)), (f09, .inl (ct 1, 3000, .inl g_f09)), (f07, .inl (ct 1, 3000, .inl g_f07)), (f02, .inl (ct 1, 7000, .inl g_f02)), (p0, .inr (7, [.ref p0r, .int x_p0_1])), (p0r, .inl (ct 2, 4000, .inr (.inl g_p0r))), (cdg, .inl (ct 1, 4000, .inl g_cdg)), (f010, .inl (ct 3, 3000, .inl g_f010)), (cd, .inr (0, [.ref cds, .ref cdg, .ref f0, .ref p0, .int x_cd_4])), (f0, .inr (2, [.ref f00, .ref f01, .ref f02, .int x_f0_3, .ref f04, .ref f05, .ref f06, .ref f07, .ref f08, .ref f09, .ref f010, .int x_f0_11, .int x_f0_12, .ref f013, .int x_f0_14, .ref f015, .int x_f0_16, .ref f017])), (f05, .inl (ct 1, 3000, .inl g_f05)), (f06, .inl (ct 1, 3000, .inl g_f06)), (f00, .inl (ct 1, 7000, .inl g_f00)), (f01, .inl (ct 1, 7000, .inl g_f01))] → va_S A s.heap H locs → W p l e ({ frames := 3, cells := 0, slots := 0, locals := 71 }) s m [.ref cd, .int v0].toArray below meth c H locs 0 0 Q (F0 m 165 ls [.int j165_s0, .int j155_s0, .int j129_s0, .int 0, .int z116_1, .ref cd]) := by
                intro j165_s0 H locs ls r165_1001 hl hP hD hS
                refine go_v (k1 := 0) (n1 := 0) (wr := [(f08, .inl (ct 1, 3000, .inl g_f08)), (f09, .inl (ct 1, 3000, .inl g_f09)), (f07, .inl (ct 1, 3000, .inl g_f07)), (f02, .inl (ct 1, 7000, .inl g_f02)), (f010, .inl (ct 3, 3000, .inl g_f010)), (f0, .inr (2, [.ref f00, .ref f01, .ref f02, .int x_f0_3, .ref f04, .ref f05, .ref f06, .ref f07, .ref f08, .ref f09, .ref f010, .int x_f0_11, .int x_f0_12, .ref f013, .int x_f0_14, .ref f015, .int x_f0_16, .ref f017])), (f05, .inl (ct 1, 3000, .inl g_f05)), (f06, .inl (ct 1, 3000, .inl g_f06)), (f00, .inl (ct 1, 7000, .inl g_f00)), (f01, .inl (ct 1, 7000, .inl g_f01))]) [8, 4, 5, 6] [0, 1, 2, 3, 7, 9, 10, 11, 12, 13] (rn_V (As := [.int z116_1, .int 0, .int j129_s0, .int j155_s0, .int j165_s0]) (rest := []) (c_X0_putGoing l D ct cd z116_1 (0 : Int32) j129_s0 j155_s0 j165_s0 cds cdg f0 p0 x_cd_4 p0r x_p0_1 g_p0r g_cdg r165_1001 (rg_w h_x_cd_4 (by decide)) h_x_p0_1 h_g_cdg _) (cb_of (n := 5) hn mw_877 mw_9 mw_874 mhX0_putGoing ⟨(Nat.le_of_ble_eq_true rfl), (Nat.le_of_ble_eq_true rfl)⟩) hx hb hml hown hn hK hSK hZ hS mw_876 mw_s81 (ci := 0) (q0 := 0) rfl rfl rfl rfl hl.1 (Nat.le_of_ble_eq_true rfl) dX0_codeWays_165 ⟨(Nat.le_of_ble_eq_true rfl), (Nat.le_of_ble_eq_true rfl)⟩) hP hD hS hA rfl rfl (by decide) (by decide) (by decide) (Nat.le_of_ble_eq_true rfl) (Nat.le_of_ble_eq_true rfl) (fun u165_2 H locs hp165_3 hP hD hS => ?_)
                obtain ⟨y_cd_4165_4, k_p0r165_5, k_cdg165_6⟩ := u165_2
                obtain ⟨hp165_7, hp165_8, hp165_9⟩ := hp165_3
                have hp165_7 : rg y_cd_4165_4 1 1200000001 := hp165_7
                have hp165_9 : y_cd_4165_4.toInt = x_cd_4.toInt + 1 := hp165_9
                have hP : va_P D vwCl [(f08, .inl (ct 1, 3000, .inl g_f08)), (f09, .inl (ct 1, 3000, .inl g_f09)), (f07, .inl (ct 1, 3000, .inl g_f07)), (f02, .inl (ct 1, 7000, .inl g_f02)), (f010, .inl (ct 3, 3000, .inl g_f010)), (f0, .inr (2, [.ref f00, .ref f01, .ref f02, .int x_f0_3, .ref f04, .ref f05, .ref f06, .ref f07, .ref f08, .ref f09, .ref f010, .int x_f0_11, .int x_f0_12, .ref f013, .int x_f0_14, .ref f015, .int x_f0_16, .ref f017])), (f05, .inl (ct 1, 3000, .inl g_f05)), (f06, .inl (ct 1, 3000, .inl g_f06)), (f00, .inl (ct 1, 7000, .inl g_f00)), (f01, .inl (ct 1, 7000, .inl g_f01)), (cd, .inr (0, [.ref cds, .ref cdg, .ref f0, .ref p0, .int y_cd_4165_4])), (p0, .inr (7, [.ref p0r, .int x_p0_1])), (p0r, .inl (ct 2, 4000, .inr (.inl k_p0r165_5))), (cdg, .inl (ct 1, 4000, .inl k_cdg165_6))] _ := hP
                have hD : va_D A [(f08, .inl (ct 1, 3000, .inl g_f08)), (f09, .inl (ct 1, 3000, .inl g_f09)), (f07, .inl (ct 1, 3000, .inl g_f07)), (f02, .inl (ct 1, 7000, .inl g_f02)), (f010, .inl (ct 3, 3000, .inl g_f010)), (f0, .inr (2, [.ref f00, .ref f01, .ref f02, .int x_f0_3, .ref f04, .ref f05, .ref f06, .ref f07, .ref f08, .ref f09, .ref f010, .int x_f0_11, .int x_f0_12, .ref f013, .int x_f0_14, .ref f015, .int x_f0_16, .ref f017])), (f05, .inl (ct 1, 3000, .inl g_f05)), (f06, .inl (ct 1, 3000, .inl g_f06)), (f00, .inl (ct 1, 7000, .inl g_f00)), (f01, .inl (ct 1, 7000, .inl g_f01)), (cd, .inr (0, [.ref cds, .ref cdg, .ref f0, .ref p0, .int y_cd_4165_4])), (p0, .inr (7, [.ref p0r, .int x_p0_1])), (p0r, .inl (ct 2, 4000, .inr (.inl k_p0r165_5))), (cdg, .inl (ct 1, 4000, .inl k_cdg165_6))] := hD
                refine lv_iload hx hb dX0_codeWays_168 (lv_at hl 3 rfl) ?_
                refine lv_if_ne (tgt := 188) hx hb dX0_codeWays_170 (by decide) (fun c170_1 => ?_) (fun c170_1 => ?_)
                · have t170_2 := (i_ne c170_1)
                  have r170_3 : rg j59_s0 1 1 := rg_neAl t170_2 r59_1001 (show rg (0 : Int32) 0 0 from rg_l (by decide)) (by decide)
                  exact endq_v hQ hx hb hr hlocks dX0_codeWays_188 (y_cd_4165_4, k_p0r165_5, k_cdg165_6) ⟨(rg_w hp165_7 (by decide)), hp165_8, (show x_cd_4.toInt + 0 ≤ y_cd_4165_4.toInt ∧ y_cd_4165_4.toInt ≤ x_cd_4.toInt + 2 by have q0 := h_x_cd_4.1; have q1 := h_x_cd_4.2; have q2 := hp165_7.1; have q3 := hp165_7.2; have q4 := hp165_9; omega)⟩ hP hD hS [10, 5, 0, 1, 4, 2, 6, 7, 8, 9, 3, 11, 12, 13] rfl (by decide) rfl (Nat.le_of_ble_eq_true rfl) (Nat.le_of_ble_eq_true rfl)
                · have t170_2 := (i_eq c170_1)
                  have r170_3 : rg j59_s0 0 0 := rg_eqA t170_2 r59_1001 (show rg (0 : Int32) 0 0 from rg_l (by decide)) (by decide)
                  refine lv_iload_n hx hb dX0_codeWays_173 rfl (lv_at hl 1 rfl) ?_
                  refine lv_iload hx hb dX0_codeWays_174 (lv_at hl 2 rfl) ?_
                  refine lv_icmp_eq (tgt := 188) hx hb dX0_codeWays_176 (by decide) (fun c176_1 => ?_) (fun c176_1 => ?_)
                  · have t176_2 := (i_eq c176_1)
                    have r176_3 : rg z18_2 1 3000 := rg_eqA t176_2 r18_3 hp22_4 (by decide)
                    exact endq_v hQ hx hb hr hlocks dX0_codeWays_188 (y_cd_4165_4, k_p0r165_5, k_cdg165_6) ⟨(rg_w hp165_7 (by decide)), hp165_8, (show x_cd_4.toInt + 0 ≤ y_cd_4165_4.toInt ∧ y_cd_4165_4.toInt ≤ x_cd_4.toInt + 2 by have q0 := h_x_cd_4.1; have q1 := h_x_cd_4.2; have q2 := hp165_7.1; have q3 := hp165_7.2; have q4 := hp165_9; omega)⟩ hP hD hS [10, 5, 0, 1, 4, 2, 6, 7, 8, 9, 3, 11, 12, 13] rfl (by decide) rfl (Nat.le_of_ble_eq_true rfl) (Nat.le_of_ble_eq_true rfl)
                  · have t176_2 := (i_ne c176_1)
                    refine lv_aload_n hx hb dX0_codeWays_179 rfl (lv_at hl 0 rfl) ?_
                    refine lv_iconst (v := 5) hx hb dX0_codeWays_180 (by decide) ?_
                    refine lv_iconst (v := 0) hx hb dX0_codeWays_181 (by decide) ?_
                    refine lv_iconst (v := 0) hx hb dX0_codeWays_182 (by decide) ?_
                    refine lv_iconst (v := 0) hx hb dX0_codeWays_183 (by decide) ?_
                    refine lv_iload_n hx hb dX0_codeWays_184 rfl (lv_at hl 1 rfl) ?_
                    refine go_v (k1 := 0) (n1 := 0) (wr := [(f08, .inl (ct 1, 3000, .inl g_f08)), (f09, .inl (ct 1, 3000, .inl g_f09)), (f07, .inl (ct 1, 3000, .inl g_f07)), (f02, .inl (ct 1, 7000, .inl g_f02)), (f010, .inl (ct 3, 3000, .inl g_f010)), (f0, .inr (2, [.ref f00, .ref f01, .ref f02, .int x_f0_3, .ref f04, .ref f05, .ref f06, .ref f07, .ref f08, .ref f09, .ref f010, .int x_f0_11, .int x_f0_12, .ref f013, .int x_f0_14, .ref f015, .int x_f0_16, .ref f017])), (f05, .inl (ct 1, 3000, .inl g_f05)), (f06, .inl (ct 1, 3000, .inl g_f06)), (f00, .inl (ct 1, 7000, .inl g_f00)), (f01, .inl (ct 1, 7000, .inl g_f01))]) [10, 11, 12, 13] [0, 1, 2, 3, 4, 5, 6, 7, 8, 9] (rn_V (As := [.int 5, .int 0, .int 0, .int 0, .int z18_2]) (rest := []) (c_X0_putGoing l D ct cd (5 : Int32) (0 : Int32) (0 : Int32) (0 : Int32) z18_2 cds cdg f0 p0 y_cd_4165_4 p0r x_p0_1 k_p0r165_5 k_cdg165_6 r18_3 (rg_of (show 0 ≤ y_cd_4165_4.toInt ∧ y_cd_4165_4.toInt ≤ 1199999990 by have q0 := hp165_7.1; have q1 := hp165_7.2; have q2 := h_x_cd_4.1; have q3 := h_x_cd_4.2; have q4 := hp165_9; omega)) h_x_p0_1 hp165_8 _) (cb_of (n := 5) hn mw_877 mw_9 mw_874 mhX0_putGoing ⟨(Nat.le_of_ble_eq_true rfl), (Nat.le_of_ble_eq_true rfl)⟩) hx hb hml hown hn hK hSK hZ hS mw_876 mw_s81 (ci := 0) (q0 := 0) rfl rfl rfl rfl hl.1 (Nat.le_of_ble_eq_true rfl) dX0_codeWays_185 ⟨(Nat.le_of_ble_eq_true rfl), (Nat.le_of_ble_eq_true rfl)⟩) hP hD hS hA rfl rfl (by decide) (by decide) (by decide) (Nat.le_of_ble_eq_true rfl) (Nat.le_of_ble_eq_true rfl) (fun u185_2 H locs hp185_3 hP hD hS => ?_)
                    obtain ⟨y_cd_4185_4, k_p0r185_5, k_cdg185_6⟩ := u185_2
                    obtain ⟨hp185_7, hp185_8, hp185_9⟩ := hp185_3
                    have hp185_7 : rg y_cd_4185_4 1 1200000001 := hp185_7
                    have hp185_9 : y_cd_4185_4.toInt = y_cd_4165_4.toInt + 1 := hp185_9
                    have hP : va_P D vwCl [(f08, .inl (ct 1, 3000, .inl g_f08)), (f09, .inl (ct 1, 3000, .inl g_f09)), (f07, .inl (ct 1, 3000, .inl g_f07)), (f02, .inl (ct 1, 7000, .inl g_f02)), (f010, .inl (ct 3, 3000, .inl g_f010)), (f0, .inr (2, [.ref f00, .ref f01, .ref f02, .int x_f0_3, .ref f04, .ref f05, .ref f06, .ref f07, .ref f08, .ref f09, .ref f010, .int x_f0_11, .int x_f0_12, .ref f013, .int x_f0_14, .ref f015, .int x_f0_16, .ref f017])), (f05, .inl (ct 1, 3000, .inl g_f05)), (f06, .inl (ct 1, 3000, .inl g_f06)), (f00, .inl (ct 1, 7000, .inl g_f00)), (f01, .inl (ct 1, 7000, .inl g_f01)), (cd, .inr (0, [.ref cds, .ref cdg, .ref f0, .ref p0, .int y_cd_4185_4])), (p0, .inr (7, [.ref p0r, .int x_p0_1])), (p0r, .inl (ct 2, 4000, .inr (.inl k_p0r185_5))), (cdg, .inl (ct 1, 4000, .inl k_cdg185_6))] _ := hP
                    have hD : va_D A [(f08, .inl (ct 1, 3000, .inl g_f08)), (f09, .inl (ct 1, 3000, .inl g_f09)), (f07, .inl (ct 1, 3000, .inl g_f07)), (f02, .inl (ct 1, 7000, .inl g_f02)), (f010, .inl (ct 3, 3000, .inl g_f010)), (f0, .inr (2, [.ref f00, .ref f01, .ref f02, .int x_f0_3, .ref f04, .ref f05, .ref f06, .ref f07, .ref f08, .ref f09, .ref f010, .int x_f0_11, .int x_f0_12, .ref f013, .int x_f0_14, .ref f015, .int x_f0_16, .ref f017])), (f05, .inl (ct 1, 3000, .inl g_f05)), (f06, .inl (ct 1, 3000, .inl g_f06)), (f00, .inl (ct 1, 7000, .inl g_f00)), (f01, .inl (ct 1, 7000, .inl g_f01)), (cd, .inr (0, [.ref cds, .ref cdg, .ref f0, .ref p0, .int y_cd_4185_4])), (p0, .inr (7, [.ref p0r, .int x_p0_1])), (p0r, .inl (ct 2, 4000, .inr (.inl k_p0r185_5))), (cdg, .inl (ct 1, 4000, .inl k_cdg185_6))] := hD
                    exact endq_v hQ hx hb hr hlocks dX0_codeWays_188 (y_cd_4185_4, k_p0r185_5, k_cdg185_6) ⟨(rg_w hp185_7 (by decide)), hp185_8, (show x_cd_4.toInt + 0 ≤ y_cd_4185_4.toInt ∧ y_cd_4185_4.toInt ≤ x_cd_4.toInt + 2 by have q0 := h_x_cd_4.1; have q1 := h_x_cd_4.2; have q2 := hp185_7.1; have q3 := hp185_7.2; have q4 := hp165_7.1; have q5 := hp165_7.2; have q6 := hp165_9; have q7 := hp185_9; omega)⟩ hP hD hS [10, 5, 0, 1, 4, 2, 6, 7, 8, 9, 3, 11, 12, 13] rfl (by decide) rfl (Nat.le_of_ble_eq_true rfl) (Nat.le_of_ble_eq_true rfl)
              refine lv_if_eq (tgt := 164) hx hb dX0_codeWays_157 (by decide) (fun c157_1 => ?_) (fun c157_1 => ?_)
              · have t157_2 := (i_eq c157_1)
                have r157_3 : rg j59_s0 0 0 := rg_eqA t157_2 r59_1001 (show rg (0 : Int32) 0 0 from rg_l (by decide)) (by decide)
                refine lv_iload_n hx hb dX0_codeWays_164 rfl (lv_at hl 1 rfl) ?_
                exact b165 z8_2 H locs ls r8_3 (lv_sub hl [0, 2, 3, 4] rfl) hP hD hS
              · have t157_2 := (i_ne c157_1)
                have r157_3 : rg j59_s0 1 1 := rg_neAl t157_2 r59_1001 (show rg (0 : Int32) 0 0 from rg_l (by decide)) (by decide)
                refine lv_iload_n hx hb dX0_codeWays_160 rfl (lv_at hl 2 rfl) ?_
                refine lv_goto (tgt := 165) hx hb dX0_codeWays_161 (by decide) ?_
                exact b165 z18_2 H locs ls r18_3 (lv_sub hl [0, 2, 3, 4] rfl) hP hD hS
            refine lv_if_eq (tgt := 154) hx hb dX0_codeWays_131 (by decide) (fun c131_1 => ?_) (fun c131_1 => ?_)
            · have t131_2 := (i_eq c131_1)
              have r131_3 : rg r94_1 0 0 := rg_eqA t131_2 hp94_4 (show rg (0 : Int32) 0 0 from rg_l (by decide)) (by decide)
              refine lv_iconst (v := 0) hx hb dX0_codeWays_154 (by decide) ?_
              exact b155 (0 : Int32) H locs ls  (lv_sub hl [0, 2, 3, 4, 5] rfl) hP hD hS
            · have t131_2 := (i_ne c131_1)
              have r131_3 : rg r94_1 1 1 := rg_neAl t131_2 hp94_4 (show rg (0 : Int32) 0 0 from rg_l (by decide)) (by decide)
              refine lv_aload_n hx hb dX0_codeWays_134 rfl (lv_at hl 0 rfl) ?_
              refine va_get (D := D) (ci := 0) (v := .ref f0) (C := RX0) (T := TX0) (N := 5) hx hb (htX0 hn) (fun _ h => h) hown hK hP 8 rfl rfl 2 (by decide) (hn.get mw_268 rfl) (fun _ h9 => h9) rfl dX0_codeWays_135 ?_
              refine va_getN (D := D) (ci := 2) (v := .ref f02) (C := RX2) (T := TX2) (N := 18) hx hb (htX2 hn) (fun _ h => h) hown hK hP 9 rfl rfl 2 (by decide) (hn.get mw_152 rfl) (fun _ h9 => h9) rfl dX0_codeWays_138 ?_
              refine lv_aload_n hx hb dX0_codeWays_141 rfl (lv_at hl 0 rfl) ?_
              refine va_get (D := D) (ci := 0) (v := .ref f0) (C := RX0) (T := TX0) (N := 5) hx hb (htX0 hn) (fun _ h => h) hown hK hP 8 rfl rfl 2 (by decide) (hn.get mw_268 rfl) (fun _ h9 => h9) rfl dX0_codeWays_142 ?_
              refine va_getN (D := D) (ci := 2) (v := .ref f05) (C := RX2) (T := TX2) (N := 18) hx hb (htX2 hn) (fun _ h => h) hown hK hP 9 rfl rfl 5 (by decide) (hn.get mw_158 rfl) (fun _ h9 => h9) rfl dX0_codeWays_145 ?_
              refine lv_iload_n hx hb dX0_codeWays_148 rfl (lv_at hl 1 rfl) ?_
              have hi149_1 : vp_in v0 3000 := (in_rg h_v0 (by decide))
              refine va_iald hx hb hK hP 10 1 rfl rfl hi149_1 dX0_codeWays_149 ?_
              refine lv_topi (fun z149_2 ez149_2 => ?_)
              have r149_3 : rg z149_2 0 7000 := Rg_at h_g_f05 hi149_1 ez149_2
              have hi150_1 : vp_in z149_2 7000 := (in_of (show 0 ≤ z149_2.toInt ∧ z149_2.toInt < 7000 by have q0 := r149_3.1; have q1 := r149_3.2; have q2 := (congrArg Int32.toInt ez149_2); have q3 := (rg_any (g_f05 v0.toNatClampNeg)).1; have q4 := (rg_any (g_f05 v0.toNatClampNeg)).2; have q5 := r131_3.1; have q6 := r131_3.2; have q7 := (show rg (0 : Int32) 0 0 from rg_l (by decide)).1; have q8 := (show rg (0 : Int32) 0 0 from rg_l (by decide)).2; have q9 := hp94_5; have q10 := t131_2; omega))
              refine va_iald hx hb hK hP 3 1 rfl rfl hi150_1 dX0_codeWays_150 ?_
              refine lv_topi (fun z150_2 ez150_2 => ?_)
              refine lv_goto (tgt := 155) hx hb dX0_codeWays_151 (by decide) ?_
              exact b155 z150_2 H locs ls  (lv_sub hl [0, 2, 3, 4, 5] rfl) hP hD hS
          refine lv_if_eq (tgt := 127) hx hb dX0_codeWays_120 (by decide) (fun c120_1 => ?_) (fun c120_1 => ?_)
          · have t120_2 := (i_eq c120_1)
            have r120_3 : rg r94_1 0 0 := rg_eqA t120_2 hp94_4 (show rg (0 : Int32) 0 0 from rg_l (by decide)) (by decide)
            refine lv_bipush (v := 7) hx hb dX0_codeWays_127 (by decide) ?_
            exact b129 (7 : Int32) H locs ls (rg_w (show rg (7 : Int32) 7 7 from rg_l (by decide)) (by decide)) (lv_sub hl [0, 1, 2, 3, 4, 5, 6] rfl) hP hD hS
          · have t120_2 := (i_ne c120_1)
            have r120_3 : rg r94_1 1 1 := rg_neAl t120_2 hp94_4 (show rg (0 : Int32) 0 0 from rg_l (by decide)) (by decide)
            refine lv_iconst (v := 0) hx hb dX0_codeWays_123 (by decide) ?_
            refine lv_goto (tgt := 129) hx hb dX0_codeWays_124 (by decide) ?_
            exact b129 (0 : Int32) H locs ls (rg_w (show rg (0 : Int32) 0 0 from rg_l (by decide)) (by decide)) (lv_sub hl [0, 1, 2, 3, 4, 5, 6] rfl) hP hD hS
        refine lv_if_eq (tgt := 114) hx hb dX0_codeWays_106 (by decide) (fun c106_1 => ?_) (fun c106_1 => ?_)
        · have t106_2 := (i_eq c106_1)
          have r106_3 : rg r94_1 0 0 := rg_eqA t106_2 hp94_4 (show rg (0 : Int32) 0 0 from rg_l (by decide)) (by decide)
          refine lv_bipush (v := 14) hx hb dX0_codeWays_114 (by decide) ?_
          exact b116 (14 : Int32) H locs ls (rg_w (show rg (14 : Int32) 14 14 from rg_l (by decide)) (by decide)) (lv_sub hl [2, 3, 4, 5, 6, 7, 0] rfl) hP hD hS
        · have t106_2 := (i_ne c106_1)
          have r106_3 : rg r94_1 1 1 := rg_neAl t106_2 hp94_4 (show rg (0 : Int32) 0 0 from rg_l (by decide)) (by decide)
          refine lv_bipush (v := 6) hx hb dX0_codeWays_109 (by decide) ?_
          refine lv_goto (tgt := 116) hx hb dX0_codeWays_111 (by decide) ?_
          exact b116 (6 : Int32) H locs ls (rg_w (show rg (6 : Int32) 6 6 from rg_l (by decide)) (by decide)) (lv_sub hl [2, 3, 4, 5, 6, 7, 0] rfl) hP hD hS
      refine lv_if_eq (tgt := 81) hx hb dX0_codeWays_63 (by decide) (fun c63_1 => ?_) (fun c63_1 => ?_)
      · have t63_2 := (i_eq c63_1)
        have r63_3 : rg j59_s0 0 0 := rg_eqA t63_2 r59_1001 (show rg (0 : Int32) 0 0 from rg_l (by decide)) (by decide)
        refine lv_aload_n hx hb dX0_codeWays_81 rfl (lv_at hl 1 rfl) ?_
        refine va_get (D := D) (ci := 0) (v := .ref f0) (C := RX0) (T := TX0) (N := 5) hx hb (htX0 hn) (fun _ h => h) hown hK hP 11 rfl rfl 2 (by decide) (hn.get mw_268 rfl) (fun _ h9 => h9) rfl dX0_codeWays_82 ?_
        refine va_getN (D := D) (ci := 2) (v := .ref f07) (C := RX2) (T := TX2) (N := 18) hx hb (htX2 hn) (fun _ h => h) hown hK hP 12 rfl rfl 7 (by decide) (hn.get mw_162 rfl) (fun _ h9 => h9) rfl dX0_codeWays_85 ?_
        refine lv_iload_n hx hb dX0_codeWays_88 rfl (lv_at hl 2 rfl) ?_
        have hi89_1 : vp_in v0 3000 := (in_rg h_v0 (by decide))
        refine va_iald hx hb hK hP 2 1 rfl rfl hi89_1 dX0_codeWays_89 ?_
        refine lv_topi (fun z89_2 ez89_2 => ?_)
        have r89_3 : rg z89_2 (-1) 13 := Rg_at h_g_f07 hi89_1 ez89_2
        exact b90 z89_2 H locs ls r89_3 (lv_sub hl [1, 2, 3, 4, 5, 0] rfl) hP hD hS
      · have t63_2 := (i_ne c63_1)
        have r63_3 : rg j59_s0 1 1 := rg_neAl t63_2 r59_1001 (show rg (0 : Int32) 0 0 from rg_l (by decide)) (by decide)
        refine lv_aload_n hx hb dX0_codeWays_66 rfl (lv_at hl 1 rfl) ?_
        refine va_get (D := D) (ci := 0) (v := .ref f0) (C := RX0) (T := TX0) (N := 5) hx hb (htX0 hn) (fun _ h => h) hown hK hP 11 rfl rfl 2 (by decide) (hn.get mw_268 rfl) (fun _ h9 => h9) rfl dX0_codeWays_67 ?_
        refine va_getN (D := D) (ci := 2) (v := .ref f07) (C := RX2) (T := TX2) (N := 18) hx hb (htX2 hn) (fun _ h => h) hown hK hP 12 rfl rfl 7 (by decide) (hn.get mw_162 rfl) (fun _ h9 => h9) rfl dX0_codeWays_70 ?_
        refine lv_iload_n hx hb dX0_codeWays_73 rfl (lv_at hl 2 rfl) ?_
        have hi74_1 : vp_in v0 3000 := (in_rg h_v0 (by decide))
        refine va_iald hx hb hK hP 2 1 rfl rfl hi74_1 dX0_codeWays_74 ?_
        refine lv_topi (fun z74_2 ez74_2 => ?_)
        have r74_3 : rg z74_2 (-1) 13 := Rg_at h_g_f07 hi74_1 ez74_2
        refine go_i (k1 := 0) (n1 := 0) (wr := [(f08, .inl (ct 1, 3000, .inl g_f08)), (f09, .inl (ct 1, 3000, .inl g_f09)), (f07, .inl (ct 1, 3000, .inl g_f07)), (f05, .inl (ct 1, 3000, .inl g_f05)), (f06, .inl (ct 1, 3000, .inl g_f06)), (f00, .inl (ct 1, 7000, .inl g_f00)), (f01, .inl (ct 1, 7000, .inl g_f01)), (f02, .inl (ct 1, 7000, .inl g_f02)), (p0, .inr (7, [.ref p0r, .int x_p0_1])), (p0r, .inl (ct 2, 4000, .inr (.inl g_p0r))), (cdg, .inl (ct 1, 4000, .inl g_cdg)), (cd, .inr (0, [.ref cds, .ref cdg, .ref f0, .ref p0, .int x_cd_4])), (f0, .inr (2, [.ref f00, .ref f01, .ref f02, .int x_f0_3, .ref f04, .ref f05, .ref f06, .ref f07, .ref f08, .ref f09, .ref f010, .int x_f0_11, .int x_f0_12, .ref f013, .int x_f0_14, .ref f015, .int x_f0_16, .ref f017])), (f010, .inl (ct 3, 3000, .inl g_f010))]) [] [0, 1, 2, 3, 4, 5, 6, 7, 8, 9, 10, 11, 12, 13] (rn_SN (As := [.int z74_2]) (rest := []) (c_X11_otherOp l D ct z74_2  _) (cn_of (n := 1) hn mw_907 mw_1 mw_905 mhX11_otherOp ⟨(Nat.le_of_ble_eq_true rfl), (Nat.le_of_ble_eq_true rfl)⟩) hx hb hml hown hn hK hSK hZ hS mw_906 rfl hl.1 (Nat.le_of_ble_eq_true rfl) dX0_codeWays_75 ⟨(Nat.le_of_ble_eq_true rfl), (Nat.le_of_ble_eq_true rfl)⟩) hP hD hS hA rfl rfl (by decide) (by decide) (by decide) (Nat.le_of_ble_eq_true rfl) (Nat.le_of_ble_eq_true rfl) (fun r75_1 u75_2 H locs hp75_3 hP hD hS => ?_)
        have hp75_4 := hp75_3
        have hp75_4 : rg r75_1 1 11 := hp75_4
        have hP : va_P D vwCl [(f08, .inl (ct 1, 3000, .inl g_f08)), (f09, .inl (ct 1, 3000, .inl g_f09)), (f07, .inl (ct 1, 3000, .inl g_f07)), (f05, .inl (ct 1, 3000, .inl g_f05)), (f06, .inl (ct 1, 3000, .inl g_f06)), (f00, .inl (ct 1, 7000, .inl g_f00)), (f01, .inl (ct 1, 7000, .inl g_f01)), (f02, .inl (ct 1, 7000, .inl g_f02)), (p0, .inr (7, [.ref p0r, .int x_p0_1])), (p0r, .inl (ct 2, 4000, .inr (.inl g_p0r))), (cdg, .inl (ct 1, 4000, .inl g_cdg)), (cd, .inr (0, [.ref cds, .ref cdg, .ref f0, .ref p0, .int x_cd_4])), (f0, .inr (2, [.ref f00, .ref f01, .ref f02, .int x_f0_3, .ref f04, .ref f05, .ref f06, .ref f07, .ref f08, .ref f09, .ref f010, .int x_f0_11, .int x_f0_12, .ref f013, .int x_f0_14, .ref f015, .int x_f0_16, .ref f017])), (f010, .inl (ct 3, 3000, .inl g_f010))] _ := hP
        have hD : va_D A [(f08, .inl (ct 1, 3000, .inl g_f08)), (f09, .inl (ct 1, 3000, .inl g_f09)), (f07, .inl (ct 1, 3000, .inl g_f07)), (f05, .inl (ct 1, 3000, .inl g_f05)), (f06, .inl (ct 1, 3000, .inl g_f06)), (f00, .inl (ct 1, 7000, .inl g_f00)), (f01, .inl (ct 1, 7000, .inl g_f01)), (f02, .inl (ct 1, 7000, .inl g_f02)), (p0, .inr (7, [.ref p0r, .int x_p0_1])), (p0r, .inl (ct 2, 4000, .inr (.inl g_p0r))), (cdg, .inl (ct 1, 4000, .inl g_cdg)), (cd, .inr (0, [.ref cds, .ref cdg, .ref f0, .ref p0, .int x_cd_4])), (f0, .inr (2, [.ref f00, .ref f01, .ref f02, .int x_f0_3, .ref f04, .ref f05, .ref f06, .ref f07, .ref f08, .ref f09, .ref f010, .int x_f0_11, .int x_f0_12, .ref f013, .int x_f0_14, .ref f015, .int x_f0_16, .ref f017])), (f010, .inl (ct 3, 3000, .inl g_f010))] := hD
        refine lv_goto (tgt := 90) hx hb dX0_codeWays_78 (by decide) ?_
        exact b90 r75_1 H locs ls (rg_w hp75_4 (by decide)) (lv_sub hl [1, 2, 3, 4, 5, 0] rfl) hP hD hS
    refine lv_icmp_ne (tgt := 58) hx hb dX0_codeWays_51 (by decide) (fun c51_1 => ?_) (fun c51_1 => ?_)
    · have t51_2 := (i_ne c51_1)
      refine lv_iconst (v := 0) hx hb dX0_codeWays_58 (by decide) ?_
      exact b59 (0 : Int32) H locs ls (rg_w (show rg (0 : Int32) 0 0 from rg_l (by decide)) (by decide)) (lv_sub hl [3, 4, 2, 1, 0] rfl) hP hD hS
    · have t51_2 := (i_eq c51_1)
      have r51_3 : rg z8_2 1 3000 := rg_eqA t51_2 r8_3 hp22_4 (by decide)
      refine lv_iconst (v := 1) hx hb dX0_codeWays_54 (by decide) ?_
      refine lv_goto (tgt := 59) hx hb dX0_codeWays_55 (by decide) ?_
      exact b59 (1 : Int32) H locs ls (rg_w (show rg (1 : Int32) 1 1 from rg_l (by decide)) (by decide)) (lv_sub hl [3, 4, 2, 1, 0] rfl) hP hD hS
  · have t29_2 := (i_eq c29_1)
    refine lv_iload_n hx hb dX0_codeWays_32 rfl (lv_at hl 2 rfl) ?_
    refine lv_iload hx hb dX0_codeWays_33 (lv_at hl 0 rfl) ?_
    refine lv_icmp_eq (tgt := 47) hx hb dX0_codeWays_35 (by decide) (fun c35_1 => ?_) (fun c35_1 => ?_)
    · have t35_2 := (i_eq c35_1)
      have r35_3 : rg z8_2 1 3000 := rg_eqA t35_2 r8_3 hp22_4 (by decide)
      exact endq_v hQ hx hb hr hlocks dX0_codeWays_47 (x_cd_4, g_p0r, g_cdg) ⟨(rg_w h_x_cd_4 (by decide)), h_g_cdg, (show x_cd_4.toInt + 0 ≤ x_cd_4.toInt ∧ x_cd_4.toInt ≤ x_cd_4.toInt + 2 by have q0 := h_x_cd_4.1; have q1 := h_x_cd_4.2; omega)⟩ hP hD hS [11, 12, 0, 1, 13, 2, 3, 4, 5, 6, 7, 8, 9, 10] rfl (by decide) rfl (Nat.le_of_ble_eq_true rfl) (Nat.le_of_ble_eq_true rfl)
    · have t35_2 := (i_ne c35_1)
      refine lv_aload_n hx hb dX0_codeWays_38 rfl (lv_at hl 3 rfl) ?_
      refine lv_iconst (v := 5) hx hb dX0_codeWays_39 (by decide) ?_
      refine lv_iconst (v := 0) hx hb dX0_codeWays_40 (by decide) ?_
      refine lv_iconst (v := 0) hx hb dX0_codeWays_41 (by decide) ?_
      refine lv_iconst (v := 0) hx hb dX0_codeWays_42 (by decide) ?_
      refine lv_iload_n hx hb dX0_codeWays_43 rfl (lv_at hl 2 rfl) ?_
      refine go_v (k1 := 0) (n1 := 0) (wr := [(f08, .inl (ct 1, 3000, .inl g_f08)), (f09, .inl (ct 1, 3000, .inl g_f09)), (f07, .inl (ct 1, 3000, .inl g_f07)), (f05, .inl (ct 1, 3000, .inl g_f05)), (f06, .inl (ct 1, 3000, .inl g_f06)), (f00, .inl (ct 1, 7000, .inl g_f00)), (f01, .inl (ct 1, 7000, .inl g_f01)), (f02, .inl (ct 1, 7000, .inl g_f02)), (f0, .inr (2, [.ref f00, .ref f01, .ref f02, .int x_f0_3, .ref f04, .ref f05, .ref f06, .ref f07, .ref f08, .ref f09, .ref f010, .int x_f0_11, .int x_f0_12, .ref f013, .int x_f0_14, .ref f015, .int x_f0_16, .ref f017])), (f010, .inl (ct 3, 3000, .inl g_f010))]) [11, 8, 9, 10] [0, 1, 2, 3, 4, 5, 6, 7, 12, 13] (rn_V (As := [.int 5, .int 0, .int 0, .int 0, .int z8_2]) (rest := []) (c_X0_putGoing l D ct cd (5 : Int32) (0 : Int32) (0 : Int32) (0 : Int32) z8_2 cds cdg f0 p0 x_cd_4 p0r x_p0_1 g_p0r g_cdg r8_3 (rg_w h_x_cd_4 (by decide)) h_x_p0_1 h_g_cdg _) (cb_of (n := 5) hn mw_877 mw_9 mw_874 mhX0_putGoing ⟨(Nat.le_of_ble_eq_true rfl), (Nat.le_of_ble_eq_true rfl)⟩) hx hb hml hown hn hK hSK hZ hS mw_876 mw_s81 (ci := 0) (q0 := 0) rfl rfl rfl rfl hl.1 (Nat.le_of_ble_eq_true rfl) dX0_codeWays_44 ⟨(Nat.le_of_ble_eq_true rfl), (Nat.le_of_ble_eq_true rfl)⟩) hP hD hS hA rfl rfl (by decide) (by decide) (by decide) (Nat.le_of_ble_eq_true rfl) (Nat.le_of_ble_eq_true rfl) (fun u44_2 H locs hp44_3 hP hD hS => ?_)
      obtain ⟨y_cd_444_4, k_p0r44_5, k_cdg44_6⟩ := u44_2
      obtain ⟨hp44_7, hp44_8, hp44_9⟩ := hp44_3
      have hp44_7 : rg y_cd_444_4 1 1200000001 := hp44_7
      have hp44_9 : y_cd_444_4.toInt = x_cd_4.toInt + 1 := hp44_9
      have hP : va_P D vwCl [(f08, .inl (ct 1, 3000, .inl g_f08)), (f09, .inl (ct 1, 3000, .inl g_f09)), (f07, .inl (ct 1, 3000, .inl g_f07)), (f05, .inl (ct 1, 3000, .inl g_f05)), (f06, .inl (ct 1, 3000, .inl g_f06)), (f00, .inl (ct 1, 7000, .inl g_f00)), (f01, .inl (ct 1, 7000, .inl g_f01)), (f02, .inl (ct 1, 7000, .inl g_f02)), (f0, .inr (2, [.ref f00, .ref f01, .ref f02, .int x_f0_3, .ref f04, .ref f05, .ref f06, .ref f07, .ref f08, .ref f09, .ref f010, .int x_f0_11, .int x_f0_12, .ref f013, .int x_f0_14, .ref f015, .int x_f0_16, .ref f017])), (f010, .inl (ct 3, 3000, .inl g_f010)), (cd, .inr (0, [.ref cds, .ref cdg, .ref f0, .ref p0, .int y_cd_444_4])), (p0, .inr (7, [.ref p0r, .int x_p0_1])), (p0r, .inl (ct 2, 4000, .inr (.inl k_p0r44_5))), (cdg, .inl (ct 1, 4000, .inl k_cdg44_6))] _ := hP
      have hD : va_D A [(f08, .inl (ct 1, 3000, .inl g_f08)), (f09, .inl (ct 1, 3000, .inl g_f09)), (f07, .inl (ct 1, 3000, .inl g_f07)), (f05, .inl (ct 1, 3000, .inl g_f05)), (f06, .inl (ct 1, 3000, .inl g_f06)), (f00, .inl (ct 1, 7000, .inl g_f00)), (f01, .inl (ct 1, 7000, .inl g_f01)), (f02, .inl (ct 1, 7000, .inl g_f02)), (f0, .inr (2, [.ref f00, .ref f01, .ref f02, .int x_f0_3, .ref f04, .ref f05, .ref f06, .ref f07, .ref f08, .ref f09, .ref f010, .int x_f0_11, .int x_f0_12, .ref f013, .int x_f0_14, .ref f015, .int x_f0_16, .ref f017])), (f010, .inl (ct 3, 3000, .inl g_f010)), (cd, .inr (0, [.ref cds, .ref cdg, .ref f0, .ref p0, .int y_cd_444_4])), (p0, .inr (7, [.ref p0r, .int x_p0_1])), (p0r, .inl (ct 2, 4000, .inr (.inl k_p0r44_5))), (cdg, .inl (ct 1, 4000, .inl k_cdg44_6))] := hD
      exact endq_v hQ hx hb hr hlocks dX0_codeWays_47 (y_cd_444_4, k_p0r44_5, k_cdg44_6) ⟨(rg_w hp44_7 (by decide)), hp44_8, (show x_cd_4.toInt + 0 ≤ y_cd_444_4.toInt ∧ y_cd_444_4.toInt ≤ x_cd_4.toInt + 2 by have q0 := h_x_cd_4.1; have q1 := h_x_cd_4.2; have q2 := hp44_7.1; have q3 := hp44_7.2; have q4 := hp44_9; omega)⟩ hP hD hS [10, 8, 0, 1, 9, 2, 3, 4, 5, 6, 7, 11, 12, 13] rfl (by decide) rfl (Nat.le_of_ble_eq_true rfl) (Nat.le_of_ble_eq_true rfl)
set_option maxHeartbeats 2000000 in
theorem c_X0_placeGoals (l : Launch) (D : va_G) (ct : Nat → ClassId) (cd : Nat) (cds : Nat) (cdg : Nat) (f0 : Nat) (p0 : Nat) (x_cd_4 : Int32) (g_cdg : Nat → Int32) (p0r : Nat) (x_p0_1 : Int32) (g_p0r : Nat → Int64) (g_cds : Nat → Int32) (h_x_cd_4 : rg x_cd_4 0 4000) (h_g_cdg : Rg g_cdg 4000 (-1) 3001) (h_x_p0_1 : rg x_p0_1 0 4000) : KV (S := (Nat → Int64)) l yX0_placeGoals cX0_placeGoals 2 none 1 20 D ct [.ref cd] [(cd, .inr (0, [.ref cds, .ref cdg, .ref f0, .ref p0, .int x_cd_4])), (cdg, .inl (ct 1, 4000, .inl g_cdg)), (p0, .inr (7, [.ref p0r, .int x_p0_1])), (p0r, .inl (ct 2, 4000, .inr (.inl g_p0r))), (cds, .inl (ct 1, 3002, .inl g_cds))] 0 0 (fun (k_p0r : (Nat → Int64)) => True) (fun (k_p0r : (Nat → Int64)) => [(cd, .inr (0, [.ref cds, .ref cdg, .ref f0, .ref p0, .int x_cd_4])), (cdg, .inl (ct 1, 4000, .inl g_cdg)), (p0, .inr (7, [.ref p0r, .int x_p0_1])), (p0r, .inl (ct 2, 4000, .inr (.inl k_p0r))), (cds, .inl (ct 1, 3002, .inl g_cds))]) := by
  refine KVq_of (by decide) (Nat.le_of_ble_eq_true rfl) (fun p e s m below meth c A Q C0 hA H locs hS hP hD hQ ls hl => ?_)
  obtain ⟨hx, hb, hr, hown, hin, hml, hlocks, hn, hK, hZ, hSK⟩ := C0
  have hl : lv_has ls 2 [(0, .ref cd)] := hl
  refine lv_iconst (v := 0) hx hb dX0_placeGoals_0 (by decide) ?_
  refine lv_istore_n (lv' := [(1, .int 0), (0, .ref cd)]) hx hb dX0_placeGoals_1 rfl hl (by decide) rfl (fun ls hl => ?_)
  have b2 : ∀ (n : Nat) (j2_l1 : Int32) (j2_cp0r : Nat → Int64) (H : Heap) (locs : List Loc) (ls : Array Slot), (rg j2_l1 0 2147483647) → ((2147483647 : Int) - j2_l1.toInt).toNat < n → lv_has ls 2 [(0, .ref cd), (1, .int j2_l1)] → va_P D vwCl [(cd, .inr (0, [.ref cds, .ref cdg, .ref f0, .ref p0, .int x_cd_4])), (cdg, .inl (ct 1, 4000, .inl g_cdg)), (p0, .inr (7, [.ref p0r, .int x_p0_1])), (p0r, .inl (ct 2, 4000, .inr (.inl j2_cp0r))), (cds, .inl (ct 1, 3002, .inl g_cds))] H → va_D A [(cd, .inr (0, [.ref cds, .ref cdg, .ref f0, .ref p0, .int x_cd_4])), (cdg, .inl (ct 1, 4000, .inl g_cdg)), (p0, .inr (7, [.ref p0r, .int x_p0_1])), (p0r, .inl (ct 2, 4000, .inr (.inl j2_cp0r))), (cds, .inl (ct 1, 3002, .inl g_cds))] → va_S A s.heap H locs → W p l e ({ frames := 1, cells := 0, slots := 0, locals := 20 }) s m [.ref cd].toArray below meth c H locs 0 0 Q (F0 m 2 ls []) := by
    intro n
    induction n with
    | zero => intros; rename_i hms _ _ _ _; exact absurd hms (Nat.not_lt_zero _)
    | succ n ih =>
      intro j2_l1 j2_cp0r H locs ls r2_1001 hms hl hP hD hS
      refine lv_iload_n hx hb dX0_placeGoals_2 rfl (lv_at hl 1 rfl) ?_
      refine lv_aload_n hx hb dX0_placeGoals_3 rfl (lv_at hl 0 rfl) ?_
      refine va_get (D := D) (ci := 0) (v := .int x_cd_4) (C := RX0) (T := TX0) (N := 5) hx hb (htX0 hn) (fun _ h => h) hown hK hP 0 rfl rfl 4 (by decide) (hn.get mw_270 rfl) (fun _ h9 => h9) rfl dX0_placeGoals_4 ?_
      refine lv_icmp_ge (tgt := 60) hx hb dX0_placeGoals_7 (by decide) (fun c7_1 => ?_) (fun c7_1 => ?_)
      · have t7_2 := (i_le c7_1)
        exact endq_v hQ hx hb hr hlocks dX0_placeGoals_60 j2_cp0r trivial hP hD hS [0, 1, 2, 3, 4] rfl (by decide) rfl (Nat.le_of_ble_eq_true rfl) (Nat.le_of_ble_eq_true rfl)
      · have t7_2 := (i_nle c7_1)
        have r7_3 : rg j2_l1 0 3999 := rg_ltA t7_2 r2_1001 h_x_cd_4 (by decide)
        have r7_4 : rg x_cd_4 1 4000 := rg_ltB t7_2 r2_1001 h_x_cd_4 (by decide)
        refine lv_aload_n hx hb dX0_placeGoals_10 rfl (lv_at hl 0 rfl) ?_
        refine va_get (D := D) (ci := 0) (v := .ref cdg) (C := RX0) (T := TX0) (N := 5) hx hb (htX0 hn) (fun _ h => h) hown hK hP 0 rfl rfl 1 (by decide) (hn.get mw_267 rfl) (fun _ h9 => h9) rfl dX0_placeGoals_11 ?_
        refine lv_iload_n hx hb dX0_placeGoals_14 rfl (lv_at hl 1 rfl) ?_
        have hi15_1 : vp_in j2_l1 4000 := (in_rg r7_3 (by decide))
        refine va_iald hx hb hK hP 1 1 rfl rfl hi15_1 dX0_placeGoals_15 ?_
        refine lv_topi (fun z15_2 ez15_2 => ?_)
        have r15_3 : rg z15_2 (-1) 3001 := Rg_at h_g_cdg hi15_1 ez15_2
        have b54 : ∀ (j54_cp0r : Nat → Int64) (H : Heap) (locs : List Loc) (ls : Array Slot), lv_has ls 2 [(0, .ref cd), (1, .int j2_l1)] → va_P D vwCl [(cd, .inr (0, [.ref cds, .ref cdg, .ref f0, .ref p0, .int x_cd_4])), (cdg, .inl (ct 1, 4000, .inl g_cdg)), (p0, .inr (7, [.ref p0r, .int x_p0_1])), (p0r, .inl (ct 2, 4000, .inr (.inl j54_cp0r))), (cds, .inl (ct 1, 3002, .inl g_cds))] H → va_D A [(cd, .inr (0, [.ref cds, .ref cdg, .ref f0, .ref p0, .int x_cd_4])), (cdg, .inl (ct 1, 4000, .inl g_cdg)), (p0, .inr (7, [.ref p0r, .int x_p0_1])), (p0r, .inl (ct 2, 4000, .inr (.inl j54_cp0r))), (cds, .inl (ct 1, 3002, .inl g_cds))] → va_S A s.heap H locs → W p l e ({ frames := 1, cells := 0, slots := 0, locals := 20 }) s m [.ref cd].toArray below meth c H locs 0 0 Q (F0 m 54 ls []) := by
          intro j54_cp0r H locs ls  hl hP hD hS
          obtain ⟨x54_1, ex54_1⟩ : ∃ z : Int32, z = j2_l1 + 1 := ⟨_, rfl⟩
          have r54_2 : rg x54_1 1 4000 := rg_add ex54_1 r7_3 (show rg (1 : Int32) 1 1 from rg_l (by decide)) (by decide)
          refine lv_iinc (v := x54_1) (lv' := [(1, .int x54_1), (0, .ref cd)]) hx hb dX0_placeGoals_54 hl (k := 1) rfl (by rw [ex54_1]; rfl) (by decide) rfl (fun ls hl => ?_)
          refine lv_goto (tgt := 2) hx hb dX0_placeGoals_57 (by decide) ?_
          exact ih x54_1 j54_cp0r H locs ls (rg_w r54_2 (by decide)) (show ((2147483647 : Int) - x54_1.toInt).toNat < n by have q0 := r7_3.1; have q1 := r7_3.2; have q2 := r54_2.1; have q3 := r54_2.2; have q4 := (eq_add ex54_1 r7_3 (show rg (1 : Int32) 1 1 from rg_l (by decide)) (by decide)); have q5 := (show rg (1 : Int32) 1 1 from rg_l (by decide)).1; have q6 := (show rg (1 : Int32) 1 1 from rg_l (by decide)).2; have q7 := r7_4.1; have q8 := r7_4.2; have q9 := t7_2; have q10 := hms; omega) (lv_sub hl [1, 0] rfl) hP hD hS
        refine lv_if_lt (tgt := 54) hx hb dX0_placeGoals_16 (by decide) (fun c16_1 => ?_) (fun c16_1 => ?_)
        · have t16_2 := (i_lt c16_1)
          have r16_3 : rg z15_2 (-1) (-1) := rg_ltA t16_2 r15_3 (show rg (0 : Int32) 0 0 from rg_l (by decide)) (by decide)
          exact b54 j2_cp0r H locs ls  (lv_sub hl [0, 1] rfl) hP hD hS
        · have t16_2 := (i_nlt c16_1)
          have r16_3 : rg z15_2 0 3001 := rg_leB t16_2 (show rg (0 : Int32) 0 0 from rg_l (by decide)) r15_3 (by decide)
          refine lv_aload_n hx hb dX0_placeGoals_19 rfl (lv_at hl 0 rfl) ?_
          refine va_get (D := D) (ci := 0) (v := .ref p0) (C := RX0) (T := TX0) (N := 5) hx hb (htX0 hn) (fun _ h => h) hown hK hP 0 rfl rfl 3 (by decide) (hn.get mw_269 rfl) (fun _ h9 => h9) rfl dX0_placeGoals_20 ?_
          refine va_getN (D := D) (ci := 7) (v := .ref p0r) (C := RX7) (T := TX7) (N := 2) hx hb (htX7 hn) (fun _ h => h) hown hK hP 2 rfl rfl 0 (by decide) (hn.get mw_224 rfl) (fun _ h9 => h9) rfl dX0_placeGoals_23 ?_
          refine lv_iload_n hx hb dX0_placeGoals_26 rfl (lv_at hl 1 rfl) ?_
          refine lv_dup2_11 hx hb dX0_placeGoals_27 rfl rfl ?_
          have hi28_1 : vp_in j2_l1 4000 := (in_rg r7_3 (by decide))
          refine va_lald hx hb hK hP 3 2 rfl rfl hi28_1 dX0_placeGoals_28 ?_
          refine lv_topl (fun z28_2 ez28_2 => ?_)
          refine lv_aload_n hx hb dX0_placeGoals_29 rfl (lv_at hl 0 rfl) ?_
          refine va_get (D := D) (ci := 0) (v := .ref cds) (C := RX0) (T := TX0) (N := 5) hx hb (htX0 hn) (fun _ h => h) hown hK hP 0 rfl rfl 0 (by decide) (hn.get mw_266 rfl) (fun _ h9 => h9) rfl dX0_placeGoals_30 ?_
          refine lv_aload_n hx hb dX0_placeGoals_33 rfl (lv_at hl 0 rfl) ?_
          refine va_get (D := D) (ci := 0) (v := .ref cdg) (C := RX0) (T := TX0) (N := 5) hx hb (htX0 hn) (fun _ h => h) hown hK hP 0 rfl rfl 1 (by decide) (hn.get mw_267 rfl) (fun _ h9 => h9) rfl dX0_placeGoals_34 ?_
          refine lv_iload_n hx hb dX0_placeGoals_37 rfl (lv_at hl 1 rfl) ?_
          have hi38_1 : vp_in j2_l1 4000 := (in_rg r7_3 (by decide))
          refine va_iald hx hb hK hP 1 1 rfl rfl hi38_1 dX0_placeGoals_38 ?_
          refine lv_topi (fun z38_2 ez38_2 => ?_)
          have r38_3 : rg z38_2 (-1) 3001 := Rg_at h_g_cdg hi38_1 ez38_2
          have hi39_1 : vp_in z38_2 3002 := (in_of (show 0 ≤ z38_2.toInt ∧ z38_2.toInt < 3002 by have q0 := r38_3.1; have q1 := r38_3.2; have q2 := (congrArg Int32.toInt ez38_2); have q3 := (rg_any (g_cdg j2_l1.toNatClampNeg)).1; have q4 := (rg_any (g_cdg j2_l1.toNatClampNeg)).2; have q5 := r16_3.1; have q6 := r16_3.2; have q7 := (congrArg Int32.toInt ez15_2); have q8 := (show rg (0 : Int32) 0 0 from rg_l (by decide)).1; have q9 := (show rg (0 : Int32) 0 0 from rg_l (by decide)).2; have q10 := t16_2; omega))
          refine va_iald hx hb hK hP 4 1 rfl rfl hi39_1 dX0_placeGoals_39 ?_
          refine lv_topi (fun z39_2 ez39_2 => ?_)
          refine lv_iload_n hx hb dX0_placeGoals_40 rfl (lv_at hl 1 rfl) ?_
          refine lv_isub hx hb dX0_placeGoals_41 ?_
          refine lv_topi (fun z41_1 ez41_1 => ?_)
          refine lv_iconst (v := 1) hx hb dX0_placeGoals_42 (by decide) ?_
          refine lv_isub hx hb dX0_placeGoals_43 ?_
          refine lv_topi (fun z43_1 ez43_1 => ?_)
          refine lv_i2l hx hb dX0_placeGoals_44 rfl ?_
          refine lv_topl (fun z44_1 ez44_1 => ?_)
          have r44_2 : rl z44_1 (-2147483648) 2147483647 := rl_i2l ez44_1 (rg_any z43_1)
          refine lv_ldc2 (v := 65535) hx hb hown (hn.get mw_912 rfl) dX0_placeGoals_45 ?_
          refine lv_land hx hb dX0_placeGoals_48 ?_
          refine lv_topl (fun z48_1 ez48_1 => ?_)
          have r48_2 : rl z48_1 0 65535 := rgL_andr ez48_1 (show rl (65535 : Int64) 65535 65535 from rl_l (by decide)) (by decide)
          refine lv_bipush (v := 16) hx hb dX0_placeGoals_49 (by decide) ?_
          refine lv_lshl hx hb dX0_placeGoals_51 rfl ?_
          refine lv_topl (fun z51_1 ez51_1 => ?_)
          refine lv_lor hx hb dX0_placeGoals_52 ?_
          refine lv_topl (fun z52_1 ez52_1 => ?_)
          have hi53_1 : vp_in j2_l1 4000 := (in_rg r7_3 (by decide))
          refine va_last hx hb hK hP hD hS 3 2 rfl rfl hi53_1 dX0_placeGoals_53 (fun H locs hP hD hS => ?_)
          have hP : va_P D vwCl [(cd, .inr (0, [.ref cds, .ref cdg, .ref f0, .ref p0, .int x_cd_4])), (cdg, .inl (ct 1, 4000, .inl g_cdg)), (p0, .inr (7, [.ref p0r, .int x_p0_1])), (p0r, .inl (ct 2, 4000, .inr (.inl (vp_updL j2_cp0r j2_l1.toNatClampNeg z52_1)))), (cds, .inl (ct 1, 3002, .inl g_cds))] _ := hP
          have hD : va_D A [(cd, .inr (0, [.ref cds, .ref cdg, .ref f0, .ref p0, .int x_cd_4])), (cdg, .inl (ct 1, 4000, .inl g_cdg)), (p0, .inr (7, [.ref p0r, .int x_p0_1])), (p0r, .inl (ct 2, 4000, .inr (.inl (vp_updL j2_cp0r j2_l1.toNatClampNeg z52_1)))), (cds, .inl (ct 1, 3002, .inl g_cds))] := hD
          obtain ⟨f53_2, ef53_2⟩ : ∃ z, z = (vp_updL j2_cp0r j2_l1.toNatClampNeg z52_1) := ⟨_, rfl⟩
          rw [← ef53_2] at hP hD
          exact b54 f53_2 H locs ls  (lv_sub hl [0, 1] rfl) hP hD hS
  exact b2 _ (0 : Int32) g_p0r H locs ls (rg_w (show rg (0 : Int32) 0 0 from rg_l (by decide)) (by decide)) (Nat.lt_succ_self _) (lv_sub hl [1, 0] rfl) hP hD hS
set_option maxHeartbeats 2000000 in
theorem c_X0_code (l : Launch) (D : va_G) (ct : Nat → ClassId) (cd : Nat) (f0 : Nat) (p0 : Nat) (cds : Nat) (cdg : Nat) (fx : Nat) (px : Nat) (x_cd_4 : Int32) (f00 : Nat) (f01 : Nat) (f02 : Nat) (x_f0_3 : Int32) (f04 : Nat) (f05 : Nat) (f06 : Nat) (f07 : Nat) (f08 : Nat) (f09 : Nat) (f010 : Nat) (x_f0_11 : Int32) (x_f0_12 : Int32) (f013 : Nat) (x_f0_14 : Int32) (f015 : Nat) (x_f0_16 : Int32) (f017 : Nat) (g_f08 : Nat → Int32) (g_f09 : Nat → Int32) (p0r : Nat) (x_p0_1 : Int32) (g_p0r : Nat → Int64) (g_cdg : Nat → Int32) (g_cds : Nat → Int32) (g_f010 : Nat → Int32) (g_f04 : Nat → Int32) (g_f05 : Nat → Int32) (g_f00 : Nat → Int32) (g_f01 : Nat → Int32) (g_f02 : Nat → Int32) (g_f06 : Nat → Int32) (g_f07 : Nat → Int32) (h_x_f0_3 : rg x_f0_3 0 7000) (h_x_f0_11 : rg x_f0_11 0 3000) (h_x_f0_12 : rg x_f0_12 0 3000) (h_x_f0_14 : rg x_f0_14 2 5000) (h_x_f0_16 : rg x_f0_16 0 6) (h_x_p0_1 : rg x_p0_1 0 4000) (h_g_cdg : Rg g_cdg 4000 (-1) 3001) (h_g_f010 : Rg g_f010 3000 0 1) (h_g_f04 : Rg g_f04 3000 0 7000) (h_g_f05 : Rg g_f05 3000 0 7000) (h_g_f00 : Rg g_f00 7000 0 8) (h_g_f06 : Rg g_f06 3000 0 7000) (h_g_f07 : Rg g_f07 3000 (-1) 13) (hg0 : RgP g_f08 x_f0_11.toInt 0 3001) (hg1 : RgP g_f09 x_f0_11.toInt 0 3001) : KI (S := Int32 × Int32 × (Nat → Int64) × (Nat → Int32) × (Nat → Int32)) l yX0_code cX0_code 4 (some .int) 7 160 D ct [.ref cd, .ref f0, .ref p0] [(cd, .inr (0, [.ref cds, .ref cdg, .ref fx, .ref px, .int x_cd_4])), (f0, .inr (2, [.ref f00, .ref f01, .ref f02, .int x_f0_3, .ref f04, .ref f05, .ref f06, .ref f07, .ref f08, .ref f09, .ref f010, .int x_f0_11, .int x_f0_12, .ref f013, .int x_f0_14, .ref f015, .int x_f0_16, .ref f017])), (f08, .inl (ct 1, 3000, .inl g_f08)), (f09, .inl (ct 1, 3000, .inl g_f09)), (p0, .inr (7, [.ref p0r, .int x_p0_1])), (p0r, .inl (ct 2, 4000, .inr (.inl g_p0r))), (cdg, .inl (ct 1, 4000, .inl g_cdg)), (cds, .inl (ct 1, 3002, .inl g_cds)), (f010, .inl (ct 3, 3000, .inl g_f010)), (f04, .inl (ct 1, 3000, .inl g_f04)), (f05, .inl (ct 1, 3000, .inl g_f05)), (f00, .inl (ct 1, 7000, .inl g_f00)), (f01, .inl (ct 1, 7000, .inl g_f01)), (f02, .inl (ct 1, 7000, .inl g_f02)), (f06, .inl (ct 1, 3000, .inl g_f06)), (f07, .inl (ct 1, 3000, .inl g_f07))] 0 0 (fun (r : Int32) (u : Int32 × Int32 × (Nat → Int64) × (Nat → Int32) × (Nat → Int32)) => match u with | (y_cd_4, y_p0_1, k_p0r, k_cdg, k_cds) => rg r (-1) 4000 ∧ rg y_cd_4 1 1200000001 ∧ rg y_p0_1 0 4000 ∧ Rg k_cdg 4000 (-1) 3001) (fun (u : Int32 × Int32 × (Nat → Int64) × (Nat → Int32) × (Nat → Int32)) => match u with | (y_cd_4, y_p0_1, k_p0r, k_cdg, k_cds) => [(cd, .inr (0, [.ref cds, .ref cdg, .ref f0, .ref p0, .int y_cd_4])), (f0, .inr (2, [.ref f00, .ref f01, .ref f02, .int x_f0_3, .ref f04, .ref f05, .ref f06, .ref f07, .ref f08, .ref f09, .ref f010, .int x_f0_11, .int x_f0_12, .ref f013, .int x_f0_14, .ref f015, .int x_f0_16, .ref f017])), (f08, .inl (ct 1, 3000, .inl g_f08)), (f09, .inl (ct 1, 3000, .inl g_f09)), (p0, .inr (7, [.ref p0r, .int y_p0_1])), (p0r, .inl (ct 2, 4000, .inr (.inl k_p0r))), (cdg, .inl (ct 1, 4000, .inl k_cdg)), (cds, .inl (ct 1, 3002, .inl k_cds)), (f010, .inl (ct 3, 3000, .inl g_f010)), (f04, .inl (ct 1, 3000, .inl g_f04)), (f05, .inl (ct 1, 3000, .inl g_f05)), (f00, .inl (ct 1, 7000, .inl g_f00)), (f01, .inl (ct 1, 7000, .inl g_f01)), (f02, .inl (ct 1, 7000, .inl g_f02)), (f06, .inl (ct 1, 3000, .inl g_f06)), (f07, .inl (ct 1, 3000, .inl g_f07))]) := by
  refine KIq_of (by decide) (Nat.le_of_ble_eq_true rfl) (fun p e s m below meth c A Q C0 hA H locs hS hP hD hQ ls hl => ?_)
  obtain ⟨hx, hb, hr, hown, hin, hml, hlocks, hn, hK, hZ, hSK⟩ := C0
  have hl : lv_has ls 4 [(0, .ref cd), (1, .ref f0), (2, .ref p0)] := hl
  refine lv_aload_n hx hb dX0_code_0 rfl (lv_at hl 0 rfl) ?_
  refine lv_aload_n hx hb dX0_code_1 rfl (lv_at hl 1 rfl) ?_
  refine va_put (D := D) (ci := 0) (v := .ref f0) (ty := .object "FilterForge$Filter") (C := RX0) (T := TX0) (N := 5) hx hb (htX0 hn) (fun _ h => h) tyX0 tyX0_ok nmX0 hown hK hP hD hS 0 rfl rfl 2 (by decide) (hn.get mw_268 rfl) (fun _ h9 => h9) rfl (by decide +kernel) rfl rfl (Nat.le_of_ble_eq_true rfl) dX0_code_2 (fun H locs hP hD hS => ?_)
  have hP : va_P D vwCl [(cd, .inr (0, [.ref cds, .ref cdg, .ref f0, .ref px, .int x_cd_4])), (f0, .inr (2, [.ref f00, .ref f01, .ref f02, .int x_f0_3, .ref f04, .ref f05, .ref f06, .ref f07, .ref f08, .ref f09, .ref f010, .int x_f0_11, .int x_f0_12, .ref f013, .int x_f0_14, .ref f015, .int x_f0_16, .ref f017])), (f08, .inl (ct 1, 3000, .inl g_f08)), (f09, .inl (ct 1, 3000, .inl g_f09)), (p0, .inr (7, [.ref p0r, .int x_p0_1])), (p0r, .inl (ct 2, 4000, .inr (.inl g_p0r))), (cdg, .inl (ct 1, 4000, .inl g_cdg)), (cds, .inl (ct 1, 3002, .inl g_cds)), (f010, .inl (ct 3, 3000, .inl g_f010)), (f04, .inl (ct 1, 3000, .inl g_f04)), (f05, .inl (ct 1, 3000, .inl g_f05)), (f00, .inl (ct 1, 7000, .inl g_f00)), (f01, .inl (ct 1, 7000, .inl g_f01)), (f02, .inl (ct 1, 7000, .inl g_f02)), (f06, .inl (ct 1, 3000, .inl g_f06)), (f07, .inl (ct 1, 3000, .inl g_f07))] _ := hP
  have hD : va_D A [(cd, .inr (0, [.ref cds, .ref cdg, .ref f0, .ref px, .int x_cd_4])), (f0, .inr (2, [.ref f00, .ref f01, .ref f02, .int x_f0_3, .ref f04, .ref f05, .ref f06, .ref f07, .ref f08, .ref f09, .ref f010, .int x_f0_11, .int x_f0_12, .ref f013, .int x_f0_14, .ref f015, .int x_f0_16, .ref f017])), (f08, .inl (ct 1, 3000, .inl g_f08)), (f09, .inl (ct 1, 3000, .inl g_f09)), (p0, .inr (7, [.ref p0r, .int x_p0_1])), (p0r, .inl (ct 2, 4000, .inr (.inl g_p0r))), (cdg, .inl (ct 1, 4000, .inl g_cdg)), (cds, .inl (ct 1, 3002, .inl g_cds)), (f010, .inl (ct 3, 3000, .inl g_f010)), (f04, .inl (ct 1, 3000, .inl g_f04)), (f05, .inl (ct 1, 3000, .inl g_f05)), (f00, .inl (ct 1, 7000, .inl g_f00)), (f01, .inl (ct 1, 7000, .inl g_f01)), (f02, .inl (ct 1, 7000, .inl g_f02)), (f06, .inl (ct 1, 3000, .inl g_f06)), (f07, .inl (ct 1, 3000, .inl g_f07))] := hD
  refine lv_aload_n hx hb dX0_code_5 rfl (lv_at hl 0 rfl) ?_
  refine lv_aload_n hx hb dX0_code_6 rfl (lv_at hl 2 rfl) ?_
  refine va_put (D := D) (ci := 0) (v := .ref p0) (ty := .object "FilterForge$Program") (C := RX0) (T := TX0) (N := 5) hx hb (htX0 hn) (fun _ h => h) tyX0 tyX0_ok nmX0 hown hK hP hD hS 0 rfl rfl 3 (by decide) (hn.get mw_269 rfl) (fun _ h9 => h9) rfl (by decide +kernel) rfl rfl (Nat.le_of_ble_eq_true rfl) dX0_code_7 (fun H locs hP hD hS => ?_)
  have hP : va_P D vwCl [(cd, .inr (0, [.ref cds, .ref cdg, .ref f0, .ref p0, .int x_cd_4])), (f0, .inr (2, [.ref f00, .ref f01, .ref f02, .int x_f0_3, .ref f04, .ref f05, .ref f06, .ref f07, .ref f08, .ref f09, .ref f010, .int x_f0_11, .int x_f0_12, .ref f013, .int x_f0_14, .ref f015, .int x_f0_16, .ref f017])), (f08, .inl (ct 1, 3000, .inl g_f08)), (f09, .inl (ct 1, 3000, .inl g_f09)), (p0, .inr (7, [.ref p0r, .int x_p0_1])), (p0r, .inl (ct 2, 4000, .inr (.inl g_p0r))), (cdg, .inl (ct 1, 4000, .inl g_cdg)), (cds, .inl (ct 1, 3002, .inl g_cds)), (f010, .inl (ct 3, 3000, .inl g_f010)), (f04, .inl (ct 1, 3000, .inl g_f04)), (f05, .inl (ct 1, 3000, .inl g_f05)), (f00, .inl (ct 1, 7000, .inl g_f00)), (f01, .inl (ct 1, 7000, .inl g_f01)), (f02, .inl (ct 1, 7000, .inl g_f02)), (f06, .inl (ct 1, 3000, .inl g_f06)), (f07, .inl (ct 1, 3000, .inl g_f07))] _ := hP
  have hD : va_D A [(cd, .inr (0, [.ref cds, .ref cdg, .ref f0, .ref p0, .int x_cd_4])), (f0, .inr (2, [.ref f00, .ref f01, .ref f02, .int x_f0_3, .ref f04, .ref f05, .ref f06, .ref f07, .ref f08, .ref f09, .ref f010, .int x_f0_11, .int x_f0_12, .ref f013, .int x_f0_14, .ref f015, .int x_f0_16, .ref f017])), (f08, .inl (ct 1, 3000, .inl g_f08)), (f09, .inl (ct 1, 3000, .inl g_f09)), (p0, .inr (7, [.ref p0r, .int x_p0_1])), (p0r, .inl (ct 2, 4000, .inr (.inl g_p0r))), (cdg, .inl (ct 1, 4000, .inl g_cdg)), (cds, .inl (ct 1, 3002, .inl g_cds)), (f010, .inl (ct 3, 3000, .inl g_f010)), (f04, .inl (ct 1, 3000, .inl g_f04)), (f05, .inl (ct 1, 3000, .inl g_f05)), (f00, .inl (ct 1, 7000, .inl g_f00)), (f01, .inl (ct 1, 7000, .inl g_f01)), (f02, .inl (ct 1, 7000, .inl g_f02)), (f06, .inl (ct 1, 3000, .inl g_f06)), (f07, .inl (ct 1, 3000, .inl g_f07))] := hD
  refine lv_aload_n hx hb dX0_code_10 rfl (lv_at hl 0 rfl) ?_
  refine lv_iconst (v := 0) hx hb dX0_code_11 (by decide) ?_
  refine va_put (D := D) (ci := 0) (v := .int 0) (ty := .int) (C := RX0) (T := TX0) (N := 5) hx hb (htX0 hn) (fun _ h => h) tyX0 tyX0_ok nmX0 hown hK hP hD hS 0 rfl rfl 4 (by decide) (hn.get mw_270 rfl) (fun _ h9 => h9) rfl (by decide +kernel) rfl rfl (Nat.le_of_ble_eq_true rfl) dX0_code_12 (fun H locs hP hD hS => ?_)
  have hP : va_P D vwCl [(cd, .inr (0, [.ref cds, .ref cdg, .ref f0, .ref p0, .int 0])), (f0, .inr (2, [.ref f00, .ref f01, .ref f02, .int x_f0_3, .ref f04, .ref f05, .ref f06, .ref f07, .ref f08, .ref f09, .ref f010, .int x_f0_11, .int x_f0_12, .ref f013, .int x_f0_14, .ref f015, .int x_f0_16, .ref f017])), (f08, .inl (ct 1, 3000, .inl g_f08)), (f09, .inl (ct 1, 3000, .inl g_f09)), (p0, .inr (7, [.ref p0r, .int x_p0_1])), (p0r, .inl (ct 2, 4000, .inr (.inl g_p0r))), (cdg, .inl (ct 1, 4000, .inl g_cdg)), (cds, .inl (ct 1, 3002, .inl g_cds)), (f010, .inl (ct 3, 3000, .inl g_f010)), (f04, .inl (ct 1, 3000, .inl g_f04)), (f05, .inl (ct 1, 3000, .inl g_f05)), (f00, .inl (ct 1, 7000, .inl g_f00)), (f01, .inl (ct 1, 7000, .inl g_f01)), (f02, .inl (ct 1, 7000, .inl g_f02)), (f06, .inl (ct 1, 3000, .inl g_f06)), (f07, .inl (ct 1, 3000, .inl g_f07))] _ := hP
  have hD : va_D A [(cd, .inr (0, [.ref cds, .ref cdg, .ref f0, .ref p0, .int 0])), (f0, .inr (2, [.ref f00, .ref f01, .ref f02, .int x_f0_3, .ref f04, .ref f05, .ref f06, .ref f07, .ref f08, .ref f09, .ref f010, .int x_f0_11, .int x_f0_12, .ref f013, .int x_f0_14, .ref f015, .int x_f0_16, .ref f017])), (f08, .inl (ct 1, 3000, .inl g_f08)), (f09, .inl (ct 1, 3000, .inl g_f09)), (p0, .inr (7, [.ref p0r, .int x_p0_1])), (p0r, .inl (ct 2, 4000, .inr (.inl g_p0r))), (cdg, .inl (ct 1, 4000, .inl g_cdg)), (cds, .inl (ct 1, 3002, .inl g_cds)), (f010, .inl (ct 3, 3000, .inl g_f010)), (f04, .inl (ct 1, 3000, .inl g_f04)), (f05, .inl (ct 1, 3000, .inl g_f05)), (f00, .inl (ct 1, 7000, .inl g_f00)), (f01, .inl (ct 1, 7000, .inl g_f01)), (f02, .inl (ct 1, 7000, .inl g_f02)), (f06, .inl (ct 1, 3000, .inl g_f06)), (f07, .inl (ct 1, 3000, .inl g_f07))] := hD
  refine lv_aload_n hx hb dX0_code_15 rfl (lv_at hl 0 rfl) ?_
  refine lv_sipush (v := 191) hx hb dX0_code_16 (by decide) ?_
  refine lv_bipush (v := 6) hx hb dX0_code_19 (by decide) ?_
  refine lv_iconst (v := 1) hx hb dX0_code_21 (by decide) ?_
  refine lv_iconst (v := 0) hx hb dX0_code_22 (by decide) ?_
  refine lv_iconst (v := 0) hx hb dX0_code_23 (by decide) ?_
  refine go_v (k1 := 0) (n1 := 0) (wr := [(f0, .inr (2, [.ref f00, .ref f01, .ref f02, .int x_f0_3, .ref f04, .ref f05, .ref f06, .ref f07, .ref f08, .ref f09, .ref f010, .int x_f0_11, .int x_f0_12, .ref f013, .int x_f0_14, .ref f015, .int x_f0_16, .ref f017])), (f08, .inl (ct 1, 3000, .inl g_f08)), (f09, .inl (ct 1, 3000, .inl g_f09)), (cds, .inl (ct 1, 3002, .inl g_cds)), (f010, .inl (ct 3, 3000, .inl g_f010)), (f04, .inl (ct 1, 3000, .inl g_f04)), (f05, .inl (ct 1, 3000, .inl g_f05)), (f00, .inl (ct 1, 7000, .inl g_f00)), (f01, .inl (ct 1, 7000, .inl g_f01)), (f02, .inl (ct 1, 7000, .inl g_f02)), (f06, .inl (ct 1, 3000, .inl g_f06)), (f07, .inl (ct 1, 3000, .inl g_f07))]) [0, 4, 5, 6] [1, 2, 3, 7, 8, 9, 10, 11, 12, 13, 14, 15] (rn_V (As := [.int 191, .int 6, .int 1, .int 0, .int 0]) (rest := []) (c_X0_put l D ct cd (191 : Int32) (6 : Int32) (1 : Int32) (0 : Int32) (0 : Int32) cds cdg f0 p0 (0 : Int32) p0r x_p0_1 g_p0r g_cdg (rg_w (show rg (0 : Int32) 0 0 from rg_l (by decide)) (by decide)) h_x_p0_1 h_g_cdg _) (cb_of (n := 5) hn mw_848 mw_9 mw_845 mhX0_put ⟨(Nat.le_of_ble_eq_true rfl), (Nat.le_of_ble_eq_true rfl)⟩) hx hb hml hown hn hK hSK hZ hS mw_847 mw_s75 (ci := 0) (q0 := 0) rfl rfl rfl rfl hl.1 (Nat.le_of_ble_eq_true rfl) dX0_code_24 ⟨(Nat.le_of_ble_eq_true rfl), (Nat.le_of_ble_eq_true rfl)⟩) hP hD hS hA rfl rfl (by decide) (by decide) (by decide) (Nat.le_of_ble_eq_true rfl) (Nat.le_of_ble_eq_true rfl) (fun u24_2 H locs hp24_3 hP hD hS => ?_)
  obtain ⟨y_cd_424_4, k_p0r24_5, k_cdg24_6⟩ := u24_2
  obtain ⟨hp24_7, hp24_8, hp24_9⟩ := hp24_3
  have hp24_7 : rg y_cd_424_4 1 1200000001 := hp24_7
  have hp24_9 : y_cd_424_4.toInt = (0 : Int32).toInt + 1 := hp24_9
  have hP : va_P D vwCl [(f0, .inr (2, [.ref f00, .ref f01, .ref f02, .int x_f0_3, .ref f04, .ref f05, .ref f06, .ref f07, .ref f08, .ref f09, .ref f010, .int x_f0_11, .int x_f0_12, .ref f013, .int x_f0_14, .ref f015, .int x_f0_16, .ref f017])), (f08, .inl (ct 1, 3000, .inl g_f08)), (f09, .inl (ct 1, 3000, .inl g_f09)), (cds, .inl (ct 1, 3002, .inl g_cds)), (f010, .inl (ct 3, 3000, .inl g_f010)), (f04, .inl (ct 1, 3000, .inl g_f04)), (f05, .inl (ct 1, 3000, .inl g_f05)), (f00, .inl (ct 1, 7000, .inl g_f00)), (f01, .inl (ct 1, 7000, .inl g_f01)), (f02, .inl (ct 1, 7000, .inl g_f02)), (f06, .inl (ct 1, 3000, .inl g_f06)), (f07, .inl (ct 1, 3000, .inl g_f07)), (cd, .inr (0, [.ref cds, .ref cdg, .ref f0, .ref p0, .int y_cd_424_4])), (p0, .inr (7, [.ref p0r, .int x_p0_1])), (p0r, .inl (ct 2, 4000, .inr (.inl k_p0r24_5))), (cdg, .inl (ct 1, 4000, .inl k_cdg24_6))] _ := hP
  have hD : va_D A [(f0, .inr (2, [.ref f00, .ref f01, .ref f02, .int x_f0_3, .ref f04, .ref f05, .ref f06, .ref f07, .ref f08, .ref f09, .ref f010, .int x_f0_11, .int x_f0_12, .ref f013, .int x_f0_14, .ref f015, .int x_f0_16, .ref f017])), (f08, .inl (ct 1, 3000, .inl g_f08)), (f09, .inl (ct 1, 3000, .inl g_f09)), (cds, .inl (ct 1, 3002, .inl g_cds)), (f010, .inl (ct 3, 3000, .inl g_f010)), (f04, .inl (ct 1, 3000, .inl g_f04)), (f05, .inl (ct 1, 3000, .inl g_f05)), (f00, .inl (ct 1, 7000, .inl g_f00)), (f01, .inl (ct 1, 7000, .inl g_f01)), (f02, .inl (ct 1, 7000, .inl g_f02)), (f06, .inl (ct 1, 3000, .inl g_f06)), (f07, .inl (ct 1, 3000, .inl g_f07)), (cd, .inr (0, [.ref cds, .ref cdg, .ref f0, .ref p0, .int y_cd_424_4])), (p0, .inr (7, [.ref p0r, .int x_p0_1])), (p0r, .inl (ct 2, 4000, .inr (.inl k_p0r24_5))), (cdg, .inl (ct 1, 4000, .inl k_cdg24_6))] := hD
  refine lv_iconst (v := 0) hx hb dX0_code_27 (by decide) ?_
  refine lv_istore_n (lv' := [(3, .int 0), (0, .ref cd), (1, .ref f0), (2, .ref p0)]) hx hb dX0_code_28 rfl hl (by decide) rfl (fun ls hl => ?_)
  have b29 : ∀ (n : Nat) (j29_l3 : Int32) (j29_ccds : Nat → Int32) (j29_fcd_4 : Int32) (j29_cp0r : Nat → Int64) (j29_ccdg : Nat → Int32) (H : Heap) (locs : List Loc) (ls : Array Slot), (rg j29_l3 0 3000) → (rg j29_fcd_4 1 339000001) → (Rg j29_ccdg 4000 (-1) 3001) → (j29_fcd_4.toInt ≤ 113000 * j29_l3.toInt + 1 ∧ j29_l3.toInt ≤ x_f0_11.toInt) → ((2147483647 : Int) - j29_l3.toInt).toNat < n → lv_has ls 4 [(0, .ref cd), (3, .int j29_l3)] → va_P D vwCl [(f0, .inr (2, [.ref f00, .ref f01, .ref f02, .int x_f0_3, .ref f04, .ref f05, .ref f06, .ref f07, .ref f08, .ref f09, .ref f010, .int x_f0_11, .int x_f0_12, .ref f013, .int x_f0_14, .ref f015, .int x_f0_16, .ref f017])), (f08, .inl (ct 1, 3000, .inl g_f08)), (f09, .inl (ct 1, 3000, .inl g_f09)), (cds, .inl (ct 1, 3002, .inl j29_ccds)), (f010, .inl (ct 3, 3000, .inl g_f010)), (f04, .inl (ct 1, 3000, .inl g_f04)), (f05, .inl (ct 1, 3000, .inl g_f05)), (f00, .inl (ct 1, 7000, .inl g_f00)), (f01, .inl (ct 1, 7000, .inl g_f01)), (f02, .inl (ct 1, 7000, .inl g_f02)), (f06, .inl (ct 1, 3000, .inl g_f06)), (f07, .inl (ct 1, 3000, .inl g_f07)), (cd, .inr (0, [.ref cds, .ref cdg, .ref f0, .ref p0, .int j29_fcd_4])), (p0, .inr (7, [.ref p0r, .int x_p0_1])), (p0r, .inl (ct 2, 4000, .inr (.inl j29_cp0r))), (cdg, .inl (ct 1, 4000, .inl j29_ccdg))] H → va_D A [(f0, .inr (2, [.ref f00, .ref f01, .ref f02, .int x_f0_3, .ref f04, .ref f05, .ref f06, .ref f07, .ref f08, .ref f09, .ref f010, .int x_f0_11, .int x_f0_12, .ref f013, .int x_f0_14, .ref f015, .int x_f0_16, .ref f017])), (f08, .inl (ct 1, 3000, .inl g_f08)), (f09, .inl (ct 1, 3000, .inl g_f09)), (cds, .inl (ct 1, 3002, .inl j29_ccds)), (f010, .inl (ct 3, 3000, .inl g_f010)), (f04, .inl (ct 1, 3000, .inl g_f04)), (f05, .inl (ct 1, 3000, .inl g_f05)), (f00, .inl (ct 1, 7000, .inl g_f00)), (f01, .inl (ct 1, 7000, .inl g_f01)), (f02, .inl (ct 1, 7000, .inl g_f02)), (f06, .inl (ct 1, 3000, .inl g_f06)), (f07, .inl (ct 1, 3000, .inl g_f07)), (cd, .inr (0, [.ref cds, .ref cdg, .ref f0, .ref p0, .int j29_fcd_4])), (p0, .inr (7, [.ref p0r, .int x_p0_1])), (p0r, .inl (ct 2, 4000, .inr (.inl j29_cp0r))), (cdg, .inl (ct 1, 4000, .inl j29_ccdg))] → va_S A s.heap H locs → W p l e ({ frames := 7, cells := 0, slots := 0, locals := 160 }) s m [.ref cd, .ref f0, .ref p0].toArray below meth c H locs 0 0 Q (F0 m 29 ls []) := by
    intro n
    induction n with
    | zero => intros; rename_i hms _ _ _ _; exact absurd hms (Nat.not_lt_zero _)
    | succ n ih =>
      intro j29_l3 j29_ccds j29_fcd_4 j29_cp0r j29_ccdg H locs ls r29_1001 r29_1002 hc29_1003 hi29_1004 hms hl hP hD hS
      refine lv_iload_n hx hb dX0_code_29 rfl (lv_at hl 1 rfl) ?_
      refine lv_aload_n hx hb dX0_code_30 rfl (lv_at hl 0 rfl) ?_
      refine va_get (D := D) (ci := 0) (v := .ref f0) (C := RX0) (T := TX0) (N := 5) hx hb (htX0 hn) (fun _ h => h) hown hK hP 12 rfl rfl 2 (by decide) (hn.get mw_268 rfl) (fun _ h9 => h9) rfl dX0_code_31 ?_
      refine va_getN (D := D) (ci := 2) (v := .int x_f0_11) (C := RX2) (T := TX2) (N := 18) hx hb (htX2 hn) (fun _ h => h) hown hK hP 0 rfl rfl 11 (by decide) (hn.get mw_170 rfl) (fun _ h9 => h9) rfl dX0_code_34 ?_
      refine lv_icmp_ge (tgt := 78) hx hb dX0_code_37 (by decide) (fun c37_1 => ?_) (fun c37_1 => ?_)
      · have t37_2 := (i_le c37_1)
        refine lv_aload_n hx hb dX0_code_78 rfl (lv_at hl 0 rfl) ?_
        refine va_get (D := D) (ci := 0) (v := .ref cds) (C := RX0) (T := TX0) (N := 5) hx hb (htX0 hn) (fun _ h => h) hown hK hP 12 rfl rfl 0 (by decide) (hn.get mw_266 rfl) (fun _ h9 => h9) rfl dX0_code_79 ?_
        refine lv_aload_n hx hb dX0_code_82 rfl (lv_at hl 0 rfl) ?_
        refine va_get (D := D) (ci := 0) (v := .ref f0) (C := RX0) (T := TX0) (N := 5) hx hb (htX0 hn) (fun _ h => h) hown hK hP 12 rfl rfl 2 (by decide) (hn.get mw_268 rfl) (fun _ h9 => h9) rfl dX0_code_83 ?_
        refine va_getN (D := D) (ci := 2) (v := .int x_f0_11) (C := RX2) (T := TX2) (N := 18) hx hb (htX2 hn) (fun _ h => h) hown hK hP 0 rfl rfl 11 (by decide) (hn.get mw_170 rfl) (fun _ h9 => h9) rfl dX0_code_86 ?_
        refine lv_aload_n hx hb dX0_code_89 rfl (lv_at hl 0 rfl) ?_
        refine va_get (D := D) (ci := 0) (v := .int j29_fcd_4) (C := RX0) (T := TX0) (N := 5) hx hb (htX0 hn) (fun _ h => h) hown hK hP 12 rfl rfl 4 (by decide) (hn.get mw_270 rfl) (fun _ h9 => h9) rfl dX0_code_90 ?_
        have hi93_1 : vp_in x_f0_11 3002 := (in_rg h_x_f0_11 (by decide))
        refine va_iast hx hb hK hP hD hS 3 1 rfl rfl hi93_1 dX0_code_93 (fun H locs hP hD hS => ?_)
        have hP : va_P D vwCl [(f0, .inr (2, [.ref f00, .ref f01, .ref f02, .int x_f0_3, .ref f04, .ref f05, .ref f06, .ref f07, .ref f08, .ref f09, .ref f010, .int x_f0_11, .int x_f0_12, .ref f013, .int x_f0_14, .ref f015, .int x_f0_16, .ref f017])), (f08, .inl (ct 1, 3000, .inl g_f08)), (f09, .inl (ct 1, 3000, .inl g_f09)), (cds, .inl (ct 1, 3002, .inl (upd j29_ccds x_f0_11.toNatClampNeg j29_fcd_4))), (f010, .inl (ct 3, 3000, .inl g_f010)), (f04, .inl (ct 1, 3000, .inl g_f04)), (f05, .inl (ct 1, 3000, .inl g_f05)), (f00, .inl (ct 1, 7000, .inl g_f00)), (f01, .inl (ct 1, 7000, .inl g_f01)), (f02, .inl (ct 1, 7000, .inl g_f02)), (f06, .inl (ct 1, 3000, .inl g_f06)), (f07, .inl (ct 1, 3000, .inl g_f07)), (cd, .inr (0, [.ref cds, .ref cdg, .ref f0, .ref p0, .int j29_fcd_4])), (p0, .inr (7, [.ref p0r, .int x_p0_1])), (p0r, .inl (ct 2, 4000, .inr (.inl j29_cp0r))), (cdg, .inl (ct 1, 4000, .inl j29_ccdg))] _ := hP
        have hD : va_D A [(f0, .inr (2, [.ref f00, .ref f01, .ref f02, .int x_f0_3, .ref f04, .ref f05, .ref f06, .ref f07, .ref f08, .ref f09, .ref f010, .int x_f0_11, .int x_f0_12, .ref f013, .int x_f0_14, .ref f015, .int x_f0_16, .ref f017])), (f08, .inl (ct 1, 3000, .inl g_f08)), (f09, .inl (ct 1, 3000, .inl g_f09)), (cds, .inl (ct 1, 3002, .inl (upd j29_ccds x_f0_11.toNatClampNeg j29_fcd_4))), (f010, .inl (ct 3, 3000, .inl g_f010)), (f04, .inl (ct 1, 3000, .inl g_f04)), (f05, .inl (ct 1, 3000, .inl g_f05)), (f00, .inl (ct 1, 7000, .inl g_f00)), (f01, .inl (ct 1, 7000, .inl g_f01)), (f02, .inl (ct 1, 7000, .inl g_f02)), (f06, .inl (ct 1, 3000, .inl g_f06)), (f07, .inl (ct 1, 3000, .inl g_f07)), (cd, .inr (0, [.ref cds, .ref cdg, .ref f0, .ref p0, .int j29_fcd_4])), (p0, .inr (7, [.ref p0r, .int x_p0_1])), (p0r, .inl (ct 2, 4000, .inr (.inl j29_cp0r))), (cdg, .inl (ct 1, 4000, .inl j29_ccdg))] := hD
        obtain ⟨f93_2, ef93_2⟩ : ∃ z, z = (upd j29_ccds x_f0_11.toNatClampNeg j29_fcd_4) := ⟨_, rfl⟩
        rw [← ef93_2] at hP hD
        refine lv_aload_n hx hb dX0_code_94 rfl (lv_at hl 0 rfl) ?_
        refine lv_sipush (v := 180) hx hb dX0_code_95 (by decide) ?_
        refine lv_iconst (v := 0) hx hb dX0_code_98 (by decide) ?_
        refine lv_iconst (v := 0) hx hb dX0_code_99 (by decide) ?_
        refine lv_iconst (v := 0) hx hb dX0_code_100 (by decide) ?_
        refine lv_iconst (v := 1) hx hb dX0_code_101 (by decide) ?_
        refine go_v (k1 := 0) (n1 := 0) (wr := [(f0, .inr (2, [.ref f00, .ref f01, .ref f02, .int x_f0_3, .ref f04, .ref f05, .ref f06, .ref f07, .ref f08, .ref f09, .ref f010, .int x_f0_11, .int x_f0_12, .ref f013, .int x_f0_14, .ref f015, .int x_f0_16, .ref f017])), (f08, .inl (ct 1, 3000, .inl g_f08)), (f09, .inl (ct 1, 3000, .inl g_f09)), (cds, .inl (ct 1, 3002, .inl f93_2)), (f010, .inl (ct 3, 3000, .inl g_f010)), (f04, .inl (ct 1, 3000, .inl g_f04)), (f05, .inl (ct 1, 3000, .inl g_f05)), (f00, .inl (ct 1, 7000, .inl g_f00)), (f01, .inl (ct 1, 7000, .inl g_f01)), (f02, .inl (ct 1, 7000, .inl g_f02)), (f06, .inl (ct 1, 3000, .inl g_f06)), (f07, .inl (ct 1, 3000, .inl g_f07))]) [12, 13, 14, 15] [0, 1, 2, 3, 4, 5, 6, 7, 8, 9, 10, 11] (rn_V (As := [.int 180, .int 0, .int 0, .int 0, .int 1]) (rest := []) (c_X0_put l D ct cd (180 : Int32) (0 : Int32) (0 : Int32) (0 : Int32) (1 : Int32) cds cdg f0 p0 j29_fcd_4 p0r x_p0_1 j29_cp0r j29_ccdg (rg_w r29_1002 (by decide)) h_x_p0_1 hc29_1003 _) (cb_of (n := 5) hn mw_848 mw_9 mw_845 mhX0_put ⟨(Nat.le_of_ble_eq_true rfl), (Nat.le_of_ble_eq_true rfl)⟩) hx hb hml hown hn hK hSK hZ hS mw_847 mw_s75 (ci := 0) (q0 := 0) rfl rfl rfl rfl hl.1 (Nat.le_of_ble_eq_true rfl) dX0_code_102 ⟨(Nat.le_of_ble_eq_true rfl), (Nat.le_of_ble_eq_true rfl)⟩) hP hD hS hA rfl rfl (by decide) (by decide) (by decide) (Nat.le_of_ble_eq_true rfl) (Nat.le_of_ble_eq_true rfl) (fun u102_2 H locs hp102_3 hP hD hS => ?_)
        obtain ⟨y_cd_4102_4, k_p0r102_5, k_cdg102_6⟩ := u102_2
        obtain ⟨hp102_7, hp102_8, hp102_9⟩ := hp102_3
        have hp102_7 : rg y_cd_4102_4 1 1200000001 := hp102_7
        have hp102_9 : y_cd_4102_4.toInt = j29_fcd_4.toInt + 1 := hp102_9
        have hP : va_P D vwCl [(f0, .inr (2, [.ref f00, .ref f01, .ref f02, .int x_f0_3, .ref f04, .ref f05, .ref f06, .ref f07, .ref f08, .ref f09, .ref f010, .int x_f0_11, .int x_f0_12, .ref f013, .int x_f0_14, .ref f015, .int x_f0_16, .ref f017])), (f08, .inl (ct 1, 3000, .inl g_f08)), (f09, .inl (ct 1, 3000, .inl g_f09)), (cds, .inl (ct 1, 3002, .inl f93_2)), (f010, .inl (ct 3, 3000, .inl g_f010)), (f04, .inl (ct 1, 3000, .inl g_f04)), (f05, .inl (ct 1, 3000, .inl g_f05)), (f00, .inl (ct 1, 7000, .inl g_f00)), (f01, .inl (ct 1, 7000, .inl g_f01)), (f02, .inl (ct 1, 7000, .inl g_f02)), (f06, .inl (ct 1, 3000, .inl g_f06)), (f07, .inl (ct 1, 3000, .inl g_f07)), (cd, .inr (0, [.ref cds, .ref cdg, .ref f0, .ref p0, .int y_cd_4102_4])), (p0, .inr (7, [.ref p0r, .int x_p0_1])), (p0r, .inl (ct 2, 4000, .inr (.inl k_p0r102_5))), (cdg, .inl (ct 1, 4000, .inl k_cdg102_6))] _ := hP
        have hD : va_D A [(f0, .inr (2, [.ref f00, .ref f01, .ref f02, .int x_f0_3, .ref f04, .ref f05, .ref f06, .ref f07, .ref f08, .ref f09, .ref f010, .int x_f0_11, .int x_f0_12, .ref f013, .int x_f0_14, .ref f015, .int x_f0_16, .ref f017])), (f08, .inl (ct 1, 3000, .inl g_f08)), (f09, .inl (ct 1, 3000, .inl g_f09)), (cds, .inl (ct 1, 3002, .inl f93_2)), (f010, .inl (ct 3, 3000, .inl g_f010)), (f04, .inl (ct 1, 3000, .inl g_f04)), (f05, .inl (ct 1, 3000, .inl g_f05)), (f00, .inl (ct 1, 7000, .inl g_f00)), (f01, .inl (ct 1, 7000, .inl g_f01)), (f02, .inl (ct 1, 7000, .inl g_f02)), (f06, .inl (ct 1, 3000, .inl g_f06)), (f07, .inl (ct 1, 3000, .inl g_f07)), (cd, .inr (0, [.ref cds, .ref cdg, .ref f0, .ref p0, .int y_cd_4102_4])), (p0, .inr (7, [.ref p0r, .int x_p0_1])), (p0r, .inl (ct 2, 4000, .inr (.inl k_p0r102_5))), (cdg, .inl (ct 1, 4000, .inl k_cdg102_6))] := hD
        refine lv_aload_n hx hb dX0_code_105 rfl (lv_at hl 0 rfl) ?_
        refine lv_sipush (v := 149) hx hb dX0_code_106 (by decide) ?_
        refine lv_iconst (v := 0) hx hb dX0_code_109 (by decide) ?_
        refine lv_iconst (v := 0) hx hb dX0_code_110 (by decide) ?_
        refine lv_iconst (v := 0) hx hb dX0_code_111 (by decide) ?_
        refine lv_iconst (v := 0) hx hb dX0_code_112 (by decide) ?_
        refine go_v (k1 := 0) (n1 := 0) (wr := [(f0, .inr (2, [.ref f00, .ref f01, .ref f02, .int x_f0_3, .ref f04, .ref f05, .ref f06, .ref f07, .ref f08, .ref f09, .ref f010, .int x_f0_11, .int x_f0_12, .ref f013, .int x_f0_14, .ref f015, .int x_f0_16, .ref f017])), (f08, .inl (ct 1, 3000, .inl g_f08)), (f09, .inl (ct 1, 3000, .inl g_f09)), (cds, .inl (ct 1, 3002, .inl f93_2)), (f010, .inl (ct 3, 3000, .inl g_f010)), (f04, .inl (ct 1, 3000, .inl g_f04)), (f05, .inl (ct 1, 3000, .inl g_f05)), (f00, .inl (ct 1, 7000, .inl g_f00)), (f01, .inl (ct 1, 7000, .inl g_f01)), (f02, .inl (ct 1, 7000, .inl g_f02)), (f06, .inl (ct 1, 3000, .inl g_f06)), (f07, .inl (ct 1, 3000, .inl g_f07))]) [12, 13, 14, 15] [0, 1, 2, 3, 4, 5, 6, 7, 8, 9, 10, 11] (rn_V (As := [.int 149, .int 0, .int 0, .int 0, .int 0]) (rest := []) (c_X0_put l D ct cd (149 : Int32) (0 : Int32) (0 : Int32) (0 : Int32) (0 : Int32) cds cdg f0 p0 y_cd_4102_4 p0r x_p0_1 k_p0r102_5 k_cdg102_6 (rg_of (show 0 ≤ y_cd_4102_4.toInt ∧ y_cd_4102_4.toInt ≤ 1200000000 by have q0 := hp102_7.1; have q1 := hp102_7.2; have q2 := r29_1002.1; have q3 := r29_1002.2; have q4 := h_x_f0_11.1; have q5 := h_x_f0_11.2; have q6 := r29_1001.1; have q7 := r29_1001.2; have q8 := hi29_1004; have q9 := t37_2; have q10 := hp102_9; omega)) h_x_p0_1 hp102_8 _) (cb_of (n := 5) hn mw_848 mw_9 mw_845 mhX0_put ⟨(Nat.le_of_ble_eq_true rfl), (Nat.le_of_ble_eq_true rfl)⟩) hx hb hml hown hn hK hSK hZ hS mw_847 mw_s75 (ci := 0) (q0 := 0) rfl rfl rfl rfl hl.1 (Nat.le_of_ble_eq_true rfl) dX0_code_113 ⟨(Nat.le_of_ble_eq_true rfl), (Nat.le_of_ble_eq_true rfl)⟩) hP hD hS hA rfl rfl (by decide) (by decide) (by decide) (Nat.le_of_ble_eq_true rfl) (Nat.le_of_ble_eq_true rfl) (fun u113_2 H locs hp113_3 hP hD hS => ?_)
        obtain ⟨y_cd_4113_4, k_p0r113_5, k_cdg113_6⟩ := u113_2
        obtain ⟨hp113_7, hp113_8, hp113_9⟩ := hp113_3
        have hp113_7 : rg y_cd_4113_4 1 1200000001 := hp113_7
        have hp113_9 : y_cd_4113_4.toInt = y_cd_4102_4.toInt + 1 := hp113_9
        have hP : va_P D vwCl [(f0, .inr (2, [.ref f00, .ref f01, .ref f02, .int x_f0_3, .ref f04, .ref f05, .ref f06, .ref f07, .ref f08, .ref f09, .ref f010, .int x_f0_11, .int x_f0_12, .ref f013, .int x_f0_14, .ref f015, .int x_f0_16, .ref f017])), (f08, .inl (ct 1, 3000, .inl g_f08)), (f09, .inl (ct 1, 3000, .inl g_f09)), (cds, .inl (ct 1, 3002, .inl f93_2)), (f010, .inl (ct 3, 3000, .inl g_f010)), (f04, .inl (ct 1, 3000, .inl g_f04)), (f05, .inl (ct 1, 3000, .inl g_f05)), (f00, .inl (ct 1, 7000, .inl g_f00)), (f01, .inl (ct 1, 7000, .inl g_f01)), (f02, .inl (ct 1, 7000, .inl g_f02)), (f06, .inl (ct 1, 3000, .inl g_f06)), (f07, .inl (ct 1, 3000, .inl g_f07)), (cd, .inr (0, [.ref cds, .ref cdg, .ref f0, .ref p0, .int y_cd_4113_4])), (p0, .inr (7, [.ref p0r, .int x_p0_1])), (p0r, .inl (ct 2, 4000, .inr (.inl k_p0r113_5))), (cdg, .inl (ct 1, 4000, .inl k_cdg113_6))] _ := hP
        have hD : va_D A [(f0, .inr (2, [.ref f00, .ref f01, .ref f02, .int x_f0_3, .ref f04, .ref f05, .ref f06, .ref f07, .ref f08, .ref f09, .ref f010, .int x_f0_11, .int x_f0_12, .ref f013, .int x_f0_14, .ref f015, .int x_f0_16, .ref f017])), (f08, .inl (ct 1, 3000, .inl g_f08)), (f09, .inl (ct 1, 3000, .inl g_f09)), (cds, .inl (ct 1, 3002, .inl f93_2)), (f010, .inl (ct 3, 3000, .inl g_f010)), (f04, .inl (ct 1, 3000, .inl g_f04)), (f05, .inl (ct 1, 3000, .inl g_f05)), (f00, .inl (ct 1, 7000, .inl g_f00)), (f01, .inl (ct 1, 7000, .inl g_f01)), (f02, .inl (ct 1, 7000, .inl g_f02)), (f06, .inl (ct 1, 3000, .inl g_f06)), (f07, .inl (ct 1, 3000, .inl g_f07)), (cd, .inr (0, [.ref cds, .ref cdg, .ref f0, .ref p0, .int y_cd_4113_4])), (p0, .inr (7, [.ref p0r, .int x_p0_1])), (p0r, .inl (ct 2, 4000, .inr (.inl k_p0r113_5))), (cdg, .inl (ct 1, 4000, .inl k_cdg113_6))] := hD
        refine lv_aload_n hx hb dX0_code_116 rfl (lv_at hl 0 rfl) ?_
        refine va_get (D := D) (ci := 0) (v := .ref cds) (C := RX0) (T := TX0) (N := 5) hx hb (htX0 hn) (fun _ h => h) hown hK hP 12 rfl rfl 0 (by decide) (hn.get mw_266 rfl) (fun _ h9 => h9) rfl dX0_code_117 ?_
        refine lv_aload_n hx hb dX0_code_120 rfl (lv_at hl 0 rfl) ?_
        refine va_get (D := D) (ci := 0) (v := .ref f0) (C := RX0) (T := TX0) (N := 5) hx hb (htX0 hn) (fun _ h => h) hown hK hP 12 rfl rfl 2 (by decide) (hn.get mw_268 rfl) (fun _ h9 => h9) rfl dX0_code_121 ?_
        refine va_getN (D := D) (ci := 2) (v := .int x_f0_11) (C := RX2) (T := TX2) (N := 18) hx hb (htX2 hn) (fun _ h => h) hown hK hP 0 rfl rfl 11 (by decide) (hn.get mw_170 rfl) (fun _ h9 => h9) rfl dX0_code_124 ?_
        refine lv_iconst (v := 1) hx hb dX0_code_127 (by decide) ?_
        refine lv_iadd hx hb dX0_code_128 ?_
        refine lv_topi (fun z128_1 ez128_1 => ?_)
        have r128_2 : rg z128_1 1 3001 := rg_add ez128_1 h_x_f0_11 (show rg (1 : Int32) 1 1 from rg_l (by decide)) (by decide)
        refine lv_aload_n hx hb dX0_code_129 rfl (lv_at hl 0 rfl) ?_
        refine va_get (D := D) (ci := 0) (v := .int y_cd_4113_4) (C := RX0) (T := TX0) (N := 5) hx hb (htX0 hn) (fun _ h => h) hown hK hP 12 rfl rfl 4 (by decide) (hn.get mw_270 rfl) (fun _ h9 => h9) rfl dX0_code_130 ?_
        have hi133_1 : vp_in z128_1 3002 := (in_rg r128_2 (by decide))
        refine va_iast hx hb hK hP hD hS 3 1 rfl rfl hi133_1 dX0_code_133 (fun H locs hP hD hS => ?_)
        have hP : va_P D vwCl [(f0, .inr (2, [.ref f00, .ref f01, .ref f02, .int x_f0_3, .ref f04, .ref f05, .ref f06, .ref f07, .ref f08, .ref f09, .ref f010, .int x_f0_11, .int x_f0_12, .ref f013, .int x_f0_14, .ref f015, .int x_f0_16, .ref f017])), (f08, .inl (ct 1, 3000, .inl g_f08)), (f09, .inl (ct 1, 3000, .inl g_f09)), (cds, .inl (ct 1, 3002, .inl (upd f93_2 z128_1.toNatClampNeg y_cd_4113_4))), (f010, .inl (ct 3, 3000, .inl g_f010)), (f04, .inl (ct 1, 3000, .inl g_f04)), (f05, .inl (ct 1, 3000, .inl g_f05)), (f00, .inl (ct 1, 7000, .inl g_f00)), (f01, .inl (ct 1, 7000, .inl g_f01)), (f02, .inl (ct 1, 7000, .inl g_f02)), (f06, .inl (ct 1, 3000, .inl g_f06)), (f07, .inl (ct 1, 3000, .inl g_f07)), (cd, .inr (0, [.ref cds, .ref cdg, .ref f0, .ref p0, .int y_cd_4113_4])), (p0, .inr (7, [.ref p0r, .int x_p0_1])), (p0r, .inl (ct 2, 4000, .inr (.inl k_p0r113_5))), (cdg, .inl (ct 1, 4000, .inl k_cdg113_6))] _ := hP
        have hD : va_D A [(f0, .inr (2, [.ref f00, .ref f01, .ref f02, .int x_f0_3, .ref f04, .ref f05, .ref f06, .ref f07, .ref f08, .ref f09, .ref f010, .int x_f0_11, .int x_f0_12, .ref f013, .int x_f0_14, .ref f015, .int x_f0_16, .ref f017])), (f08, .inl (ct 1, 3000, .inl g_f08)), (f09, .inl (ct 1, 3000, .inl g_f09)), (cds, .inl (ct 1, 3002, .inl (upd f93_2 z128_1.toNatClampNeg y_cd_4113_4))), (f010, .inl (ct 3, 3000, .inl g_f010)), (f04, .inl (ct 1, 3000, .inl g_f04)), (f05, .inl (ct 1, 3000, .inl g_f05)), (f00, .inl (ct 1, 7000, .inl g_f00)), (f01, .inl (ct 1, 7000, .inl g_f01)), (f02, .inl (ct 1, 7000, .inl g_f02)), (f06, .inl (ct 1, 3000, .inl g_f06)), (f07, .inl (ct 1, 3000, .inl g_f07)), (cd, .inr (0, [.ref cds, .ref cdg, .ref f0, .ref p0, .int y_cd_4113_4])), (p0, .inr (7, [.ref p0r, .int x_p0_1])), (p0r, .inl (ct 2, 4000, .inr (.inl k_p0r113_5))), (cdg, .inl (ct 1, 4000, .inl k_cdg113_6))] := hD
        obtain ⟨f133_2, ef133_2⟩ : ∃ z, z = (upd f93_2 z128_1.toNatClampNeg y_cd_4113_4) := ⟨_, rfl⟩
        rw [← ef133_2] at hP hD
        refine lv_aload_n hx hb dX0_code_134 rfl (lv_at hl 0 rfl) ?_
        refine lv_sipush (v := 180) hx hb dX0_code_135 (by decide) ?_
        refine lv_iconst (v := 0) hx hb dX0_code_138 (by decide) ?_
        refine lv_iconst (v := 0) hx hb dX0_code_139 (by decide) ?_
        refine lv_iconst (v := 0) hx hb dX0_code_140 (by decide) ?_
        refine lv_iconst (v := 0) hx hb dX0_code_141 (by decide) ?_
        refine go_v (k1 := 0) (n1 := 0) (wr := [(f0, .inr (2, [.ref f00, .ref f01, .ref f02, .int x_f0_3, .ref f04, .ref f05, .ref f06, .ref f07, .ref f08, .ref f09, .ref f010, .int x_f0_11, .int x_f0_12, .ref f013, .int x_f0_14, .ref f015, .int x_f0_16, .ref f017])), (f08, .inl (ct 1, 3000, .inl g_f08)), (f09, .inl (ct 1, 3000, .inl g_f09)), (cds, .inl (ct 1, 3002, .inl f133_2)), (f010, .inl (ct 3, 3000, .inl g_f010)), (f04, .inl (ct 1, 3000, .inl g_f04)), (f05, .inl (ct 1, 3000, .inl g_f05)), (f00, .inl (ct 1, 7000, .inl g_f00)), (f01, .inl (ct 1, 7000, .inl g_f01)), (f02, .inl (ct 1, 7000, .inl g_f02)), (f06, .inl (ct 1, 3000, .inl g_f06)), (f07, .inl (ct 1, 3000, .inl g_f07))]) [12, 13, 14, 15] [0, 1, 2, 3, 4, 5, 6, 7, 8, 9, 10, 11] (rn_V (As := [.int 180, .int 0, .int 0, .int 0, .int 0]) (rest := []) (c_X0_put l D ct cd (180 : Int32) (0 : Int32) (0 : Int32) (0 : Int32) (0 : Int32) cds cdg f0 p0 y_cd_4113_4 p0r x_p0_1 k_p0r113_5 k_cdg113_6 (rg_of (show 0 ≤ y_cd_4113_4.toInt ∧ y_cd_4113_4.toInt ≤ 1200000000 by have q0 := hp113_7.1; have q1 := hp113_7.2; have q2 := hp102_7.1; have q3 := hp102_7.2; have q4 := r29_1002.1; have q5 := r29_1002.2; have q6 := h_x_f0_11.1; have q7 := h_x_f0_11.2; have q8 := r29_1001.1; have q9 := r29_1001.2; have q10 := hi29_1004; have q11 := t37_2; have q12 := hp102_9; have q13 := hp113_9; omega)) h_x_p0_1 hp113_8 _) (cb_of (n := 5) hn mw_848 mw_9 mw_845 mhX0_put ⟨(Nat.le_of_ble_eq_true rfl), (Nat.le_of_ble_eq_true rfl)⟩) hx hb hml hown hn hK hSK hZ hS mw_847 mw_s75 (ci := 0) (q0 := 0) rfl rfl rfl rfl hl.1 (Nat.le_of_ble_eq_true rfl) dX0_code_142 ⟨(Nat.le_of_ble_eq_true rfl), (Nat.le_of_ble_eq_true rfl)⟩) hP hD hS hA rfl rfl (by decide) (by decide) (by decide) (Nat.le_of_ble_eq_true rfl) (Nat.le_of_ble_eq_true rfl) (fun u142_2 H locs hp142_3 hP hD hS => ?_)
        obtain ⟨y_cd_4142_4, k_p0r142_5, k_cdg142_6⟩ := u142_2
        obtain ⟨hp142_7, hp142_8, hp142_9⟩ := hp142_3
        have hp142_7 : rg y_cd_4142_4 1 1200000001 := hp142_7
        have hp142_9 : y_cd_4142_4.toInt = y_cd_4113_4.toInt + 1 := hp142_9
        have hP : va_P D vwCl [(f0, .inr (2, [.ref f00, .ref f01, .ref f02, .int x_f0_3, .ref f04, .ref f05, .ref f06, .ref f07, .ref f08, .ref f09, .ref f010, .int x_f0_11, .int x_f0_12, .ref f013, .int x_f0_14, .ref f015, .int x_f0_16, .ref f017])), (f08, .inl (ct 1, 3000, .inl g_f08)), (f09, .inl (ct 1, 3000, .inl g_f09)), (cds, .inl (ct 1, 3002, .inl f133_2)), (f010, .inl (ct 3, 3000, .inl g_f010)), (f04, .inl (ct 1, 3000, .inl g_f04)), (f05, .inl (ct 1, 3000, .inl g_f05)), (f00, .inl (ct 1, 7000, .inl g_f00)), (f01, .inl (ct 1, 7000, .inl g_f01)), (f02, .inl (ct 1, 7000, .inl g_f02)), (f06, .inl (ct 1, 3000, .inl g_f06)), (f07, .inl (ct 1, 3000, .inl g_f07)), (cd, .inr (0, [.ref cds, .ref cdg, .ref f0, .ref p0, .int y_cd_4142_4])), (p0, .inr (7, [.ref p0r, .int x_p0_1])), (p0r, .inl (ct 2, 4000, .inr (.inl k_p0r142_5))), (cdg, .inl (ct 1, 4000, .inl k_cdg142_6))] _ := hP
        have hD : va_D A [(f0, .inr (2, [.ref f00, .ref f01, .ref f02, .int x_f0_3, .ref f04, .ref f05, .ref f06, .ref f07, .ref f08, .ref f09, .ref f010, .int x_f0_11, .int x_f0_12, .ref f013, .int x_f0_14, .ref f015, .int x_f0_16, .ref f017])), (f08, .inl (ct 1, 3000, .inl g_f08)), (f09, .inl (ct 1, 3000, .inl g_f09)), (cds, .inl (ct 1, 3002, .inl f133_2)), (f010, .inl (ct 3, 3000, .inl g_f010)), (f04, .inl (ct 1, 3000, .inl g_f04)), (f05, .inl (ct 1, 3000, .inl g_f05)), (f00, .inl (ct 1, 7000, .inl g_f00)), (f01, .inl (ct 1, 7000, .inl g_f01)), (f02, .inl (ct 1, 7000, .inl g_f02)), (f06, .inl (ct 1, 3000, .inl g_f06)), (f07, .inl (ct 1, 3000, .inl g_f07)), (cd, .inr (0, [.ref cds, .ref cdg, .ref f0, .ref p0, .int y_cd_4142_4])), (p0, .inr (7, [.ref p0r, .int x_p0_1])), (p0r, .inl (ct 2, 4000, .inr (.inl k_p0r142_5))), (cdg, .inl (ct 1, 4000, .inl k_cdg142_6))] := hD
        refine lv_aload_n hx hb dX0_code_145 rfl (lv_at hl 0 rfl) ?_
        refine lv_sipush (v := 149) hx hb dX0_code_146 (by decide) ?_
        refine lv_iconst (v := 0) hx hb dX0_code_149 (by decide) ?_
        refine lv_iconst (v := 0) hx hb dX0_code_150 (by decide) ?_
        refine lv_iconst (v := 0) hx hb dX0_code_151 (by decide) ?_
        refine lv_iconst (v := 0) hx hb dX0_code_152 (by decide) ?_
        refine go_v (k1 := 0) (n1 := 0) (wr := [(f0, .inr (2, [.ref f00, .ref f01, .ref f02, .int x_f0_3, .ref f04, .ref f05, .ref f06, .ref f07, .ref f08, .ref f09, .ref f010, .int x_f0_11, .int x_f0_12, .ref f013, .int x_f0_14, .ref f015, .int x_f0_16, .ref f017])), (f08, .inl (ct 1, 3000, .inl g_f08)), (f09, .inl (ct 1, 3000, .inl g_f09)), (cds, .inl (ct 1, 3002, .inl f133_2)), (f010, .inl (ct 3, 3000, .inl g_f010)), (f04, .inl (ct 1, 3000, .inl g_f04)), (f05, .inl (ct 1, 3000, .inl g_f05)), (f00, .inl (ct 1, 7000, .inl g_f00)), (f01, .inl (ct 1, 7000, .inl g_f01)), (f02, .inl (ct 1, 7000, .inl g_f02)), (f06, .inl (ct 1, 3000, .inl g_f06)), (f07, .inl (ct 1, 3000, .inl g_f07))]) [12, 13, 14, 15] [0, 1, 2, 3, 4, 5, 6, 7, 8, 9, 10, 11] (rn_V (As := [.int 149, .int 0, .int 0, .int 0, .int 0]) (rest := []) (c_X0_put l D ct cd (149 : Int32) (0 : Int32) (0 : Int32) (0 : Int32) (0 : Int32) cds cdg f0 p0 y_cd_4142_4 p0r x_p0_1 k_p0r142_5 k_cdg142_6 (rg_of (show 0 ≤ y_cd_4142_4.toInt ∧ y_cd_4142_4.toInt ≤ 1200000000 by have q0 := hp142_7.1; have q1 := hp142_7.2; have q2 := hp113_7.1; have q3 := hp113_7.2; have q4 := hp102_7.1; have q5 := hp102_7.2; have q6 := r29_1002.1; have q7 := r29_1002.2; have q8 := h_x_f0_11.1; have q9 := h_x_f0_11.2; have q10 := r29_1001.1; have q11 := r29_1001.2; have q12 := hi29_1004; have q13 := t37_2; have q14 := hp102_9; have q15 := hp113_9; have q16 := hp142_9; omega)) h_x_p0_1 hp142_8 _) (cb_of (n := 5) hn mw_848 mw_9 mw_845 mhX0_put ⟨(Nat.le_of_ble_eq_true rfl), (Nat.le_of_ble_eq_true rfl)⟩) hx hb hml hown hn hK hSK hZ hS mw_847 mw_s75 (ci := 0) (q0 := 0) rfl rfl rfl rfl hl.1 (Nat.le_of_ble_eq_true rfl) dX0_code_153 ⟨(Nat.le_of_ble_eq_true rfl), (Nat.le_of_ble_eq_true rfl)⟩) hP hD hS hA rfl rfl (by decide) (by decide) (by decide) (Nat.le_of_ble_eq_true rfl) (Nat.le_of_ble_eq_true rfl) (fun u153_2 H locs hp153_3 hP hD hS => ?_)
        obtain ⟨y_cd_4153_4, k_p0r153_5, k_cdg153_6⟩ := u153_2
        obtain ⟨hp153_7, hp153_8, hp153_9⟩ := hp153_3
        have hp153_7 : rg y_cd_4153_4 1 1200000001 := hp153_7
        have hp153_9 : y_cd_4153_4.toInt = y_cd_4142_4.toInt + 1 := hp153_9
        have hP : va_P D vwCl [(f0, .inr (2, [.ref f00, .ref f01, .ref f02, .int x_f0_3, .ref f04, .ref f05, .ref f06, .ref f07, .ref f08, .ref f09, .ref f010, .int x_f0_11, .int x_f0_12, .ref f013, .int x_f0_14, .ref f015, .int x_f0_16, .ref f017])), (f08, .inl (ct 1, 3000, .inl g_f08)), (f09, .inl (ct 1, 3000, .inl g_f09)), (cds, .inl (ct 1, 3002, .inl f133_2)), (f010, .inl (ct 3, 3000, .inl g_f010)), (f04, .inl (ct 1, 3000, .inl g_f04)), (f05, .inl (ct 1, 3000, .inl g_f05)), (f00, .inl (ct 1, 7000, .inl g_f00)), (f01, .inl (ct 1, 7000, .inl g_f01)), (f02, .inl (ct 1, 7000, .inl g_f02)), (f06, .inl (ct 1, 3000, .inl g_f06)), (f07, .inl (ct 1, 3000, .inl g_f07)), (cd, .inr (0, [.ref cds, .ref cdg, .ref f0, .ref p0, .int y_cd_4153_4])), (p0, .inr (7, [.ref p0r, .int x_p0_1])), (p0r, .inl (ct 2, 4000, .inr (.inl k_p0r153_5))), (cdg, .inl (ct 1, 4000, .inl k_cdg153_6))] _ := hP
        have hD : va_D A [(f0, .inr (2, [.ref f00, .ref f01, .ref f02, .int x_f0_3, .ref f04, .ref f05, .ref f06, .ref f07, .ref f08, .ref f09, .ref f010, .int x_f0_11, .int x_f0_12, .ref f013, .int x_f0_14, .ref f015, .int x_f0_16, .ref f017])), (f08, .inl (ct 1, 3000, .inl g_f08)), (f09, .inl (ct 1, 3000, .inl g_f09)), (cds, .inl (ct 1, 3002, .inl f133_2)), (f010, .inl (ct 3, 3000, .inl g_f010)), (f04, .inl (ct 1, 3000, .inl g_f04)), (f05, .inl (ct 1, 3000, .inl g_f05)), (f00, .inl (ct 1, 7000, .inl g_f00)), (f01, .inl (ct 1, 7000, .inl g_f01)), (f02, .inl (ct 1, 7000, .inl g_f02)), (f06, .inl (ct 1, 3000, .inl g_f06)), (f07, .inl (ct 1, 3000, .inl g_f07)), (cd, .inr (0, [.ref cds, .ref cdg, .ref f0, .ref p0, .int y_cd_4153_4])), (p0, .inr (7, [.ref p0r, .int x_p0_1])), (p0r, .inl (ct 2, 4000, .inr (.inl k_p0r153_5))), (cdg, .inl (ct 1, 4000, .inl k_cdg153_6))] := hD
        refine lv_aload_n hx hb dX0_code_156 rfl (lv_at hl 0 rfl) ?_
        refine va_get (D := D) (ci := 0) (v := .int y_cd_4153_4) (C := RX0) (T := TX0) (N := 5) hx hb (htX0 hn) (fun _ h => h) hown hK hP 12 rfl rfl 4 (by decide) (hn.get mw_270 rfl) (fun _ h9 => h9) rfl dX0_code_157 ?_
        refine lv_sipush (v := 4000) hx hb dX0_code_160 (by decide) ?_
        refine lv_icmp_le (tgt := 168) hx hb dX0_code_163 (by decide) (fun c163_1 => ?_) (fun c163_1 => ?_)
        · have t163_2 := (i_le c163_1)
          have r163_3 : rg y_cd_4153_4 1 4000 := rg_leA t163_2 hp153_7 (show rg (4000 : Int32) 4000 4000 from rg_l (by decide)) (by decide)
          refine lv_aload_n hx hb dX0_code_168 rfl (lv_at hl 0 rfl) ?_
          refine go_v (k1 := 0) (n1 := 0) (wr := [(f0, .inr (2, [.ref f00, .ref f01, .ref f02, .int x_f0_3, .ref f04, .ref f05, .ref f06, .ref f07, .ref f08, .ref f09, .ref f010, .int x_f0_11, .int x_f0_12, .ref f013, .int x_f0_14, .ref f015, .int x_f0_16, .ref f017])), (f08, .inl (ct 1, 3000, .inl g_f08)), (f09, .inl (ct 1, 3000, .inl g_f09)), (f010, .inl (ct 3, 3000, .inl g_f010)), (f04, .inl (ct 1, 3000, .inl g_f04)), (f05, .inl (ct 1, 3000, .inl g_f05)), (f00, .inl (ct 1, 7000, .inl g_f00)), (f01, .inl (ct 1, 7000, .inl g_f01)), (f02, .inl (ct 1, 7000, .inl g_f02)), (f06, .inl (ct 1, 3000, .inl g_f06)), (f07, .inl (ct 1, 3000, .inl g_f07))]) [12, 15, 13, 14, 3] [0, 1, 2, 4, 5, 6, 7, 8, 9, 10, 11] (rn_V (As := []) (rest := []) (c_X0_placeGoals l D ct cd cds cdg f0 p0 y_cd_4153_4 k_cdg153_6 p0r x_p0_1 k_p0r153_5 f133_2 (rg_w r163_3 (by decide)) hp153_8 h_x_p0_1 _) (cb_of (n := 0) hn mw_911 mw_9 mw_908 mhX0_placeGoals ⟨(Nat.le_of_ble_eq_true rfl), (Nat.le_of_ble_eq_true rfl)⟩) hx hb hml hown hn hK hSK hZ hS mw_910 mw_s88 (ci := 0) (q0 := 0) rfl rfl rfl rfl hl.1 (Nat.le_of_ble_eq_true rfl) dX0_code_169 ⟨(Nat.le_of_ble_eq_true rfl), (Nat.le_of_ble_eq_true rfl)⟩) hP hD hS hA rfl rfl (by decide) (by decide) (by decide) (Nat.le_of_ble_eq_true rfl) (Nat.le_of_ble_eq_true rfl) (fun u169_2 H locs hp169_3 hP hD hS => ?_)
          have hP : va_P D vwCl [(f0, .inr (2, [.ref f00, .ref f01, .ref f02, .int x_f0_3, .ref f04, .ref f05, .ref f06, .ref f07, .ref f08, .ref f09, .ref f010, .int x_f0_11, .int x_f0_12, .ref f013, .int x_f0_14, .ref f015, .int x_f0_16, .ref f017])), (f08, .inl (ct 1, 3000, .inl g_f08)), (f09, .inl (ct 1, 3000, .inl g_f09)), (f010, .inl (ct 3, 3000, .inl g_f010)), (f04, .inl (ct 1, 3000, .inl g_f04)), (f05, .inl (ct 1, 3000, .inl g_f05)), (f00, .inl (ct 1, 7000, .inl g_f00)), (f01, .inl (ct 1, 7000, .inl g_f01)), (f02, .inl (ct 1, 7000, .inl g_f02)), (f06, .inl (ct 1, 3000, .inl g_f06)), (f07, .inl (ct 1, 3000, .inl g_f07)), (cd, .inr (0, [.ref cds, .ref cdg, .ref f0, .ref p0, .int y_cd_4153_4])), (cdg, .inl (ct 1, 4000, .inl k_cdg153_6)), (p0, .inr (7, [.ref p0r, .int x_p0_1])), (p0r, .inl (ct 2, 4000, .inr (.inl u169_2))), (cds, .inl (ct 1, 3002, .inl f133_2))] _ := hP
          have hD : va_D A [(f0, .inr (2, [.ref f00, .ref f01, .ref f02, .int x_f0_3, .ref f04, .ref f05, .ref f06, .ref f07, .ref f08, .ref f09, .ref f010, .int x_f0_11, .int x_f0_12, .ref f013, .int x_f0_14, .ref f015, .int x_f0_16, .ref f017])), (f08, .inl (ct 1, 3000, .inl g_f08)), (f09, .inl (ct 1, 3000, .inl g_f09)), (f010, .inl (ct 3, 3000, .inl g_f010)), (f04, .inl (ct 1, 3000, .inl g_f04)), (f05, .inl (ct 1, 3000, .inl g_f05)), (f00, .inl (ct 1, 7000, .inl g_f00)), (f01, .inl (ct 1, 7000, .inl g_f01)), (f02, .inl (ct 1, 7000, .inl g_f02)), (f06, .inl (ct 1, 3000, .inl g_f06)), (f07, .inl (ct 1, 3000, .inl g_f07)), (cd, .inr (0, [.ref cds, .ref cdg, .ref f0, .ref p0, .int y_cd_4153_4])), (cdg, .inl (ct 1, 4000, .inl k_cdg153_6)), (p0, .inr (7, [.ref p0r, .int x_p0_1])), (p0r, .inl (ct 2, 4000, .inr (.inl u169_2))), (cds, .inl (ct 1, 3002, .inl f133_2))] := hD
          refine lv_aload_n hx hb dX0_code_172 rfl (lv_at hl 0 rfl) ?_
          refine va_get (D := D) (ci := 0) (v := .ref p0) (C := RX0) (T := TX0) (N := 5) hx hb (htX0 hn) (fun _ h => h) hown hK hP 11 rfl rfl 3 (by decide) (hn.get mw_269 rfl) (fun _ h9 => h9) rfl dX0_code_173 ?_
          refine lv_aload_n hx hb dX0_code_176 rfl (lv_at hl 0 rfl) ?_
          refine va_get (D := D) (ci := 0) (v := .int y_cd_4153_4) (C := RX0) (T := TX0) (N := 5) hx hb (htX0 hn) (fun _ h => h) hown hK hP 11 rfl rfl 4 (by decide) (hn.get mw_270 rfl) (fun _ h9 => h9) rfl dX0_code_177 ?_
          refine va_putN (D := D) (ci := 7) (v := .int y_cd_4153_4) (ty := .int) (C := RX7) (T := TX7) (N := 2) hx hb (htX7 hn) (fun _ h => h) tyX7 tyX7_ok nmX7 hown hK hP hD hS 13 rfl rfl 1 (by decide) (hn.get mw_227 rfl) (fun _ h9 => h9) rfl (by decide +kernel) rfl rfl (Nat.le_of_ble_eq_true rfl) dX0_code_180 (fun H locs hP hD hS => ?_)
          have hP : va_P D vwCl [(f0, .inr (2, [.ref f00, .ref f01, .ref f02, .int x_f0_3, .ref f04, .ref f05, .ref f06, .ref f07, .ref f08, .ref f09, .ref f010, .int x_f0_11, .int x_f0_12, .ref f013, .int x_f0_14, .ref f015, .int x_f0_16, .ref f017])), (f08, .inl (ct 1, 3000, .inl g_f08)), (f09, .inl (ct 1, 3000, .inl g_f09)), (f010, .inl (ct 3, 3000, .inl g_f010)), (f04, .inl (ct 1, 3000, .inl g_f04)), (f05, .inl (ct 1, 3000, .inl g_f05)), (f00, .inl (ct 1, 7000, .inl g_f00)), (f01, .inl (ct 1, 7000, .inl g_f01)), (f02, .inl (ct 1, 7000, .inl g_f02)), (f06, .inl (ct 1, 3000, .inl g_f06)), (f07, .inl (ct 1, 3000, .inl g_f07)), (cd, .inr (0, [.ref cds, .ref cdg, .ref f0, .ref p0, .int y_cd_4153_4])), (cdg, .inl (ct 1, 4000, .inl k_cdg153_6)), (p0, .inr (7, [.ref p0r, .int y_cd_4153_4])), (p0r, .inl (ct 2, 4000, .inr (.inl u169_2))), (cds, .inl (ct 1, 3002, .inl f133_2))] _ := hP
          have hD : va_D A [(f0, .inr (2, [.ref f00, .ref f01, .ref f02, .int x_f0_3, .ref f04, .ref f05, .ref f06, .ref f07, .ref f08, .ref f09, .ref f010, .int x_f0_11, .int x_f0_12, .ref f013, .int x_f0_14, .ref f015, .int x_f0_16, .ref f017])), (f08, .inl (ct 1, 3000, .inl g_f08)), (f09, .inl (ct 1, 3000, .inl g_f09)), (f010, .inl (ct 3, 3000, .inl g_f010)), (f04, .inl (ct 1, 3000, .inl g_f04)), (f05, .inl (ct 1, 3000, .inl g_f05)), (f00, .inl (ct 1, 7000, .inl g_f00)), (f01, .inl (ct 1, 7000, .inl g_f01)), (f02, .inl (ct 1, 7000, .inl g_f02)), (f06, .inl (ct 1, 3000, .inl g_f06)), (f07, .inl (ct 1, 3000, .inl g_f07)), (cd, .inr (0, [.ref cds, .ref cdg, .ref f0, .ref p0, .int y_cd_4153_4])), (cdg, .inl (ct 1, 4000, .inl k_cdg153_6)), (p0, .inr (7, [.ref p0r, .int y_cd_4153_4])), (p0r, .inl (ct 2, 4000, .inr (.inl u169_2))), (cds, .inl (ct 1, 3002, .inl f133_2))] := hD
          refine lv_aload_n hx hb dX0_code_183 rfl (lv_at hl 0 rfl) ?_
          refine va_get (D := D) (ci := 0) (v := .int y_cd_4153_4) (C := RX0) (T := TX0) (N := 5) hx hb (htX0 hn) (fun _ h => h) hown hK hP 11 rfl rfl 4 (by decide) (hn.get mw_270 rfl) (fun _ h9 => h9) rfl dX0_code_184 ?_
          exact endq_i hQ hx hb hr hlocks dX0_code_187 rfl (y_cd_4153_4, y_cd_4153_4, u169_2, k_cdg153_6, f133_2) ⟨(rg_w r163_3 (by decide)), (rg_w r163_3 (by decide)), (rg_w r163_3 (by decide)), hp153_8⟩ hP hD hS [11, 0, 1, 2, 13, 14, 12, 15, 3, 4, 5, 6, 7, 8, 9, 10] rfl (by decide) rfl (Nat.le_of_ble_eq_true rfl) (Nat.le_of_ble_eq_true rfl)
        · have t163_2 := (i_nle c163_1)
          have r163_3 : rg y_cd_4153_4 4001 1200000001 := rg_ltB t163_2 (show rg (4000 : Int32) 4000 4000 from rg_l (by decide)) hp153_7 (by decide)
          refine lv_iconst (v := (-1)) hx hb dX0_code_166 (by decide) ?_
          exact endq_i hQ hx hb hr hlocks dX0_code_167 rfl (y_cd_4153_4, x_p0_1, k_p0r153_5, k_cdg153_6, f133_2) ⟨(rg_w (show rg ((-1) : Int32) (-1) (-1) from rg_l (by decide)) (by decide)), (rg_w r163_3 (by decide)), h_x_p0_1, hp153_8⟩ hP hD hS [12, 0, 1, 2, 13, 14, 15, 3, 4, 5, 6, 7, 8, 9, 10, 11] rfl (by decide) rfl (Nat.le_of_ble_eq_true rfl) (Nat.le_of_ble_eq_true rfl)
      · have t37_2 := (i_nle c37_1)
        have r37_3 : rg j29_l3 0 2999 := rg_ltA t37_2 r29_1001 h_x_f0_11 (by decide)
        have r37_4 : rg x_f0_11 1 3000 := rg_ltB t37_2 r29_1001 h_x_f0_11 (by decide)
        refine lv_aload_n hx hb dX0_code_40 rfl (lv_at hl 0 rfl) ?_
        refine va_get (D := D) (ci := 0) (v := .ref f0) (C := RX0) (T := TX0) (N := 5) hx hb (htX0 hn) (fun _ h => h) hown hK hP 12 rfl rfl 2 (by decide) (hn.get mw_268 rfl) (fun _ h9 => h9) rfl dX0_code_41 ?_
        refine va_getN (D := D) (ci := 2) (v := .ref f010) (C := RX2) (T := TX2) (N := 18) hx hb (htX2 hn) (fun _ h => h) hown hK hP 0 rfl rfl 10 (by decide) (hn.get mw_168 rfl) (fun _ h9 => h9) rfl dX0_code_44 ?_
        refine lv_iload_n hx hb dX0_code_47 rfl (lv_at hl 1 rfl) ?_
        have hi48_1 : vp_in j29_l3 3000 := (in_rg r37_3 (by decide))
        refine va_zald hx hb hK hP 4 3 rfl rfl hi48_1 dX0_code_48 ?_
        refine lv_topi (fun z48_2 ez48_2 => ?_)
        have r48_3 : rg z48_2 0 1 := Rg_at h_g_f010 hi48_1 ez48_2
        have b72 : ∀ (j72_ccds : Nat → Int32) (j72_fcd_4 : Int32) (j72_cp0r : Nat → Int64) (j72_ccdg : Nat → Int32) (H : Heap) (locs : List Loc) (ls : Array Slot), (rg j72_fcd_4 0 1200000001) → (Rg j72_ccdg 4000 (-1) 3001) → (j29_fcd_4.toInt ≤ j72_fcd_4.toInt ∧ j72_fcd_4.toInt ≤ j29_fcd_4.toInt + 112005) → lv_has ls 4 [(0, .ref cd), (3, .int j29_l3)] → va_P D vwCl [(f0, .inr (2, [.ref f00, .ref f01, .ref f02, .int x_f0_3, .ref f04, .ref f05, .ref f06, .ref f07, .ref f08, .ref f09, .ref f010, .int x_f0_11, .int x_f0_12, .ref f013, .int x_f0_14, .ref f015, .int x_f0_16, .ref f017])), (f08, .inl (ct 1, 3000, .inl g_f08)), (f09, .inl (ct 1, 3000, .inl g_f09)), (cds, .inl (ct 1, 3002, .inl j72_ccds)), (f010, .inl (ct 3, 3000, .inl g_f010)), (f04, .inl (ct 1, 3000, .inl g_f04)), (f05, .inl (ct 1, 3000, .inl g_f05)), (f00, .inl (ct 1, 7000, .inl g_f00)), (f01, .inl (ct 1, 7000, .inl g_f01)), (f02, .inl (ct 1, 7000, .inl g_f02)), (f06, .inl (ct 1, 3000, .inl g_f06)), (f07, .inl (ct 1, 3000, .inl g_f07)), (cd, .inr (0, [.ref cds, .ref cdg, .ref f0, .ref p0, .int j72_fcd_4])), (p0, .inr (7, [.ref p0r, .int x_p0_1])), (p0r, .inl (ct 2, 4000, .inr (.inl j72_cp0r))), (cdg, .inl (ct 1, 4000, .inl j72_ccdg))] H → va_D A [(f0, .inr (2, [.ref f00, .ref f01, .ref f02, .int x_f0_3, .ref f04, .ref f05, .ref f06, .ref f07, .ref f08, .ref f09, .ref f010, .int x_f0_11, .int x_f0_12, .ref f013, .int x_f0_14, .ref f015, .int x_f0_16, .ref f017])), (f08, .inl (ct 1, 3000, .inl g_f08)), (f09, .inl (ct 1, 3000, .inl g_f09)), (cds, .inl (ct 1, 3002, .inl j72_ccds)), (f010, .inl (ct 3, 3000, .inl g_f010)), (f04, .inl (ct 1, 3000, .inl g_f04)), (f05, .inl (ct 1, 3000, .inl g_f05)), (f00, .inl (ct 1, 7000, .inl g_f00)), (f01, .inl (ct 1, 7000, .inl g_f01)), (f02, .inl (ct 1, 7000, .inl g_f02)), (f06, .inl (ct 1, 3000, .inl g_f06)), (f07, .inl (ct 1, 3000, .inl g_f07)), (cd, .inr (0, [.ref cds, .ref cdg, .ref f0, .ref p0, .int j72_fcd_4])), (p0, .inr (7, [.ref p0r, .int x_p0_1])), (p0r, .inl (ct 2, 4000, .inr (.inl j72_cp0r))), (cdg, .inl (ct 1, 4000, .inl j72_ccdg))] → va_S A s.heap H locs → W p l e ({ frames := 7, cells := 0, slots := 0, locals := 160 }) s m [.ref cd, .ref f0, .ref p0].toArray below meth c H locs 0 0 Q (F0 m 72 ls []) := by
          intro j72_ccds j72_fcd_4 j72_cp0r j72_ccdg H locs ls r72_1001 hc72_1002 ho72_1003 hl hP hD hS
          obtain ⟨x72_1, ex72_1⟩ : ∃ z : Int32, z = j29_l3 + 1 := ⟨_, rfl⟩
          have r72_2 : rg x72_1 1 3000 := rg_add ex72_1 r37_3 (show rg (1 : Int32) 1 1 from rg_l (by decide)) (by decide)
          refine lv_iinc (v := x72_1) (lv' := [(3, .int x72_1), (0, .ref cd)]) hx hb dX0_code_72 hl (k := 1) rfl (by rw [ex72_1]; rfl) (by decide) rfl (fun ls hl => ?_)
          refine lv_goto (tgt := 29) hx hb dX0_code_75 (by decide) ?_
          exact ih x72_1 j72_ccds j72_fcd_4 j72_cp0r j72_ccdg H locs ls (rg_w r72_2 (by decide)) (rg_of (show 1 ≤ j72_fcd_4.toInt ∧ j72_fcd_4.toInt ≤ 339000001 by have q0 := r72_1001.1; have q1 := r72_1001.2; have q2 := r29_1002.1; have q3 := r29_1002.2; have q4 := r37_4.1; have q5 := r37_4.2; have q6 := r37_3.1; have q7 := r37_3.2; have q8 := hi29_1004; have q9 := t37_2; have q10 := ho72_1003; omega)) hc72_1002 (show j72_fcd_4.toInt ≤ 113000 * x72_1.toInt + 1 ∧ x72_1.toInt ≤ x_f0_11.toInt by have q0 := r37_4.1; have q1 := r37_4.2; have q2 := r72_2.1; have q3 := r72_2.2; have q4 := (eq_add ex72_1 r37_3 (show rg (1 : Int32) 1 1 from rg_l (by decide)) (by decide)); have q5 := (show rg (1 : Int32) 1 1 from rg_l (by decide)).1; have q6 := (show rg (1 : Int32) 1 1 from rg_l (by decide)).2; have q7 := r37_3.1; have q8 := r37_3.2; have q9 := r72_1001.1; have q10 := r72_1001.2; have q11 := r29_1002.1; have q12 := r29_1002.2; have q13 := hi29_1004; have q14 := t37_2; have q15 := ho72_1003; omega) (show ((2147483647 : Int) - x72_1.toInt).toNat < n by have q0 := r37_3.1; have q1 := r37_3.2; have q2 := r72_2.1; have q3 := r72_2.2; have q4 := (eq_add ex72_1 r37_3 (show rg (1 : Int32) 1 1 from rg_l (by decide)) (by decide)); have q5 := (show rg (1 : Int32) 1 1 from rg_l (by decide)).1; have q6 := (show rg (1 : Int32) 1 1 from rg_l (by decide)).2; have q7 := r37_4.1; have q8 := r37_4.2; have q9 := r29_1002.1; have q10 := r29_1002.2; have q11 := r72_1001.1; have q12 := r72_1001.2; have q13 := hi29_1004; have q14 := t37_2; have q15 := ho72_1003; have q16 := hms; omega) (lv_sub hl [1, 0] rfl) hP hD hS
        refine lv_if_eq (tgt := 72) hx hb dX0_code_49 (by decide) (fun c49_1 => ?_) (fun c49_1 => ?_)
        · have t49_2 := (i_eq c49_1)
          have r49_3 : rg z48_2 0 0 := rg_eqA t49_2 r48_3 (show rg (0 : Int32) 0 0 from rg_l (by decide)) (by decide)
          exact b72 j29_ccds j29_fcd_4 j29_cp0r j29_ccdg H locs ls (rg_w r29_1002 (by decide)) hc29_1003 (show j29_fcd_4.toInt ≤ j29_fcd_4.toInt ∧ j29_fcd_4.toInt ≤ j29_fcd_4.toInt + 112005 by have q0 := r29_1002.1; have q1 := r29_1002.2; have q2 := r37_4.1; have q3 := r37_4.2; have q4 := r37_3.1; have q5 := r37_3.2; have q6 := hi29_1004; have q7 := t37_2; omega) (lv_sub hl [0, 1] rfl) hP hD hS
        · have t49_2 := (i_ne c49_1)
          have r49_3 : rg z48_2 1 1 := rg_neAl t49_2 r48_3 (show rg (0 : Int32) 0 0 from rg_l (by decide)) (by decide)
          refine lv_aload_n hx hb dX0_code_52 rfl (lv_at hl 0 rfl) ?_
          refine va_get (D := D) (ci := 0) (v := .ref cds) (C := RX0) (T := TX0) (N := 5) hx hb (htX0 hn) (fun _ h => h) hown hK hP 12 rfl rfl 0 (by decide) (hn.get mw_266 rfl) (fun _ h9 => h9) rfl dX0_code_53 ?_
          refine lv_iload_n hx hb dX0_code_56 rfl (lv_at hl 1 rfl) ?_
          refine lv_aload_n hx hb dX0_code_57 rfl (lv_at hl 0 rfl) ?_
          refine va_get (D := D) (ci := 0) (v := .int j29_fcd_4) (C := RX0) (T := TX0) (N := 5) hx hb (htX0 hn) (fun _ h => h) hown hK hP 12 rfl rfl 4 (by decide) (hn.get mw_270 rfl) (fun _ h9 => h9) rfl dX0_code_58 ?_
          have hi61_1 : vp_in j29_l3 3002 := (in_rg r37_3 (by decide))
          refine va_iast hx hb hK hP hD hS 3 1 rfl rfl hi61_1 dX0_code_61 (fun H locs hP hD hS => ?_)
          have hP : va_P D vwCl [(f0, .inr (2, [.ref f00, .ref f01, .ref f02, .int x_f0_3, .ref f04, .ref f05, .ref f06, .ref f07, .ref f08, .ref f09, .ref f010, .int x_f0_11, .int x_f0_12, .ref f013, .int x_f0_14, .ref f015, .int x_f0_16, .ref f017])), (f08, .inl (ct 1, 3000, .inl g_f08)), (f09, .inl (ct 1, 3000, .inl g_f09)), (cds, .inl (ct 1, 3002, .inl (upd j29_ccds j29_l3.toNatClampNeg j29_fcd_4))), (f010, .inl (ct 3, 3000, .inl g_f010)), (f04, .inl (ct 1, 3000, .inl g_f04)), (f05, .inl (ct 1, 3000, .inl g_f05)), (f00, .inl (ct 1, 7000, .inl g_f00)), (f01, .inl (ct 1, 7000, .inl g_f01)), (f02, .inl (ct 1, 7000, .inl g_f02)), (f06, .inl (ct 1, 3000, .inl g_f06)), (f07, .inl (ct 1, 3000, .inl g_f07)), (cd, .inr (0, [.ref cds, .ref cdg, .ref f0, .ref p0, .int j29_fcd_4])), (p0, .inr (7, [.ref p0r, .int x_p0_1])), (p0r, .inl (ct 2, 4000, .inr (.inl j29_cp0r))), (cdg, .inl (ct 1, 4000, .inl j29_ccdg))] _ := hP
          have hD : va_D A [(f0, .inr (2, [.ref f00, .ref f01, .ref f02, .int x_f0_3, .ref f04, .ref f05, .ref f06, .ref f07, .ref f08, .ref f09, .ref f010, .int x_f0_11, .int x_f0_12, .ref f013, .int x_f0_14, .ref f015, .int x_f0_16, .ref f017])), (f08, .inl (ct 1, 3000, .inl g_f08)), (f09, .inl (ct 1, 3000, .inl g_f09)), (cds, .inl (ct 1, 3002, .inl (upd j29_ccds j29_l3.toNatClampNeg j29_fcd_4))), (f010, .inl (ct 3, 3000, .inl g_f010)), (f04, .inl (ct 1, 3000, .inl g_f04)), (f05, .inl (ct 1, 3000, .inl g_f05)), (f00, .inl (ct 1, 7000, .inl g_f00)), (f01, .inl (ct 1, 7000, .inl g_f01)), (f02, .inl (ct 1, 7000, .inl g_f02)), (f06, .inl (ct 1, 3000, .inl g_f06)), (f07, .inl (ct 1, 3000, .inl g_f07)), (cd, .inr (0, [.ref cds, .ref cdg, .ref f0, .ref p0, .int j29_fcd_4])), (p0, .inr (7, [.ref p0r, .int x_p0_1])), (p0r, .inl (ct 2, 4000, .inr (.inl j29_cp0r))), (cdg, .inl (ct 1, 4000, .inl j29_ccdg))] := hD
          obtain ⟨f61_2, ef61_2⟩ : ∃ z, z = (upd j29_ccds j29_l3.toNatClampNeg j29_fcd_4) := ⟨_, rfl⟩
          rw [← ef61_2] at hP hD
          refine lv_aload_n hx hb dX0_code_62 rfl (lv_at hl 0 rfl) ?_
          refine lv_iload_n hx hb dX0_code_63 rfl (lv_at hl 1 rfl) ?_
          refine go_v (k1 := 0) (n1 := 0) (wr := [(f08, .inl (ct 1, 3000, .inl g_f08)), (f09, .inl (ct 1, 3000, .inl g_f09)), (cds, .inl (ct 1, 3002, .inl f61_2)), (f010, .inl (ct 3, 3000, .inl g_f010)), (f07, .inl (ct 1, 3000, .inl g_f07))]) [12, 0, 5, 6, 7, 8, 9, 13, 14, 15, 10] [1, 2, 3, 4, 11] (rn_V (As := [.int j29_l3]) (rest := []) (c_X0_codeTest l D ct cd j29_l3 cds cdg f0 p0 j29_fcd_4 f00 f01 f02 x_f0_3 f04 f05 f06 f07 f08 f09 f010 x_f0_11 x_f0_12 f013 x_f0_14 f015 x_f0_16 f017 g_f04 g_f05 g_f00 g_f01 g_f02 p0r x_p0_1 j29_cp0r j29_ccdg g_f06 r37_3 (rg_w r29_1002 (by decide)) h_x_f0_3 (rg_w r37_4 (by decide)) h_x_f0_12 h_x_f0_14 h_x_f0_16 h_g_f04 h_g_f05 h_g_f00 h_x_p0_1 hc29_1003 h_g_f06 _) (cb_of (n := 1) hn mw_854 mw_9 mw_851 mhX0_codeTest ⟨(Nat.le_of_ble_eq_true rfl), (Nat.le_of_ble_eq_true rfl)⟩) hx hb hml hown hn hK hSK hZ hS mw_853 mw_s76 (ci := 0) (q0 := 0) rfl rfl rfl rfl hl.1 (Nat.le_of_ble_eq_true rfl) dX0_code_64 ⟨(Nat.le_of_ble_eq_true rfl), (Nat.le_of_ble_eq_true rfl)⟩) hP hD hS hA rfl rfl (by decide) (by decide) (by decide) (Nat.le_of_ble_eq_true rfl) (Nat.le_of_ble_eq_true rfl) (fun u64_2 H locs hp64_3 hP hD hS => ?_)
          obtain ⟨y_cd_464_4, k_p0r64_5, k_cdg64_6⟩ := u64_2
          obtain ⟨hp64_7, hp64_8, hp64_9⟩ := hp64_3
          have hp64_7 : rg y_cd_464_4 0 1200000001 := hp64_7
          have hp64_9 : j29_fcd_4.toInt + 0 ≤ y_cd_464_4.toInt ∧ y_cd_464_4.toInt ≤ j29_fcd_4.toInt + 112003 := hp64_9
          have hP : va_P D vwCl [(f08, .inl (ct 1, 3000, .inl g_f08)), (f09, .inl (ct 1, 3000, .inl g_f09)), (cds, .inl (ct 1, 3002, .inl f61_2)), (f010, .inl (ct 3, 3000, .inl g_f010)), (f07, .inl (ct 1, 3000, .inl g_f07)), (cd, .inr (0, [.ref cds, .ref cdg, .ref f0, .ref p0, .int y_cd_464_4])), (f0, .inr (2, [.ref f00, .ref f01, .ref f02, .int x_f0_3, .ref f04, .ref f05, .ref f06, .ref f07, .ref f08, .ref f09, .ref f010, .int x_f0_11, .int x_f0_12, .ref f013, .int x_f0_14, .ref f015, .int x_f0_16, .ref f017])), (f04, .inl (ct 1, 3000, .inl g_f04)), (f05, .inl (ct 1, 3000, .inl g_f05)), (f00, .inl (ct 1, 7000, .inl g_f00)), (f01, .inl (ct 1, 7000, .inl g_f01)), (f02, .inl (ct 1, 7000, .inl g_f02)), (p0, .inr (7, [.ref p0r, .int x_p0_1])), (p0r, .inl (ct 2, 4000, .inr (.inl k_p0r64_5))), (cdg, .inl (ct 1, 4000, .inl k_cdg64_6)), (f06, .inl (ct 1, 3000, .inl g_f06))] _ := hP
          have hD : va_D A [(f08, .inl (ct 1, 3000, .inl g_f08)), (f09, .inl (ct 1, 3000, .inl g_f09)), (cds, .inl (ct 1, 3002, .inl f61_2)), (f010, .inl (ct 3, 3000, .inl g_f010)), (f07, .inl (ct 1, 3000, .inl g_f07)), (cd, .inr (0, [.ref cds, .ref cdg, .ref f0, .ref p0, .int y_cd_464_4])), (f0, .inr (2, [.ref f00, .ref f01, .ref f02, .int x_f0_3, .ref f04, .ref f05, .ref f06, .ref f07, .ref f08, .ref f09, .ref f010, .int x_f0_11, .int x_f0_12, .ref f013, .int x_f0_14, .ref f015, .int x_f0_16, .ref f017])), (f04, .inl (ct 1, 3000, .inl g_f04)), (f05, .inl (ct 1, 3000, .inl g_f05)), (f00, .inl (ct 1, 7000, .inl g_f00)), (f01, .inl (ct 1, 7000, .inl g_f01)), (f02, .inl (ct 1, 7000, .inl g_f02)), (p0, .inr (7, [.ref p0r, .int x_p0_1])), (p0r, .inl (ct 2, 4000, .inr (.inl k_p0r64_5))), (cdg, .inl (ct 1, 4000, .inl k_cdg64_6)), (f06, .inl (ct 1, 3000, .inl g_f06))] := hD
          refine lv_aload_n hx hb dX0_code_67 rfl (lv_at hl 0 rfl) ?_
          refine lv_iload_n hx hb dX0_code_68 rfl (lv_at hl 1 rfl) ?_
          refine go_v (k1 := 0) (n1 := 0) (wr := [(cds, .inl (ct 1, 3002, .inl f61_2)), (f04, .inl (ct 1, 3000, .inl g_f04))]) [5, 6, 0, 1, 3, 4, 8, 15, 9, 10, 11, 12, 13, 14] [2, 7] (rn_V (As := [.int j29_l3]) (rest := []) (c_X0_codeWays l D ct cd j29_l3 cds cdg f0 p0 y_cd_464_4 f00 f01 f02 x_f0_3 f04 f05 f06 f07 f08 f09 f010 x_f0_11 x_f0_12 f013 x_f0_14 f015 x_f0_16 f017 g_f08 g_f09 g_f010 g_f07 g_f05 g_f06 g_f00 g_f01 g_f02 p0r x_p0_1 k_p0r64_5 k_cdg64_6 r37_3 (rg_of (show 0 ≤ y_cd_464_4.toInt ∧ y_cd_464_4.toInt ≤ 1199800000 by have q0 := hp64_7.1; have q1 := hp64_7.2; have q2 := r29_1002.1; have q3 := r29_1002.2; have q4 := r37_4.1; have q5 := r37_4.2; have q6 := r37_3.1; have q7 := r37_3.2; have q8 := hi29_1004; have q9 := t37_2; have q10 := hp64_9; omega)) h_x_f0_3 (rg_w r37_4 (by decide)) h_x_f0_12 h_x_f0_14 h_x_f0_16 h_g_f010 h_g_f07 h_g_f05 h_g_f06 h_g_f00 h_x_p0_1 hp64_8 (show j29_l3.toInt < x_f0_11.toInt by have q0 := r37_4.1; have q1 := r37_4.2; have q2 := r37_3.1; have q3 := r37_3.2; have q4 := r29_1002.1; have q5 := r29_1002.2; have q6 := hp64_7.1; have q7 := hp64_7.2; have q8 := hi29_1004; have q9 := t37_2; have q10 := hp64_9; omega) hg0 hg1 _) (cb_of (n := 1) hn mw_900 mw_9 mw_897 mhX0_codeWays ⟨(Nat.le_of_ble_eq_true rfl), (Nat.le_of_ble_eq_true rfl)⟩) hx hb hml hown hn hK hSK hZ hS mw_899 mw_s86 (ci := 0) (q0 := 0) rfl rfl rfl rfl hl.1 (Nat.le_of_ble_eq_true rfl) dX0_code_69 ⟨(Nat.le_of_ble_eq_true rfl), (Nat.le_of_ble_eq_true rfl)⟩) hP hD hS hA rfl rfl (by decide) (by decide) (by decide) (Nat.le_of_ble_eq_true rfl) (Nat.le_of_ble_eq_true rfl) (fun u69_2 H locs hp69_3 hP hD hS => ?_)
          obtain ⟨y_cd_469_4, k_p0r69_5, k_cdg69_6⟩ := u69_2
          obtain ⟨hp69_7, hp69_8, hp69_9⟩ := hp69_3
          have hp69_7 : rg y_cd_469_4 0 1200000001 := hp69_7
          have hp69_9 : y_cd_464_4.toInt + 0 ≤ y_cd_469_4.toInt ∧ y_cd_469_4.toInt ≤ y_cd_464_4.toInt + 2 := hp69_9
          have hP : va_P D vwCl [(cds, .inl (ct 1, 3002, .inl f61_2)), (f04, .inl (ct 1, 3000, .inl g_f04)), (cd, .inr (0, [.ref cds, .ref cdg, .ref f0, .ref p0, .int y_cd_469_4])), (f0, .inr (2, [.ref f00, .ref f01, .ref f02, .int x_f0_3, .ref f04, .ref f05, .ref f06, .ref f07, .ref f08, .ref f09, .ref f010, .int x_f0_11, .int x_f0_12, .ref f013, .int x_f0_14, .ref f015, .int x_f0_16, .ref f017])), (f08, .inl (ct 1, 3000, .inl g_f08)), (f09, .inl (ct 1, 3000, .inl g_f09)), (f010, .inl (ct 3, 3000, .inl g_f010)), (f07, .inl (ct 1, 3000, .inl g_f07)), (f05, .inl (ct 1, 3000, .inl g_f05)), (f06, .inl (ct 1, 3000, .inl g_f06)), (f00, .inl (ct 1, 7000, .inl g_f00)), (f01, .inl (ct 1, 7000, .inl g_f01)), (f02, .inl (ct 1, 7000, .inl g_f02)), (p0, .inr (7, [.ref p0r, .int x_p0_1])), (p0r, .inl (ct 2, 4000, .inr (.inl k_p0r69_5))), (cdg, .inl (ct 1, 4000, .inl k_cdg69_6))] _ := hP
          have hD : va_D A [(cds, .inl (ct 1, 3002, .inl f61_2)), (f04, .inl (ct 1, 3000, .inl g_f04)), (cd, .inr (0, [.ref cds, .ref cdg, .ref f0, .ref p0, .int y_cd_469_4])), (f0, .inr (2, [.ref f00, .ref f01, .ref f02, .int x_f0_3, .ref f04, .ref f05, .ref f06, .ref f07, .ref f08, .ref f09, .ref f010, .int x_f0_11, .int x_f0_12, .ref f013, .int x_f0_14, .ref f015, .int x_f0_16, .ref f017])), (f08, .inl (ct 1, 3000, .inl g_f08)), (f09, .inl (ct 1, 3000, .inl g_f09)), (f010, .inl (ct 3, 3000, .inl g_f010)), (f07, .inl (ct 1, 3000, .inl g_f07)), (f05, .inl (ct 1, 3000, .inl g_f05)), (f06, .inl (ct 1, 3000, .inl g_f06)), (f00, .inl (ct 1, 7000, .inl g_f00)), (f01, .inl (ct 1, 7000, .inl g_f01)), (f02, .inl (ct 1, 7000, .inl g_f02)), (p0, .inr (7, [.ref p0r, .int x_p0_1])), (p0r, .inl (ct 2, 4000, .inr (.inl k_p0r69_5))), (cdg, .inl (ct 1, 4000, .inl k_cdg69_6))] := hD
          have hP := hP.sub (ws' := [(f0, .inr (2, [.ref f00, .ref f01, .ref f02, .int x_f0_3, .ref f04, .ref f05, .ref f06, .ref f07, .ref f08, .ref f09, .ref f010, .int x_f0_11, .int x_f0_12, .ref f013, .int x_f0_14, .ref f015, .int x_f0_16, .ref f017])), (f08, .inl (ct 1, 3000, .inl g_f08)), (f09, .inl (ct 1, 3000, .inl g_f09)), (cds, .inl (ct 1, 3002, .inl f61_2)), (f010, .inl (ct 3, 3000, .inl g_f010)), (f04, .inl (ct 1, 3000, .inl g_f04)), (f05, .inl (ct 1, 3000, .inl g_f05)), (f00, .inl (ct 1, 7000, .inl g_f00)), (f01, .inl (ct 1, 7000, .inl g_f01)), (f02, .inl (ct 1, 7000, .inl g_f02)), (f06, .inl (ct 1, 3000, .inl g_f06)), (f07, .inl (ct 1, 3000, .inl g_f07)), (cd, .inr (0, [.ref cds, .ref cdg, .ref f0, .ref p0, .int y_cd_469_4])), (p0, .inr (7, [.ref p0r, .int x_p0_1])), (p0r, .inl (ct 2, 4000, .inr (.inl k_p0r69_5))), (cdg, .inl (ct 1, 4000, .inl k_cdg69_6))]) [3, 4, 5, 0, 6, 1, 8, 10, 11, 12, 9, 7, 2, 13, 14, 15] rfl
          have hD := hD.sub (ws' := [(f0, .inr (2, [.ref f00, .ref f01, .ref f02, .int x_f0_3, .ref f04, .ref f05, .ref f06, .ref f07, .ref f08, .ref f09, .ref f010, .int x_f0_11, .int x_f0_12, .ref f013, .int x_f0_14, .ref f015, .int x_f0_16, .ref f017])), (f08, .inl (ct 1, 3000, .inl g_f08)), (f09, .inl (ct 1, 3000, .inl g_f09)), (cds, .inl (ct 1, 3002, .inl f61_2)), (f010, .inl (ct 3, 3000, .inl g_f010)), (f04, .inl (ct 1, 3000, .inl g_f04)), (f05, .inl (ct 1, 3000, .inl g_f05)), (f00, .inl (ct 1, 7000, .inl g_f00)), (f01, .inl (ct 1, 7000, .inl g_f01)), (f02, .inl (ct 1, 7000, .inl g_f02)), (f06, .inl (ct 1, 3000, .inl g_f06)), (f07, .inl (ct 1, 3000, .inl g_f07)), (cd, .inr (0, [.ref cds, .ref cdg, .ref f0, .ref p0, .int y_cd_469_4])), (p0, .inr (7, [.ref p0r, .int x_p0_1])), (p0r, .inl (ct 2, 4000, .inr (.inl k_p0r69_5))), (cdg, .inl (ct 1, 4000, .inl k_cdg69_6))]) [3, 4, 5, 0, 6, 1, 8, 10, 11, 12, 9, 7, 2, 13, 14, 15] (by decide) rfl
          exact b72 f61_2 y_cd_469_4 k_p0r69_5 k_cdg69_6 H locs ls hp69_7 hp69_8 (show j29_fcd_4.toInt ≤ y_cd_469_4.toInt ∧ y_cd_469_4.toInt ≤ j29_fcd_4.toInt + 112005 by have q0 := r29_1002.1; have q1 := r29_1002.2; have q2 := hp69_7.1; have q3 := hp69_7.2; have q4 := r37_4.1; have q5 := r37_4.2; have q6 := r37_3.1; have q7 := r37_3.2; have q8 := hp64_7.1; have q9 := hp64_7.2; have q10 := hi29_1004; have q11 := t37_2; have q12 := hp64_9; have q13 := hp69_9; omega) (lv_sub hl [0, 1] rfl) hP hD hS
  exact b29 _ (0 : Int32) g_cds y_cd_424_4 k_p0r24_5 k_cdg24_6 H locs ls (rg_w (show rg (0 : Int32) 0 0 from rg_l (by decide)) (by decide)) (rg_of (show 1 ≤ y_cd_424_4.toInt ∧ y_cd_424_4.toInt ≤ 339000001 by have q0 := hp24_7.1; have q1 := hp24_7.2; have q2 := (show rg (0 : Int32) 0 0 from rg_l (by decide)).1; have q3 := (show rg (0 : Int32) 0 0 from rg_l (by decide)).2; have q4 := hp24_9; omega)) hp24_8 (show y_cd_424_4.toInt ≤ 113000 * (0 : Int32).toInt + 1 ∧ (0 : Int32).toInt ≤ x_f0_11.toInt by have q0 := h_x_f0_11.1; have q1 := h_x_f0_11.2; have q2 := (show rg (0 : Int32) 0 0 from rg_l (by decide)).1; have q3 := (show rg (0 : Int32) 0 0 from rg_l (by decide)).2; have q4 := hp24_7.1; have q5 := hp24_7.2; have q6 := hp24_9; omega) (Nat.lt_succ_self _) (lv_sub hl [1, 0] rfl) hP hD hS
