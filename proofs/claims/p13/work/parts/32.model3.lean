set_option maxHeartbeats 2000000 in
theorem c_X16_emitWord (l : Launch) (D : va_G) (ct : Nat → ClassId) (mm : Nat) (v0 : Int64) (fs_mm : List Value) (uwd : Nat) (x_mm_73 : Int32) (g_uwd : Nat → Int32) (hlen_mm : fs_mm.length = 78) (hf_mm_72 : fs_mm[72]? = some (.ref uwd)) (h_x_mm_73 : rg x_mm_73 0 59999) (hf_mm_73 : fs_mm[73]? = some (.int x_mm_73)) : KV (S := List Value × Int32 × (Nat → Int32)) l yX16_emitWord cX16_emitWord 3 none 1 20 D ct [.ref mm, .long v0] [(mm, .inr (16, fs_mm)), (uwd, .inl (ct 1, 60000, .inl g_uwd))] 0 0 (fun (u : List Value × Int32 × (Nat → Int32)) => match u with | (fs2_mm, y_mm_73, k_uwd) => SB fs_mm fs2_mm [73] ∧ rg y_mm_73 1 60000 ∧ fs2_mm[73]? = some (.int y_mm_73) ∧ (y_mm_73.toInt = x_mm_73.toInt + 1)) (fun (u : List Value × Int32 × (Nat → Int32)) => match u with | (fs2_mm, y_mm_73, k_uwd) => [(mm, .inr (16, fs2_mm)), (uwd, .inl (ct 1, 60000, .inl k_uwd))]) := by
  refine KVq_of (by decide) (Nat.le_of_ble_eq_true rfl) (fun p e s m below meth c A Q C0 hA H locs hS hP hD hQ ls hl => ?_)
  obtain ⟨hx, hb, hr, hown, hin, hml, hlocks, hn, hK, hZ, hSK⟩ := C0
  have hl : lv_has ls 3 [(0, .ref mm), (1, .long v0)] := hl
  refine lv_aload_n hx hb dX16_emitWord_0 rfl (lv_at hl 0 rfl) ?_
  refine va_get (D := D) (ci := 16) (v := .ref uwd) (C := RX16) (T := TX16) (N := 78) hx hb (htX16 hn) (fun _ h => h) hown hK hP 0 rfl rfl 72 (by decide) (hn.get mw_1611 rfl) (fun _ h9 => h9) hf_mm_72 dX16_emitWord_1 ?_
  refine lv_aload_n hx hb dX16_emitWord_4 rfl (lv_at hl 0 rfl) ?_
  refine va_get (D := D) (ci := 16) (v := .int x_mm_73) (C := RX16) (T := TX16) (N := 78) hx hb (htX16 hn) (fun _ h => h) hown hK hP 0 rfl rfl 73 (by decide) (hn.get mw_1612 rfl) (fun _ h9 => h9) hf_mm_73 dX16_emitWord_5 ?_
  refine lv_lload_n hx hb dX16_emitWord_8 rfl (lv_at hl 1 rfl) ?_
  refine lv_l2i hx hb dX16_emitWord_9 rfl ?_
  refine lv_topi (fun z9_1 ez9_1 => ?_)
  have hi10_1 : vp_in x_mm_73 60000 := (in_rg h_x_mm_73 (by decide))
  refine va_iast hx hb hK hP hD hS 1 1 rfl rfl hi10_1 dX16_emitWord_10 (fun H locs hP hD hS => ?_)
  have hP : va_P D vwCl [(mm, .inr (16, fs_mm)), (uwd, .inl (ct 1, 60000, .inl (upd g_uwd x_mm_73.toNatClampNeg z9_1)))] _ := hP
  have hD : va_D A [(mm, .inr (16, fs_mm)), (uwd, .inl (ct 1, 60000, .inl (upd g_uwd x_mm_73.toNatClampNeg z9_1)))] := hD
  obtain ⟨f10_2, ef10_2⟩ : ∃ z, z = (upd g_uwd x_mm_73.toNatClampNeg z9_1) := ⟨_, rfl⟩
  rw [← ef10_2] at hP hD
  refine lv_aload_n hx hb dX16_emitWord_11 rfl (lv_at hl 0 rfl) ?_
  refine lv_dup hx hb dX16_emitWord_12 rfl ?_
  refine va_get (D := D) (ci := 16) (v := .int x_mm_73) (C := RX16) (T := TX16) (N := 78) hx hb (htX16 hn) (fun _ h => h) hown hK hP 0 rfl rfl 73 (by decide) (hn.get mw_1612 rfl) (fun _ h9 => h9) hf_mm_73 dX16_emitWord_13 ?_
  refine lv_iconst (v := 1) hx hb dX16_emitWord_16 (by decide) ?_
  refine lv_iadd hx hb dX16_emitWord_17 ?_
  refine lv_topi (fun z17_1 ez17_1 => ?_)
  have r17_2 : rg z17_1 1 60000 := rg_add ez17_1 h_x_mm_73 (show rg (1 : Int32) 1 1 from rg_l (by decide)) (by decide)
  refine va_put (D := D) (ci := 16) (v := .int z17_1) (ty := .int) (C := RX16) (T := TX16) (N := 78) hx hb (htX16 hn) (fun _ h => h) tyX16 tyX16_ok nmX16 hown hK hP hD hS 0 rfl rfl 73 (by decide) (hn.get mw_1612 rfl) (fun _ h9 => h9) rfl (by decide +kernel) rfl rfl (by rw [hlen_mm]; decide) dX16_emitWord_18 (fun H locs hP hD hS => ?_)
  have hP : va_P D vwCl [(mm, .inr (16, (fs_mm.set 73 (.int z17_1)))), (uwd, .inl (ct 1, 60000, .inl f10_2))] _ := hP
  have hD : va_D A [(mm, .inr (16, (fs_mm.set 73 (.int z17_1)))), (uwd, .inl (ct 1, 60000, .inl f10_2))] := hD
  obtain ⟨m18_1, em18_1⟩ : ∃ z, z = (fs_mm.set 73 (.int z17_1)) := ⟨_, rfl⟩
  rw [← em18_1] at hP hD
  have hsm18_1 : SB fs_mm m18_1 [73] := by rw [em18_1]; exact SB.set (SB.rf _ _) (by decide)
  have hfm18_1_73 : m18_1[73]? = some (.int z17_1) := by rw [em18_1]; exact fs_eq (by rw [hlen_mm]; decide)
  have hP : va_P D vwCl [(mm, .inr (16, m18_1)), (uwd, .inl (ct 1, 60000, .inl f10_2))] _ := hP
  have hD : va_D A [(mm, .inr (16, m18_1)), (uwd, .inl (ct 1, 60000, .inl f10_2))] := hD
  exact endq_v hQ hx hb hr hlocks dX16_emitWord_21 (m18_1, z17_1, f10_2) ⟨hsm18_1, r17_2, hfm18_1_73, (show z17_1.toInt = x_mm_73.toInt + 1 by have q0 := (eq_add ez17_1 h_x_mm_73 (show rg (1 : Int32) 1 1 from rg_l (by decide)) (by decide)); have q1 := (show (1 : Int32).toInt = 1 from by decide); omega)⟩ hP hD hS [0, 1] rfl (by decide) rfl (Nat.le_of_ble_eq_true rfl) (Nat.le_of_ble_eq_true rfl)
set_option maxHeartbeats 2000000 in
theorem c_X16_three (l : Launch) (D : va_G) (ct : Nat → ClassId) (mm : Nat) (v0 : Int32) (v1 : Int32) (v2 : Int32) (v3 : Int32) (v4 : Int32) (v5 : Int32) (fs_mm : List Value) (uwd : Nat) (x_mm_73 : Int32) (g_uwd : Nat → Int32) (hlen_mm : fs_mm.length = 78) (hf_mm_72 : fs_mm[72]? = some (.ref uwd)) (h_x_mm_73 : rg x_mm_73 0 59999) (hf_mm_73 : fs_mm[73]? = some (.int x_mm_73)) : KV (S := List Value × Int32 × (Nat → Int32)) l yX16_three cX16_three 7 none 2 42 D ct [.ref mm, .int v0, .int v1, .int v2, .int v3, .int v4, .int v5] [(mm, .inr (16, fs_mm)), (uwd, .inl (ct 1, 60000, .inl g_uwd))] 0 0 (fun (u : List Value × Int32 × (Nat → Int32)) => match u with | (fs2_mm, y_mm_73, k_uwd) => SB fs_mm fs2_mm [73] ∧ rg y_mm_73 1 60000 ∧ fs2_mm[73]? = some (.int y_mm_73) ∧ (y_mm_73.toInt = x_mm_73.toInt + 1)) (fun (u : List Value × Int32 × (Nat → Int32)) => match u with | (fs2_mm, y_mm_73, k_uwd) => [(mm, .inr (16, fs2_mm)), (uwd, .inl (ct 1, 60000, .inl k_uwd))]) := by
  refine KVq_of (by decide) (Nat.le_of_ble_eq_true rfl) (fun p e s m below meth c A Q C0 hA H locs hS hP hD hQ ls hl => ?_)
  obtain ⟨hx, hb, hr, hown, hin, hml, hlocks, hn, hK, hZ, hSK⟩ := C0
  have hl : lv_has ls 7 [(0, .ref mm), (1, .int v0), (2, .int v1), (3, .int v2), (4, .int v3), (5, .int v4), (6, .int v5)] := hl
  refine lv_aload_n hx hb dX16_three_0 rfl (lv_at hl 0 rfl) ?_
  refine lv_iload_n hx hb dX16_three_1 rfl (lv_at hl 3 rfl) ?_
  refine lv_i2l hx hb dX16_three_2 rfl ?_
  refine lv_topl (fun z2_1 ez2_1 => ?_)
  have r2_2 : rl z2_1 (-2147483648) 2147483647 := rl_i2l ez2_1 (rg_any v2)
  refine lv_bipush (v := 25) hx hb dX16_three_3 (by decide) ?_
  refine lv_lshl hx hb dX16_three_5 rfl ?_
  refine lv_topl (fun z5_1 ez5_1 => ?_)
  refine lv_iload hx hb dX16_three_6 (lv_at hl 6 rfl) ?_
  refine lv_bipush (v := 20) hx hb dX16_three_8 (by decide) ?_
  refine lv_ishl hx hb dX16_three_10 ?_
  refine lv_topi (fun z10_1 ez10_1 => ?_)
  refine lv_i2l hx hb dX16_three_11 rfl ?_
  refine lv_topl (fun z11_1 ez11_1 => ?_)
  have r11_2 : rl z11_1 (-2147483648) 2147483647 := rl_i2l ez11_1 (rg_any z10_1)
  refine lv_lor hx hb dX16_three_12 ?_
  refine lv_topl (fun z12_1 ez12_1 => ?_)
  refine lv_iload hx hb dX16_three_13 (lv_at hl 5 rfl) ?_
  refine lv_bipush (v := 15) hx hb dX16_three_15 (by decide) ?_
  refine lv_ishl hx hb dX16_three_17 ?_
  refine lv_topi (fun z17_1 ez17_1 => ?_)
  refine lv_i2l hx hb dX16_three_18 rfl ?_
  refine lv_topl (fun z18_1 ez18_1 => ?_)
  have r18_2 : rl z18_1 (-2147483648) 2147483647 := rl_i2l ez18_1 (rg_any z17_1)
  refine lv_lor hx hb dX16_three_19 ?_
  refine lv_topl (fun z19_1 ez19_1 => ?_)
  refine lv_iload_n hx hb dX16_three_20 rfl (lv_at hl 2 rfl) ?_
  refine lv_bipush (v := 12) hx hb dX16_three_21 (by decide) ?_
  refine lv_ishl hx hb dX16_three_23 ?_
  refine lv_topi (fun z23_1 ez23_1 => ?_)
  refine lv_i2l hx hb dX16_three_24 rfl ?_
  refine lv_topl (fun z24_1 ez24_1 => ?_)
  have r24_2 : rl z24_1 (-2147483648) 2147483647 := rl_i2l ez24_1 (rg_any z23_1)
  refine lv_lor hx hb dX16_three_25 ?_
  refine lv_topl (fun z25_1 ez25_1 => ?_)
  refine lv_iload hx hb dX16_three_26 (lv_at hl 4 rfl) ?_
  refine lv_bipush (v := 7) hx hb dX16_three_28 (by decide) ?_
  refine lv_ishl hx hb dX16_three_30 ?_
  refine lv_topi (fun z30_1 ez30_1 => ?_)
  refine lv_i2l hx hb dX16_three_31 rfl ?_
  refine lv_topl (fun z31_1 ez31_1 => ?_)
  have r31_2 : rl z31_1 (-2147483648) 2147483647 := rl_i2l ez31_1 (rg_any z30_1)
  refine lv_lor hx hb dX16_three_32 ?_
  refine lv_topl (fun z32_1 ez32_1 => ?_)
  refine lv_iload_n hx hb dX16_three_33 rfl (lv_at hl 1 rfl) ?_
  refine lv_i2l hx hb dX16_three_34 rfl ?_
  refine lv_topl (fun z34_1 ez34_1 => ?_)
  have r34_2 : rl z34_1 (-2147483648) 2147483647 := rl_i2l ez34_1 (rg_any v0)
  refine lv_lor hx hb dX16_three_35 ?_
  refine lv_topl (fun z35_1 ez35_1 => ?_)
  refine go_v (k1 := 0) (n1 := 0) (wr := []) [0, 1] [] (rn_V (As := [.long z35_1]) (rest := []) (c_X16_emitWord l D ct mm z35_1 fs_mm uwd x_mm_73 g_uwd hlen_mm hf_mm_72 h_x_mm_73 hf_mm_73 _) (cb_of (n := 1) hn mw_2587 mw_13 mw_2584 mhX16_emitWord ⟨(Nat.le_of_ble_eq_true rfl), (Nat.le_of_ble_eq_true rfl)⟩) hx hb hml hown hn hK hSK hZ hS mw_2586 mw_s260 (ci := 16) (q0 := 0) rfl rfl rfl rfl hl.1 (Nat.le_of_ble_eq_true rfl) dX16_three_36 ⟨(Nat.le_of_ble_eq_true rfl), (Nat.le_of_ble_eq_true rfl)⟩) hP hD hS hA rfl rfl (by decide) (by decide) (by decide) (Nat.le_of_ble_eq_true rfl) (Nat.le_of_ble_eq_true rfl) (fun u36_2 H locs hp36_3 hP hD hS => ?_)
  obtain ⟨fs2_mm36_4, y_mm_7336_5, k_uwd36_6⟩ := u36_2
  obtain ⟨hp36_7, hp36_8, hp36_9, hp36_10⟩ := hp36_3
  have hs36_11 : SB fs_mm fs2_mm36_4 [73] := SB.trans (SB.rf _ _) hp36_7 (by decide)
  have hp36_8 : rg y_mm_7336_5 1 60000 := hp36_8
  replace hp36_10 : FF (y_mm_7336_5.toInt = x_mm_73.toInt + 1) := hp36_10
  have hP : va_P D vwCl [(mm, .inr (16, fs2_mm36_4)), (uwd, .inl (ct 1, 60000, .inl k_uwd36_6))] _ := hP
  have hD : va_D A [(mm, .inr (16, fs2_mm36_4)), (uwd, .inl (ct 1, 60000, .inl k_uwd36_6))] := hD
  exact endq_v hQ hx hb hr hlocks dX16_three_39 (fs2_mm36_4, y_mm_7336_5, k_uwd36_6) ⟨hs36_11, hp36_8, hp36_9, (show y_mm_7336_5.toInt = x_mm_73.toInt + 1 by have q0 := FF.out hp36_10; omega)⟩ hP hD hS [0, 1] rfl (by decide) rfl (Nat.le_of_ble_eq_true rfl) (Nat.le_of_ble_eq_true rfl)
set_option maxHeartbeats 2000000 in
theorem c_X16_immediate (l : Launch) (D : va_G) (ct : Nat → ClassId) (mm : Nat) (v0 : Int32) (v1 : Int32) (v2 : Int32) (v3 : Int32) (v4 : Int32) (fs_mm : List Value) (uwd : Nat) (x_mm_73 : Int32) (g_uwd : Nat → Int32) (hlen_mm : fs_mm.length = 78) (hf_mm_72 : fs_mm[72]? = some (.ref uwd)) (h_x_mm_73 : rg x_mm_73 0 59999) (hf_mm_73 : fs_mm[73]? = some (.int x_mm_73)) : KV (S := List Value × Int32 × (Nat → Int32)) l yX16_immediate cX16_immediate 6 none 2 42 D ct [.ref mm, .int v0, .int v1, .int v2, .int v3, .int v4] [(mm, .inr (16, fs_mm)), (uwd, .inl (ct 1, 60000, .inl g_uwd))] 0 0 (fun (u : List Value × Int32 × (Nat → Int32)) => match u with | (fs2_mm, y_mm_73, k_uwd) => SB fs_mm fs2_mm [73] ∧ rg y_mm_73 1 60000 ∧ fs2_mm[73]? = some (.int y_mm_73) ∧ (y_mm_73.toInt = x_mm_73.toInt + 1)) (fun (u : List Value × Int32 × (Nat → Int32)) => match u with | (fs2_mm, y_mm_73, k_uwd) => [(mm, .inr (16, fs2_mm)), (uwd, .inl (ct 1, 60000, .inl k_uwd))]) := by
  refine KVq_of (by decide) (Nat.le_of_ble_eq_true rfl) (fun p e s m below meth c A Q C0 hA H locs hS hP hD hQ ls hl => ?_)
  obtain ⟨hx, hb, hr, hown, hin, hml, hlocks, hn, hK, hZ, hSK⟩ := C0
  have hl : lv_has ls 6 [(0, .ref mm), (1, .int v0), (2, .int v1), (3, .int v2), (4, .int v3), (5, .int v4)] := hl
  refine lv_aload_n hx hb dX16_immediate_0 rfl (lv_at hl 0 rfl) ?_
  refine lv_iload hx hb dX16_immediate_1 (lv_at hl 5 rfl) ?_
  refine lv_sipush (v := 4095) hx hb dX16_immediate_3 (by decide) ?_
  refine lv_iand hx hb dX16_immediate_6 ?_
  refine lv_topi (fun z6_1 ez6_1 => ?_)
  have r6_2 : rg z6_1 0 4095 := rg_andr ez6_1 (show rg (4095 : Int32) 4095 4095 from rg_l (by decide)) (by decide)
  refine lv_i2l hx hb dX16_immediate_7 rfl ?_
  refine lv_topl (fun z7_1 ez7_1 => ?_)
  have r7_2 : rl z7_1 0 4095 := rl_i2l ez7_1 r6_2
  refine lv_bipush (v := 20) hx hb dX16_immediate_8 (by decide) ?_
  refine lv_lshl hx hb dX16_immediate_10 rfl ?_
  refine lv_topl (fun z10_1 ez10_1 => ?_)
  refine lv_iload hx hb dX16_immediate_11 (lv_at hl 4 rfl) ?_
  refine lv_bipush (v := 15) hx hb dX16_immediate_13 (by decide) ?_
  refine lv_ishl hx hb dX16_immediate_15 ?_
  refine lv_topi (fun z15_1 ez15_1 => ?_)
  refine lv_i2l hx hb dX16_immediate_16 rfl ?_
  refine lv_topl (fun z16_1 ez16_1 => ?_)
  have r16_2 : rl z16_1 (-2147483648) 2147483647 := rl_i2l ez16_1 (rg_any z15_1)
  refine lv_lor hx hb dX16_immediate_17 ?_
  refine lv_topl (fun z17_1 ez17_1 => ?_)
  refine lv_iload_n hx hb dX16_immediate_18 rfl (lv_at hl 2 rfl) ?_
  refine lv_bipush (v := 12) hx hb dX16_immediate_19 (by decide) ?_
  refine lv_ishl hx hb dX16_immediate_21 ?_
  refine lv_topi (fun z21_1 ez21_1 => ?_)
  refine lv_i2l hx hb dX16_immediate_22 rfl ?_
  refine lv_topl (fun z22_1 ez22_1 => ?_)
  have r22_2 : rl z22_1 (-2147483648) 2147483647 := rl_i2l ez22_1 (rg_any z21_1)
  refine lv_lor hx hb dX16_immediate_23 ?_
  refine lv_topl (fun z23_1 ez23_1 => ?_)
  refine lv_iload_n hx hb dX16_immediate_24 rfl (lv_at hl 3 rfl) ?_
  refine lv_bipush (v := 7) hx hb dX16_immediate_25 (by decide) ?_
  refine lv_ishl hx hb dX16_immediate_27 ?_
  refine lv_topi (fun z27_1 ez27_1 => ?_)
  refine lv_i2l hx hb dX16_immediate_28 rfl ?_
  refine lv_topl (fun z28_1 ez28_1 => ?_)
  have r28_2 : rl z28_1 (-2147483648) 2147483647 := rl_i2l ez28_1 (rg_any z27_1)
  refine lv_lor hx hb dX16_immediate_29 ?_
  refine lv_topl (fun z29_1 ez29_1 => ?_)
  refine lv_iload_n hx hb dX16_immediate_30 rfl (lv_at hl 1 rfl) ?_
  refine lv_i2l hx hb dX16_immediate_31 rfl ?_
  refine lv_topl (fun z31_1 ez31_1 => ?_)
  have r31_2 : rl z31_1 (-2147483648) 2147483647 := rl_i2l ez31_1 (rg_any v0)
  refine lv_lor hx hb dX16_immediate_32 ?_
  refine lv_topl (fun z32_1 ez32_1 => ?_)
  refine go_v (k1 := 0) (n1 := 0) (wr := []) [0, 1] [] (rn_V (As := [.long z32_1]) (rest := []) (c_X16_emitWord l D ct mm z32_1 fs_mm uwd x_mm_73 g_uwd hlen_mm hf_mm_72 h_x_mm_73 hf_mm_73 _) (cb_of (n := 1) hn mw_2587 mw_13 mw_2584 mhX16_emitWord ⟨(Nat.le_of_ble_eq_true rfl), (Nat.le_of_ble_eq_true rfl)⟩) hx hb hml hown hn hK hSK hZ hS mw_2586 mw_s260 (ci := 16) (q0 := 0) rfl rfl rfl rfl hl.1 (Nat.le_of_ble_eq_true rfl) dX16_immediate_33 ⟨(Nat.le_of_ble_eq_true rfl), (Nat.le_of_ble_eq_true rfl)⟩) hP hD hS hA rfl rfl (by decide) (by decide) (by decide) (Nat.le_of_ble_eq_true rfl) (Nat.le_of_ble_eq_true rfl) (fun u33_2 H locs hp33_3 hP hD hS => ?_)
  obtain ⟨fs2_mm33_4, y_mm_7333_5, k_uwd33_6⟩ := u33_2
  obtain ⟨hp33_7, hp33_8, hp33_9, hp33_10⟩ := hp33_3
  have hs33_11 : SB fs_mm fs2_mm33_4 [73] := SB.trans (SB.rf _ _) hp33_7 (by decide)
  have hp33_8 : rg y_mm_7333_5 1 60000 := hp33_8
  replace hp33_10 : FF (y_mm_7333_5.toInt = x_mm_73.toInt + 1) := hp33_10
  have hP : va_P D vwCl [(mm, .inr (16, fs2_mm33_4)), (uwd, .inl (ct 1, 60000, .inl k_uwd33_6))] _ := hP
  have hD : va_D A [(mm, .inr (16, fs2_mm33_4)), (uwd, .inl (ct 1, 60000, .inl k_uwd33_6))] := hD
  exact endq_v hQ hx hb hr hlocks dX16_immediate_36 (fs2_mm33_4, y_mm_7333_5, k_uwd33_6) ⟨hs33_11, hp33_8, hp33_9, (show y_mm_7333_5.toInt = x_mm_73.toInt + 1 by have q0 := FF.out hp33_10; omega)⟩ hP hD hS [0, 1] rfl (by decide) rfl (Nat.le_of_ble_eq_true rfl) (Nat.le_of_ble_eq_true rfl)
set_option maxHeartbeats 2000000 in
theorem c_X16_storeWord (l : Launch) (D : va_G) (ct : Nat → ClassId) (mm : Nat) (v0 : Int32) (v1 : Int32) (v2 : Int32) (v3 : Int32) (fs_mm : List Value) (uwd : Nat) (x_mm_73 : Int32) (g_uwd : Nat → Int32) (hlen_mm : fs_mm.length = 78) (hf_mm_72 : fs_mm[72]? = some (.ref uwd)) (h_x_mm_73 : rg x_mm_73 0 59999) (hf_mm_73 : fs_mm[73]? = some (.int x_mm_73)) : KV (S := List Value × Int32 × (Nat → Int32)) l yX16_storeWord cX16_storeWord 5 none 2 42 D ct [.ref mm, .int v0, .int v1, .int v2, .int v3] [(mm, .inr (16, fs_mm)), (uwd, .inl (ct 1, 60000, .inl g_uwd))] 0 0 (fun (u : List Value × Int32 × (Nat → Int32)) => match u with | (fs2_mm, y_mm_73, k_uwd) => SB fs_mm fs2_mm [73] ∧ rg y_mm_73 1 60000 ∧ fs2_mm[73]? = some (.int y_mm_73) ∧ (y_mm_73.toInt = x_mm_73.toInt + 1)) (fun (u : List Value × Int32 × (Nat → Int32)) => match u with | (fs2_mm, y_mm_73, k_uwd) => [(mm, .inr (16, fs2_mm)), (uwd, .inl (ct 1, 60000, .inl k_uwd))]) := by
  refine KVq_of (by decide) (Nat.le_of_ble_eq_true rfl) (fun p e s m below meth c A Q C0 hA H locs hS hP hD hQ ls hl => ?_)
  obtain ⟨hx, hb, hr, hown, hin, hml, hlocks, hn, hK, hZ, hSK⟩ := C0
  have hl : lv_has ls 5 [(0, .ref mm), (1, .int v0), (2, .int v1), (3, .int v2), (4, .int v3)] := hl
  refine lv_aload_n hx hb dX16_storeWord_0 rfl (lv_at hl 0 rfl) ?_
  refine lv_iload hx hb dX16_storeWord_1 (lv_at hl 4 rfl) ?_
  refine lv_iconst (v := 5) hx hb dX16_storeWord_3 (by decide) ?_
  refine lv_ishr hx hb dX16_storeWord_4 ?_
  refine lv_topi (fun z4_1 ez4_1 => ?_)
  have r4_2 : rg z4_1 (-67108864) 67108863 := rg_shr (k := 5) ez4_1 (by decide) (rg_any v3) (by decide)
  refine lv_bipush (v := 127) hx hb dX16_storeWord_5 (by decide) ?_
  refine lv_iand hx hb dX16_storeWord_7 ?_
  refine lv_topi (fun z7_1 ez7_1 => ?_)
  have r7_2 : rg z7_1 0 127 := rg_andr ez7_1 (show rg (127 : Int32) 127 127 from rg_l (by decide)) (by decide)
  refine lv_i2l hx hb dX16_storeWord_8 rfl ?_
  refine lv_topl (fun z8_1 ez8_1 => ?_)
  have r8_2 : rl z8_1 0 127 := rl_i2l ez8_1 r7_2
  refine lv_bipush (v := 25) hx hb dX16_storeWord_9 (by decide) ?_
  refine lv_lshl hx hb dX16_storeWord_11 rfl ?_
  refine lv_topl (fun z11_1 ez11_1 => ?_)
  refine lv_iload_n hx hb dX16_storeWord_12 rfl (lv_at hl 3 rfl) ?_
  refine lv_bipush (v := 20) hx hb dX16_storeWord_13 (by decide) ?_
  refine lv_ishl hx hb dX16_storeWord_15 ?_
  refine lv_topi (fun z15_1 ez15_1 => ?_)
  refine lv_i2l hx hb dX16_storeWord_16 rfl ?_
  refine lv_topl (fun z16_1 ez16_1 => ?_)
  have r16_2 : rl z16_1 (-2147483648) 2147483647 := rl_i2l ez16_1 (rg_any z15_1)
  refine lv_lor hx hb dX16_storeWord_17 ?_
  refine lv_topl (fun z17_1 ez17_1 => ?_)
  refine lv_iload_n hx hb dX16_storeWord_18 rfl (lv_at hl 2 rfl) ?_
  refine lv_bipush (v := 15) hx hb dX16_storeWord_19 (by decide) ?_
  refine lv_ishl hx hb dX16_storeWord_21 ?_
  refine lv_topi (fun z21_1 ez21_1 => ?_)
  refine lv_i2l hx hb dX16_storeWord_22 rfl ?_
  refine lv_topl (fun z22_1 ez22_1 => ?_)
  have r22_2 : rl z22_1 (-2147483648) 2147483647 := rl_i2l ez22_1 (rg_any z21_1)
  refine lv_lor hx hb dX16_storeWord_23 ?_
  refine lv_topl (fun z23_1 ez23_1 => ?_)
  refine lv_iload_n hx hb dX16_storeWord_24 rfl (lv_at hl 1 rfl) ?_
  refine lv_bipush (v := 12) hx hb dX16_storeWord_25 (by decide) ?_
  refine lv_ishl hx hb dX16_storeWord_27 ?_
  refine lv_topi (fun z27_1 ez27_1 => ?_)
  refine lv_i2l hx hb dX16_storeWord_28 rfl ?_
  refine lv_topl (fun z28_1 ez28_1 => ?_)
  have r28_2 : rl z28_1 (-2147483648) 2147483647 := rl_i2l ez28_1 (rg_any z27_1)
  refine lv_lor hx hb dX16_storeWord_29 ?_
  refine lv_topl (fun z29_1 ez29_1 => ?_)
  refine lv_iload hx hb dX16_storeWord_30 (lv_at hl 4 rfl) ?_
  refine lv_bipush (v := 31) hx hb dX16_storeWord_32 (by decide) ?_
  refine lv_iand hx hb dX16_storeWord_34 ?_
  refine lv_topi (fun z34_1 ez34_1 => ?_)
  have r34_2 : rg z34_1 0 31 := rg_andr ez34_1 (show rg (31 : Int32) 31 31 from rg_l (by decide)) (by decide)
  refine lv_bipush (v := 7) hx hb dX16_storeWord_35 (by decide) ?_
  refine lv_ishl hx hb dX16_storeWord_37 ?_
  refine lv_topi (fun z37_1 ez37_1 => ?_)
  have r37_2 : rg z37_1 0 3968 := rg_shl (c := 128) (k := 7) ez37_1 (by decide) r34_2 (by decide)
  refine lv_i2l hx hb dX16_storeWord_38 rfl ?_
  refine lv_topl (fun z38_1 ez38_1 => ?_)
  have r38_2 : rl z38_1 0 3968 := rl_i2l ez38_1 r37_2
  refine lv_lor hx hb dX16_storeWord_39 ?_
  refine lv_topl (fun z39_1 ez39_1 => ?_)
  refine lv_ldc2 (v := 35) hx hb hown (hn.get mw_2644 rfl) dX16_storeWord_40 ?_
  refine lv_lor hx hb dX16_storeWord_43 ?_
  refine lv_topl (fun z43_1 ez43_1 => ?_)
  refine go_v (k1 := 0) (n1 := 0) (wr := []) [0, 1] [] (rn_V (As := [.long z43_1]) (rest := []) (c_X16_emitWord l D ct mm z43_1 fs_mm uwd x_mm_73 g_uwd hlen_mm hf_mm_72 h_x_mm_73 hf_mm_73 _) (cb_of (n := 1) hn mw_2587 mw_13 mw_2584 mhX16_emitWord ⟨(Nat.le_of_ble_eq_true rfl), (Nat.le_of_ble_eq_true rfl)⟩) hx hb hml hown hn hK hSK hZ hS mw_2586 mw_s260 (ci := 16) (q0 := 0) rfl rfl rfl rfl hl.1 (Nat.le_of_ble_eq_true rfl) dX16_storeWord_44 ⟨(Nat.le_of_ble_eq_true rfl), (Nat.le_of_ble_eq_true rfl)⟩) hP hD hS hA rfl rfl (by decide) (by decide) (by decide) (Nat.le_of_ble_eq_true rfl) (Nat.le_of_ble_eq_true rfl) (fun u44_2 H locs hp44_3 hP hD hS => ?_)
  obtain ⟨fs2_mm44_4, y_mm_7344_5, k_uwd44_6⟩ := u44_2
  obtain ⟨hp44_7, hp44_8, hp44_9, hp44_10⟩ := hp44_3
  have hs44_11 : SB fs_mm fs2_mm44_4 [73] := SB.trans (SB.rf _ _) hp44_7 (by decide)
  have hp44_8 : rg y_mm_7344_5 1 60000 := hp44_8
  replace hp44_10 : FF (y_mm_7344_5.toInt = x_mm_73.toInt + 1) := hp44_10
  have hP : va_P D vwCl [(mm, .inr (16, fs2_mm44_4)), (uwd, .inl (ct 1, 60000, .inl k_uwd44_6))] _ := hP
  have hD : va_D A [(mm, .inr (16, fs2_mm44_4)), (uwd, .inl (ct 1, 60000, .inl k_uwd44_6))] := hD
  exact endq_v hQ hx hb hr hlocks dX16_storeWord_47 (fs2_mm44_4, y_mm_7344_5, k_uwd44_6) ⟨hs44_11, hp44_8, hp44_9, (show y_mm_7344_5.toInt = x_mm_73.toInt + 1 by have q0 := FF.out hp44_10; omega)⟩ hP hD hS [0, 1] rfl (by decide) rfl (Nat.le_of_ble_eq_true rfl) (Nat.le_of_ble_eq_true rfl)
set_option maxHeartbeats 2000000 in
theorem c_X16_branch (l : Launch) (D : va_G) (ct : Nat → ClassId) (mm : Nat) (v0 : Int32) (v1 : Int32) (v2 : Int32) (v3 : Int32) (fs_mm : List Value) (uwd : Nat) (x_mm_73 : Int32) (g_uwd : Nat → Int32) (hlen_mm : fs_mm.length = 78) (hf_mm_72 : fs_mm[72]? = some (.ref uwd)) (h_x_mm_73 : rg x_mm_73 0 59999) (hf_mm_73 : fs_mm[73]? = some (.int x_mm_73)) : KV (S := List Value × Int32 × (Nat → Int32)) l yX16_branch cX16_branch 5 none 2 42 D ct [.ref mm, .int v0, .int v1, .int v2, .int v3] [(mm, .inr (16, fs_mm)), (uwd, .inl (ct 1, 60000, .inl g_uwd))] 0 0 (fun (u : List Value × Int32 × (Nat → Int32)) => match u with | (fs2_mm, y_mm_73, k_uwd) => SB fs_mm fs2_mm [73] ∧ rg y_mm_73 1 60000 ∧ fs2_mm[73]? = some (.int y_mm_73) ∧ (y_mm_73.toInt = x_mm_73.toInt + 1)) (fun (u : List Value × Int32 × (Nat → Int32)) => match u with | (fs2_mm, y_mm_73, k_uwd) => [(mm, .inr (16, fs2_mm)), (uwd, .inl (ct 1, 60000, .inl k_uwd))]) := by
  refine KVq_of (by decide) (Nat.le_of_ble_eq_true rfl) (fun p e s m below meth c A Q C0 hA H locs hS hP hD hQ ls hl => ?_)
  obtain ⟨hx, hb, hr, hown, hin, hml, hlocks, hn, hK, hZ, hSK⟩ := C0
  have hl : lv_has ls 5 [(0, .ref mm), (1, .int v0), (2, .int v1), (3, .int v2), (4, .int v3)] := hl
  refine lv_aload_n hx hb dX16_branch_0 rfl (lv_at hl 0 rfl) ?_
  refine lv_iload hx hb dX16_branch_1 (lv_at hl 4 rfl) ?_
  refine lv_bipush (v := 12) hx hb dX16_branch_3 (by decide) ?_
  refine lv_ishr hx hb dX16_branch_5 ?_
  refine lv_topi (fun z5_1 ez5_1 => ?_)
  have r5_2 : rg z5_1 (-524288) 524287 := rg_shr (k := 12) ez5_1 (by decide) (rg_any v3) (by decide)
  refine lv_iconst (v := 1) hx hb dX16_branch_6 (by decide) ?_
  refine lv_iand hx hb dX16_branch_7 ?_
  refine lv_topi (fun z7_1 ez7_1 => ?_)
  have r7_2 : rg z7_1 0 1 := rg_andr ez7_1 (show rg (1 : Int32) 1 1 from rg_l (by decide)) (by decide)
  refine lv_i2l hx hb dX16_branch_8 rfl ?_
  refine lv_topl (fun z8_1 ez8_1 => ?_)
  have r8_2 : rl z8_1 0 1 := rl_i2l ez8_1 r7_2
  refine lv_bipush (v := 31) hx hb dX16_branch_9 (by decide) ?_
  refine lv_lshl hx hb dX16_branch_11 rfl ?_
  refine lv_topl (fun z11_1 ez11_1 => ?_)
  refine lv_iload hx hb dX16_branch_12 (lv_at hl 4 rfl) ?_
  refine lv_iconst (v := 5) hx hb dX16_branch_14 (by decide) ?_
  refine lv_ishr hx hb dX16_branch_15 ?_
  refine lv_topi (fun z15_1 ez15_1 => ?_)
  have r15_2 : rg z15_1 (-67108864) 67108863 := rg_shr (k := 5) ez15_1 (by decide) (rg_any v3) (by decide)
  refine lv_bipush (v := 63) hx hb dX16_branch_16 (by decide) ?_
  refine lv_iand hx hb dX16_branch_18 ?_
  refine lv_topi (fun z18_1 ez18_1 => ?_)
  have r18_2 : rg z18_1 0 63 := rg_andr ez18_1 (show rg (63 : Int32) 63 63 from rg_l (by decide)) (by decide)
  refine lv_bipush (v := 25) hx hb dX16_branch_19 (by decide) ?_
  refine lv_ishl hx hb dX16_branch_21 ?_
  refine lv_topi (fun z21_1 ez21_1 => ?_)
  have r21_2 : rg z21_1 0 2113929216 := rg_shl (c := 33554432) (k := 25) ez21_1 (by decide) r18_2 (by decide)
  refine lv_i2l hx hb dX16_branch_22 rfl ?_
  refine lv_topl (fun z22_1 ez22_1 => ?_)
  have r22_2 : rl z22_1 0 2113929216 := rl_i2l ez22_1 r21_2
  refine lv_lor hx hb dX16_branch_23 ?_
  refine lv_topl (fun z23_1 ez23_1 => ?_)
  refine lv_iload_n hx hb dX16_branch_24 rfl (lv_at hl 3 rfl) ?_
  refine lv_bipush (v := 20) hx hb dX16_branch_25 (by decide) ?_
  refine lv_ishl hx hb dX16_branch_27 ?_
  refine lv_topi (fun z27_1 ez27_1 => ?_)
  refine lv_i2l hx hb dX16_branch_28 rfl ?_
  refine lv_topl (fun z28_1 ez28_1 => ?_)
  have r28_2 : rl z28_1 (-2147483648) 2147483647 := rl_i2l ez28_1 (rg_any z27_1)
  refine lv_lor hx hb dX16_branch_29 ?_
  refine lv_topl (fun z29_1 ez29_1 => ?_)
  refine lv_iload_n hx hb dX16_branch_30 rfl (lv_at hl 2 rfl) ?_
  refine lv_bipush (v := 15) hx hb dX16_branch_31 (by decide) ?_
  refine lv_ishl hx hb dX16_branch_33 ?_
  refine lv_topi (fun z33_1 ez33_1 => ?_)
  refine lv_i2l hx hb dX16_branch_34 rfl ?_
  refine lv_topl (fun z34_1 ez34_1 => ?_)
  have r34_2 : rl z34_1 (-2147483648) 2147483647 := rl_i2l ez34_1 (rg_any z33_1)
  refine lv_lor hx hb dX16_branch_35 ?_
  refine lv_topl (fun z35_1 ez35_1 => ?_)
  refine lv_iload_n hx hb dX16_branch_36 rfl (lv_at hl 1 rfl) ?_
  refine lv_bipush (v := 12) hx hb dX16_branch_37 (by decide) ?_
  refine lv_ishl hx hb dX16_branch_39 ?_
  refine lv_topi (fun z39_1 ez39_1 => ?_)
  refine lv_i2l hx hb dX16_branch_40 rfl ?_
  refine lv_topl (fun z40_1 ez40_1 => ?_)
  have r40_2 : rl z40_1 (-2147483648) 2147483647 := rl_i2l ez40_1 (rg_any z39_1)
  refine lv_lor hx hb dX16_branch_41 ?_
  refine lv_topl (fun z41_1 ez41_1 => ?_)
  refine lv_iload hx hb dX16_branch_42 (lv_at hl 4 rfl) ?_
  refine lv_iconst (v := 1) hx hb dX16_branch_44 (by decide) ?_
  refine lv_ishr hx hb dX16_branch_45 ?_
  refine lv_topi (fun z45_1 ez45_1 => ?_)
  have r45_2 : rg z45_1 (-1073741824) 1073741823 := rg_shr (k := 1) ez45_1 (by decide) (rg_any v3) (by decide)
  refine lv_bipush (v := 15) hx hb dX16_branch_46 (by decide) ?_
  refine lv_iand hx hb dX16_branch_48 ?_
  refine lv_topi (fun z48_1 ez48_1 => ?_)
  have r48_2 : rg z48_1 0 15 := rg_andr ez48_1 (show rg (15 : Int32) 15 15 from rg_l (by decide)) (by decide)
  refine lv_bipush (v := 8) hx hb dX16_branch_49 (by decide) ?_
  refine lv_ishl hx hb dX16_branch_51 ?_
  refine lv_topi (fun z51_1 ez51_1 => ?_)
  have r51_2 : rg z51_1 0 3840 := rg_shl (c := 256) (k := 8) ez51_1 (by decide) r48_2 (by decide)
  refine lv_i2l hx hb dX16_branch_52 rfl ?_
  refine lv_topl (fun z52_1 ez52_1 => ?_)
  have r52_2 : rl z52_1 0 3840 := rl_i2l ez52_1 r51_2
  refine lv_lor hx hb dX16_branch_53 ?_
  refine lv_topl (fun z53_1 ez53_1 => ?_)
  refine lv_iload hx hb dX16_branch_54 (lv_at hl 4 rfl) ?_
  refine lv_bipush (v := 11) hx hb dX16_branch_56 (by decide) ?_
  refine lv_ishr hx hb dX16_branch_58 ?_
  refine lv_topi (fun z58_1 ez58_1 => ?_)
  have r58_2 : rg z58_1 (-1048576) 1048575 := rg_shr (k := 11) ez58_1 (by decide) (rg_any v3) (by decide)
  refine lv_iconst (v := 1) hx hb dX16_branch_59 (by decide) ?_
  refine lv_iand hx hb dX16_branch_60 ?_
  refine lv_topi (fun z60_1 ez60_1 => ?_)
  have r60_2 : rg z60_1 0 1 := rg_andr ez60_1 (show rg (1 : Int32) 1 1 from rg_l (by decide)) (by decide)
  refine lv_bipush (v := 7) hx hb dX16_branch_61 (by decide) ?_
  refine lv_ishl hx hb dX16_branch_63 ?_
  refine lv_topi (fun z63_1 ez63_1 => ?_)
  have r63_2 : rg z63_1 0 128 := rg_shl (c := 128) (k := 7) ez63_1 (by decide) r60_2 (by decide)
  refine lv_i2l hx hb dX16_branch_64 rfl ?_
  refine lv_topl (fun z64_1 ez64_1 => ?_)
  have r64_2 : rl z64_1 0 128 := rl_i2l ez64_1 r63_2
  refine lv_lor hx hb dX16_branch_65 ?_
  refine lv_topl (fun z65_1 ez65_1 => ?_)
  refine lv_ldc2 (v := 99) hx hb hown (hn.get mw_2602 rfl) dX16_branch_66 ?_
  refine lv_lor hx hb dX16_branch_69 ?_
  refine lv_topl (fun z69_1 ez69_1 => ?_)
  refine go_v (k1 := 0) (n1 := 0) (wr := []) [0, 1] [] (rn_V (As := [.long z69_1]) (rest := []) (c_X16_emitWord l D ct mm z69_1 fs_mm uwd x_mm_73 g_uwd hlen_mm hf_mm_72 h_x_mm_73 hf_mm_73 _) (cb_of (n := 1) hn mw_2587 mw_13 mw_2584 mhX16_emitWord ⟨(Nat.le_of_ble_eq_true rfl), (Nat.le_of_ble_eq_true rfl)⟩) hx hb hml hown hn hK hSK hZ hS mw_2586 mw_s260 (ci := 16) (q0 := 0) rfl rfl rfl rfl hl.1 (Nat.le_of_ble_eq_true rfl) dX16_branch_70 ⟨(Nat.le_of_ble_eq_true rfl), (Nat.le_of_ble_eq_true rfl)⟩) hP hD hS hA rfl rfl (by decide) (by decide) (by decide) (Nat.le_of_ble_eq_true rfl) (Nat.le_of_ble_eq_true rfl) (fun u70_2 H locs hp70_3 hP hD hS => ?_)
  obtain ⟨fs2_mm70_4, y_mm_7370_5, k_uwd70_6⟩ := u70_2
  obtain ⟨hp70_7, hp70_8, hp70_9, hp70_10⟩ := hp70_3
  have hs70_11 : SB fs_mm fs2_mm70_4 [73] := SB.trans (SB.rf _ _) hp70_7 (by decide)
  have hp70_8 : rg y_mm_7370_5 1 60000 := hp70_8
  replace hp70_10 : FF (y_mm_7370_5.toInt = x_mm_73.toInt + 1) := hp70_10
  have hP : va_P D vwCl [(mm, .inr (16, fs2_mm70_4)), (uwd, .inl (ct 1, 60000, .inl k_uwd70_6))] _ := hP
  have hD : va_D A [(mm, .inr (16, fs2_mm70_4)), (uwd, .inl (ct 1, 60000, .inl k_uwd70_6))] := hD
  exact endq_v hQ hx hb hr hlocks dX16_branch_73 (fs2_mm70_4, y_mm_7370_5, k_uwd70_6) ⟨hs70_11, hp70_8, hp70_9, (show y_mm_7370_5.toInt = x_mm_73.toInt + 1 by have q0 := FF.out hp70_10; omega)⟩ hP hD hS [0, 1] rfl (by decide) rfl (Nat.le_of_ble_eq_true rfl) (Nat.le_of_ble_eq_true rfl)
set_option maxHeartbeats 2000000 in
theorem c_X16_jump (l : Launch) (D : va_G) (ct : Nat → ClassId) (v0 : Int32)  : KI (S := Unit) l yX16_jump cX16_jump 1 (some .int) 1 20 D ct [.int v0] [] 0 0 (fun (r : Int32) (_ : Unit) => True) (fun (_ : Unit) => []) := by
  refine KIq_of (by decide) (Nat.le_of_ble_eq_true rfl) (fun p e s m below meth c A Q C0 hA H locs hS hP hD hQ ls hl => ?_)
  obtain ⟨hx, hb, hr, hown, hin, hml, hlocks, hn, hK, hZ, hSK⟩ := C0
  have hl : lv_has ls 1 [(0, .int v0)] := hl
  refine lv_iload_n hx hb dX16_jump_0 rfl (lv_at hl 0 rfl) ?_
  refine lv_bipush (v := 20) hx hb dX16_jump_1 (by decide) ?_
  refine lv_ishr hx hb dX16_jump_3 ?_
  refine lv_topi (fun z3_1 ez3_1 => ?_)
  have r3_2 : rg z3_1 (-2048) 2047 := rg_shr (k := 20) ez3_1 (by decide) (rg_any v0) (by decide)
  refine lv_iconst (v := 1) hx hb dX16_jump_4 (by decide) ?_
  refine lv_iand hx hb dX16_jump_5 ?_
  refine lv_topi (fun z5_1 ez5_1 => ?_)
  have r5_2 : rg z5_1 0 1 := rg_andr ez5_1 (show rg (1 : Int32) 1 1 from rg_l (by decide)) (by decide)
  refine lv_bipush (v := 31) hx hb dX16_jump_6 (by decide) ?_
  refine lv_ishl hx hb dX16_jump_8 ?_
  refine lv_topi (fun z8_1 ez8_1 => ?_)
  refine lv_iload_n hx hb dX16_jump_9 rfl (lv_at hl 0 rfl) ?_
  refine lv_iconst (v := 1) hx hb dX16_jump_10 (by decide) ?_
  refine lv_ishr hx hb dX16_jump_11 ?_
  refine lv_topi (fun z11_1 ez11_1 => ?_)
  have r11_2 : rg z11_1 (-1073741824) 1073741823 := rg_shr (k := 1) ez11_1 (by decide) (rg_any v0) (by decide)
  refine lv_sipush (v := 1023) hx hb dX16_jump_12 (by decide) ?_
  refine lv_iand hx hb dX16_jump_15 ?_
  refine lv_topi (fun z15_1 ez15_1 => ?_)
  have r15_2 : rg z15_1 0 1023 := rg_andr ez15_1 (show rg (1023 : Int32) 1023 1023 from rg_l (by decide)) (by decide)
  refine lv_bipush (v := 21) hx hb dX16_jump_16 (by decide) ?_
  refine lv_ishl hx hb dX16_jump_18 ?_
  refine lv_topi (fun z18_1 ez18_1 => ?_)
  have r18_2 : rg z18_1 0 2145386496 := rg_shl (c := 2097152) (k := 21) ez18_1 (by decide) r15_2 (by decide)
  refine lv_ior hx hb dX16_jump_19 ?_
  refine lv_topi (fun z19_1 ez19_1 => ?_)
  refine lv_iload_n hx hb dX16_jump_20 rfl (lv_at hl 0 rfl) ?_
  refine lv_bipush (v := 11) hx hb dX16_jump_21 (by decide) ?_
  refine lv_ishr hx hb dX16_jump_23 ?_
  refine lv_topi (fun z23_1 ez23_1 => ?_)
  have r23_2 : rg z23_1 (-1048576) 1048575 := rg_shr (k := 11) ez23_1 (by decide) (rg_any v0) (by decide)
  refine lv_iconst (v := 1) hx hb dX16_jump_24 (by decide) ?_
  refine lv_iand hx hb dX16_jump_25 ?_
  refine lv_topi (fun z25_1 ez25_1 => ?_)
  have r25_2 : rg z25_1 0 1 := rg_andr ez25_1 (show rg (1 : Int32) 1 1 from rg_l (by decide)) (by decide)
  refine lv_bipush (v := 20) hx hb dX16_jump_26 (by decide) ?_
  refine lv_ishl hx hb dX16_jump_28 ?_
  refine lv_topi (fun z28_1 ez28_1 => ?_)
  have r28_2 : rg z28_1 0 1048576 := rg_shl (c := 1048576) (k := 20) ez28_1 (by decide) r25_2 (by decide)
  refine lv_ior hx hb dX16_jump_29 ?_
  refine lv_topi (fun z29_1 ez29_1 => ?_)
  refine lv_iload_n hx hb dX16_jump_30 rfl (lv_at hl 0 rfl) ?_
  refine lv_bipush (v := 12) hx hb dX16_jump_31 (by decide) ?_
  refine lv_ishr hx hb dX16_jump_33 ?_
  refine lv_topi (fun z33_1 ez33_1 => ?_)
  have r33_2 : rg z33_1 (-524288) 524287 := rg_shr (k := 12) ez33_1 (by decide) (rg_any v0) (by decide)
  refine lv_sipush (v := 255) hx hb dX16_jump_34 (by decide) ?_
  refine lv_iand hx hb dX16_jump_37 ?_
  refine lv_topi (fun z37_1 ez37_1 => ?_)
  have r37_2 : rg z37_1 0 255 := rg_andr ez37_1 (show rg (255 : Int32) 255 255 from rg_l (by decide)) (by decide)
  refine lv_bipush (v := 12) hx hb dX16_jump_38 (by decide) ?_
  refine lv_ishl hx hb dX16_jump_40 ?_
  refine lv_topi (fun z40_1 ez40_1 => ?_)
  have r40_2 : rg z40_1 0 1044480 := rg_shl (c := 4096) (k := 12) ez40_1 (by decide) r37_2 (by decide)
  refine lv_ior hx hb dX16_jump_41 ?_
  refine lv_topi (fun z41_1 ez41_1 => ?_)
  refine lv_bipush (v := 111) hx hb dX16_jump_42 (by decide) ?_
  refine lv_ior hx hb dX16_jump_44 ?_
  refine lv_topi (fun z44_1 ez44_1 => ?_)
  exact endq_i hQ hx hb hr hlocks dX16_jump_45 rfl () trivial hP hD hS [] rfl (by decide) rfl (Nat.le_of_ble_eq_true rfl) (Nat.le_of_ble_eq_true rfl)
set_option maxHeartbeats 2000000 in
theorem c_X16_add (l : Launch) (D : va_G) (ct : Nat → ClassId) (mm : Nat) (v0 : Int32) (v1 : Int32) (v2 : Int32) (fs_mm : List Value) (uwd : Nat) (x_mm_73 : Int32) (g_uwd : Nat → Int32) (hlen_mm : fs_mm.length = 78) (hf_mm_72 : fs_mm[72]? = some (.ref uwd)) (h_x_mm_73 : rg x_mm_73 0 59999) (hf_mm_73 : fs_mm[73]? = some (.int x_mm_73)) : KV (S := List Value × Int32 × (Nat → Int32)) l yX16_add cX16_add 4 none 3 68 D ct [.ref mm, .int v0, .int v1, .int v2] [(mm, .inr (16, fs_mm)), (uwd, .inl (ct 1, 60000, .inl g_uwd))] 0 0 (fun (u : List Value × Int32 × (Nat → Int32)) => match u with | (fs2_mm, y_mm_73, k_uwd) => SB fs_mm fs2_mm [73] ∧ rg y_mm_73 1 60000 ∧ fs2_mm[73]? = some (.int y_mm_73) ∧ (y_mm_73.toInt = x_mm_73.toInt + 1)) (fun (u : List Value × Int32 × (Nat → Int32)) => match u with | (fs2_mm, y_mm_73, k_uwd) => [(mm, .inr (16, fs2_mm)), (uwd, .inl (ct 1, 60000, .inl k_uwd))]) := by
  refine KVq_of (by decide) (Nat.le_of_ble_eq_true rfl) (fun p e s m below meth c A Q C0 hA H locs hS hP hD hQ ls hl => ?_)
  obtain ⟨hx, hb, hr, hown, hin, hml, hlocks, hn, hK, hZ, hSK⟩ := C0
  have hl : lv_has ls 4 [(0, .ref mm), (1, .int v0), (2, .int v1), (3, .int v2)] := hl
  refine lv_aload_n hx hb dX16_add_0 rfl (lv_at hl 0 rfl) ?_
  refine lv_bipush (v := 51) hx hb dX16_add_1 (by decide) ?_
  refine lv_iconst (v := 0) hx hb dX16_add_3 (by decide) ?_
  refine lv_iconst (v := 0) hx hb dX16_add_4 (by decide) ?_
  refine lv_iload_n hx hb dX16_add_5 rfl (lv_at hl 1 rfl) ?_
  refine lv_iload_n hx hb dX16_add_6 rfl (lv_at hl 2 rfl) ?_
  refine lv_iload_n hx hb dX16_add_7 rfl (lv_at hl 3 rfl) ?_
  refine go_v (k1 := 0) (n1 := 0) (wr := []) [0, 1] [] (rn_V (As := [.int 51, .int 0, .int 0, .int v0, .int v1, .int v2]) (rest := []) (c_X16_three l D ct mm (51 : Int32) (0 : Int32) (0 : Int32) v0 v1 v2 fs_mm uwd x_mm_73 g_uwd hlen_mm hf_mm_72 h_x_mm_73 hf_mm_73 _) (cb_of (n := 6) hn mw_2606 mw_13 mw_2603 mhX16_three ⟨(Nat.le_of_ble_eq_true rfl), (Nat.le_of_ble_eq_true rfl)⟩) hx hb hml hown hn hK hSK hZ hS mw_2605 mw_s264 (ci := 16) (q0 := 0) rfl rfl rfl rfl hl.1 (Nat.le_of_ble_eq_true rfl) dX16_add_8 ⟨(Nat.le_of_ble_eq_true rfl), (Nat.le_of_ble_eq_true rfl)⟩) hP hD hS hA rfl rfl (by decide) (by decide) (by decide) (Nat.le_of_ble_eq_true rfl) (Nat.le_of_ble_eq_true rfl) (fun u8_2 H locs hp8_3 hP hD hS => ?_)
  obtain ⟨fs2_mm8_4, y_mm_738_5, k_uwd8_6⟩ := u8_2
  obtain ⟨hp8_7, hp8_8, hp8_9, hp8_10⟩ := hp8_3
  have hs8_11 : SB fs_mm fs2_mm8_4 [73] := SB.trans (SB.rf _ _) hp8_7 (by decide)
  have hp8_8 : rg y_mm_738_5 1 60000 := hp8_8
  replace hp8_10 : FF (y_mm_738_5.toInt = x_mm_73.toInt + 1) := hp8_10
  have hP : va_P D vwCl [(mm, .inr (16, fs2_mm8_4)), (uwd, .inl (ct 1, 60000, .inl k_uwd8_6))] _ := hP
  have hD : va_D A [(mm, .inr (16, fs2_mm8_4)), (uwd, .inl (ct 1, 60000, .inl k_uwd8_6))] := hD
  exact endq_v hQ hx hb hr hlocks dX16_add_11 (fs2_mm8_4, y_mm_738_5, k_uwd8_6) ⟨hs8_11, hp8_8, hp8_9, (show y_mm_738_5.toInt = x_mm_73.toInt + 1 by have q0 := FF.out hp8_10; omega)⟩ hP hD hS [0, 1] rfl (by decide) rfl (Nat.le_of_ble_eq_true rfl) (Nat.le_of_ble_eq_true rfl)
set_option maxHeartbeats 2000000 in
theorem c_X16_addNumber (l : Launch) (D : va_G) (ct : Nat → ClassId) (mm : Nat) (v0 : Int32) (v1 : Int32) (v2 : Int32) (fs_mm : List Value) (uwd : Nat) (x_mm_73 : Int32) (g_uwd : Nat → Int32) (hlen_mm : fs_mm.length = 78) (hf_mm_72 : fs_mm[72]? = some (.ref uwd)) (h_x_mm_73 : rg x_mm_73 0 59999) (hf_mm_73 : fs_mm[73]? = some (.int x_mm_73)) : KV (S := List Value × Int32 × (Nat → Int32)) l yX16_addNumber cX16_addNumber 4 none 3 67 D ct [.ref mm, .int v0, .int v1, .int v2] [(mm, .inr (16, fs_mm)), (uwd, .inl (ct 1, 60000, .inl g_uwd))] 0 0 (fun (u : List Value × Int32 × (Nat → Int32)) => match u with | (fs2_mm, y_mm_73, k_uwd) => SB fs_mm fs2_mm [73] ∧ rg y_mm_73 1 60000 ∧ fs2_mm[73]? = some (.int y_mm_73) ∧ (y_mm_73.toInt = x_mm_73.toInt + 1)) (fun (u : List Value × Int32 × (Nat → Int32)) => match u with | (fs2_mm, y_mm_73, k_uwd) => [(mm, .inr (16, fs2_mm)), (uwd, .inl (ct 1, 60000, .inl k_uwd))]) := by
  refine KVq_of (by decide) (Nat.le_of_ble_eq_true rfl) (fun p e s m below meth c A Q C0 hA H locs hS hP hD hQ ls hl => ?_)
  obtain ⟨hx, hb, hr, hown, hin, hml, hlocks, hn, hK, hZ, hSK⟩ := C0
  have hl : lv_has ls 4 [(0, .ref mm), (1, .int v0), (2, .int v1), (3, .int v2)] := hl
  refine lv_aload_n hx hb dX16_addNumber_0 rfl (lv_at hl 0 rfl) ?_
  refine lv_bipush (v := 19) hx hb dX16_addNumber_1 (by decide) ?_
  refine lv_iconst (v := 0) hx hb dX16_addNumber_3 (by decide) ?_
  refine lv_iload_n hx hb dX16_addNumber_4 rfl (lv_at hl 1 rfl) ?_
  refine lv_iload_n hx hb dX16_addNumber_5 rfl (lv_at hl 2 rfl) ?_
  refine lv_iload_n hx hb dX16_addNumber_6 rfl (lv_at hl 3 rfl) ?_
  refine go_v (k1 := 0) (n1 := 0) (wr := []) [0, 1] [] (rn_V (As := [.int 19, .int 0, .int v0, .int v1, .int v2]) (rest := []) (c_X16_immediate l D ct mm (19 : Int32) (0 : Int32) v0 v1 v2 fs_mm uwd x_mm_73 g_uwd hlen_mm hf_mm_72 h_x_mm_73 hf_mm_73 _) (cb_of (n := 5) hn mw_2583 mw_13 mw_2580 mhX16_immediate ⟨(Nat.le_of_ble_eq_true rfl), (Nat.le_of_ble_eq_true rfl)⟩) hx hb hml hown hn hK hSK hZ hS mw_2582 mw_s259 (ci := 16) (q0 := 0) rfl rfl rfl rfl hl.1 (Nat.le_of_ble_eq_true rfl) dX16_addNumber_7 ⟨(Nat.le_of_ble_eq_true rfl), (Nat.le_of_ble_eq_true rfl)⟩) hP hD hS hA rfl rfl (by decide) (by decide) (by decide) (Nat.le_of_ble_eq_true rfl) (Nat.le_of_ble_eq_true rfl) (fun u7_2 H locs hp7_3 hP hD hS => ?_)
  obtain ⟨fs2_mm7_4, y_mm_737_5, k_uwd7_6⟩ := u7_2
  obtain ⟨hp7_7, hp7_8, hp7_9, hp7_10⟩ := hp7_3
  have hs7_11 : SB fs_mm fs2_mm7_4 [73] := SB.trans (SB.rf _ _) hp7_7 (by decide)
  have hp7_8 : rg y_mm_737_5 1 60000 := hp7_8
  replace hp7_10 : FF (y_mm_737_5.toInt = x_mm_73.toInt + 1) := hp7_10
  have hP : va_P D vwCl [(mm, .inr (16, fs2_mm7_4)), (uwd, .inl (ct 1, 60000, .inl k_uwd7_6))] _ := hP
  have hD : va_D A [(mm, .inr (16, fs2_mm7_4)), (uwd, .inl (ct 1, 60000, .inl k_uwd7_6))] := hD
  exact endq_v hQ hx hb hr hlocks dX16_addNumber_10 (fs2_mm7_4, y_mm_737_5, k_uwd7_6) ⟨hs7_11, hp7_8, hp7_9, (show y_mm_737_5.toInt = x_mm_73.toInt + 1 by have q0 := FF.out hp7_10; omega)⟩ hP hD hS [0, 1] rfl (by decide) rfl (Nat.le_of_ble_eq_true rfl) (Nat.le_of_ble_eq_true rfl)
set_option maxHeartbeats 2000000 in
theorem c_X16_addNumberWord (l : Launch) (D : va_G) (ct : Nat → ClassId) (mm : Nat) (v0 : Int32) (v1 : Int32) (v2 : Int32) (fs_mm : List Value) (uwd : Nat) (x_mm_73 : Int32) (g_uwd : Nat → Int32) (hlen_mm : fs_mm.length = 78) (hf_mm_72 : fs_mm[72]? = some (.ref uwd)) (h_x_mm_73 : rg x_mm_73 0 59999) (hf_mm_73 : fs_mm[73]? = some (.int x_mm_73)) : KV (S := List Value × Int32 × (Nat → Int32)) l yX16_addNumberWord cX16_addNumberWord 4 none 3 67 D ct [.ref mm, .int v0, .int v1, .int v2] [(mm, .inr (16, fs_mm)), (uwd, .inl (ct 1, 60000, .inl g_uwd))] 0 0 (fun (u : List Value × Int32 × (Nat → Int32)) => match u with | (fs2_mm, y_mm_73, k_uwd) => SB fs_mm fs2_mm [73] ∧ rg y_mm_73 1 60000 ∧ fs2_mm[73]? = some (.int y_mm_73) ∧ (y_mm_73.toInt = x_mm_73.toInt + 1)) (fun (u : List Value × Int32 × (Nat → Int32)) => match u with | (fs2_mm, y_mm_73, k_uwd) => [(mm, .inr (16, fs2_mm)), (uwd, .inl (ct 1, 60000, .inl k_uwd))]) := by
  refine KVq_of (by decide) (Nat.le_of_ble_eq_true rfl) (fun p e s m below meth c A Q C0 hA H locs hS hP hD hQ ls hl => ?_)
  obtain ⟨hx, hb, hr, hown, hin, hml, hlocks, hn, hK, hZ, hSK⟩ := C0
  have hl : lv_has ls 4 [(0, .ref mm), (1, .int v0), (2, .int v1), (3, .int v2)] := hl
  refine lv_aload_n hx hb dX16_addNumberWord_0 rfl (lv_at hl 0 rfl) ?_
  refine lv_bipush (v := 27) hx hb dX16_addNumberWord_1 (by decide) ?_
  refine lv_iconst (v := 0) hx hb dX16_addNumberWord_3 (by decide) ?_
  refine lv_iload_n hx hb dX16_addNumberWord_4 rfl (lv_at hl 1 rfl) ?_
  refine lv_iload_n hx hb dX16_addNumberWord_5 rfl (lv_at hl 2 rfl) ?_
  refine lv_iload_n hx hb dX16_addNumberWord_6 rfl (lv_at hl 3 rfl) ?_
  refine go_v (k1 := 0) (n1 := 0) (wr := []) [0, 1] [] (rn_V (As := [.int 27, .int 0, .int v0, .int v1, .int v2]) (rest := []) (c_X16_immediate l D ct mm (27 : Int32) (0 : Int32) v0 v1 v2 fs_mm uwd x_mm_73 g_uwd hlen_mm hf_mm_72 h_x_mm_73 hf_mm_73 _) (cb_of (n := 5) hn mw_2583 mw_13 mw_2580 mhX16_immediate ⟨(Nat.le_of_ble_eq_true rfl), (Nat.le_of_ble_eq_true rfl)⟩) hx hb hml hown hn hK hSK hZ hS mw_2582 mw_s259 (ci := 16) (q0 := 0) rfl rfl rfl rfl hl.1 (Nat.le_of_ble_eq_true rfl) dX16_addNumberWord_7 ⟨(Nat.le_of_ble_eq_true rfl), (Nat.le_of_ble_eq_true rfl)⟩) hP hD hS hA rfl rfl (by decide) (by decide) (by decide) (Nat.le_of_ble_eq_true rfl) (Nat.le_of_ble_eq_true rfl) (fun u7_2 H locs hp7_3 hP hD hS => ?_)
  obtain ⟨fs2_mm7_4, y_mm_737_5, k_uwd7_6⟩ := u7_2
  obtain ⟨hp7_7, hp7_8, hp7_9, hp7_10⟩ := hp7_3
  have hs7_11 : SB fs_mm fs2_mm7_4 [73] := SB.trans (SB.rf _ _) hp7_7 (by decide)
  have hp7_8 : rg y_mm_737_5 1 60000 := hp7_8
  replace hp7_10 : FF (y_mm_737_5.toInt = x_mm_73.toInt + 1) := hp7_10
  have hP : va_P D vwCl [(mm, .inr (16, fs2_mm7_4)), (uwd, .inl (ct 1, 60000, .inl k_uwd7_6))] _ := hP
  have hD : va_D A [(mm, .inr (16, fs2_mm7_4)), (uwd, .inl (ct 1, 60000, .inl k_uwd7_6))] := hD
  exact endq_v hQ hx hb hr hlocks dX16_addNumberWord_10 (fs2_mm7_4, y_mm_737_5, k_uwd7_6) ⟨hs7_11, hp7_8, hp7_9, (show y_mm_737_5.toInt = x_mm_73.toInt + 1 by have q0 := FF.out hp7_10; omega)⟩ hP hD hS [0, 1] rfl (by decide) rfl (Nat.le_of_ble_eq_true rfl) (Nat.le_of_ble_eq_true rfl)
set_option maxHeartbeats 2000000 in
theorem c_X16_shiftLeft (l : Launch) (D : va_G) (ct : Nat → ClassId) (mm : Nat) (v0 : Int32) (v1 : Int32) (v2 : Int32) (fs_mm : List Value) (uwd : Nat) (x_mm_73 : Int32) (g_uwd : Nat → Int32) (hlen_mm : fs_mm.length = 78) (hf_mm_72 : fs_mm[72]? = some (.ref uwd)) (h_x_mm_73 : rg x_mm_73 0 59999) (hf_mm_73 : fs_mm[73]? = some (.int x_mm_73)) : KV (S := List Value × Int32 × (Nat → Int32)) l yX16_shiftLeft cX16_shiftLeft 4 none 3 67 D ct [.ref mm, .int v0, .int v1, .int v2] [(mm, .inr (16, fs_mm)), (uwd, .inl (ct 1, 60000, .inl g_uwd))] 0 0 (fun (u : List Value × Int32 × (Nat → Int32)) => match u with | (fs2_mm, y_mm_73, k_uwd) => SB fs_mm fs2_mm [73] ∧ rg y_mm_73 1 60000 ∧ fs2_mm[73]? = some (.int y_mm_73) ∧ (y_mm_73.toInt = x_mm_73.toInt + 1)) (fun (u : List Value × Int32 × (Nat → Int32)) => match u with | (fs2_mm, y_mm_73, k_uwd) => [(mm, .inr (16, fs2_mm)), (uwd, .inl (ct 1, 60000, .inl k_uwd))]) := by
  refine KVq_of (by decide) (Nat.le_of_ble_eq_true rfl) (fun p e s m below meth c A Q C0 hA H locs hS hP hD hQ ls hl => ?_)
  obtain ⟨hx, hb, hr, hown, hin, hml, hlocks, hn, hK, hZ, hSK⟩ := C0
  have hl : lv_has ls 4 [(0, .ref mm), (1, .int v0), (2, .int v1), (3, .int v2)] := hl
  refine lv_aload_n hx hb dX16_shiftLeft_0 rfl (lv_at hl 0 rfl) ?_
  refine lv_bipush (v := 19) hx hb dX16_shiftLeft_1 (by decide) ?_
  refine lv_iconst (v := 1) hx hb dX16_shiftLeft_3 (by decide) ?_
  refine lv_iload_n hx hb dX16_shiftLeft_4 rfl (lv_at hl 1 rfl) ?_
  refine lv_iload_n hx hb dX16_shiftLeft_5 rfl (lv_at hl 2 rfl) ?_
  refine lv_iload_n hx hb dX16_shiftLeft_6 rfl (lv_at hl 3 rfl) ?_
  refine go_v (k1 := 0) (n1 := 0) (wr := []) [0, 1] [] (rn_V (As := [.int 19, .int 1, .int v0, .int v1, .int v2]) (rest := []) (c_X16_immediate l D ct mm (19 : Int32) (1 : Int32) v0 v1 v2 fs_mm uwd x_mm_73 g_uwd hlen_mm hf_mm_72 h_x_mm_73 hf_mm_73 _) (cb_of (n := 5) hn mw_2583 mw_13 mw_2580 mhX16_immediate ⟨(Nat.le_of_ble_eq_true rfl), (Nat.le_of_ble_eq_true rfl)⟩) hx hb hml hown hn hK hSK hZ hS mw_2582 mw_s259 (ci := 16) (q0 := 0) rfl rfl rfl rfl hl.1 (Nat.le_of_ble_eq_true rfl) dX16_shiftLeft_7 ⟨(Nat.le_of_ble_eq_true rfl), (Nat.le_of_ble_eq_true rfl)⟩) hP hD hS hA rfl rfl (by decide) (by decide) (by decide) (Nat.le_of_ble_eq_true rfl) (Nat.le_of_ble_eq_true rfl) (fun u7_2 H locs hp7_3 hP hD hS => ?_)
  obtain ⟨fs2_mm7_4, y_mm_737_5, k_uwd7_6⟩ := u7_2
  obtain ⟨hp7_7, hp7_8, hp7_9, hp7_10⟩ := hp7_3
  have hs7_11 : SB fs_mm fs2_mm7_4 [73] := SB.trans (SB.rf _ _) hp7_7 (by decide)
  have hp7_8 : rg y_mm_737_5 1 60000 := hp7_8
  replace hp7_10 : FF (y_mm_737_5.toInt = x_mm_73.toInt + 1) := hp7_10
  have hP : va_P D vwCl [(mm, .inr (16, fs2_mm7_4)), (uwd, .inl (ct 1, 60000, .inl k_uwd7_6))] _ := hP
  have hD : va_D A [(mm, .inr (16, fs2_mm7_4)), (uwd, .inl (ct 1, 60000, .inl k_uwd7_6))] := hD
  exact endq_v hQ hx hb hr hlocks dX16_shiftLeft_10 (fs2_mm7_4, y_mm_737_5, k_uwd7_6) ⟨hs7_11, hp7_8, hp7_9, (show y_mm_737_5.toInt = x_mm_73.toInt + 1 by have q0 := FF.out hp7_10; omega)⟩ hP hD hS [0, 1] rfl (by decide) rfl (Nat.le_of_ble_eq_true rfl) (Nat.le_of_ble_eq_true rfl)
set_option maxHeartbeats 2000000 in
theorem c_X16_number__ (l : Launch) (D : va_G) (ct : Nat → ClassId) (mm : Nat) (v0 : Int32) (v1 : Int32) (fs_mm : List Value) (uwd : Nat) (x_mm_73 : Int32) (g_uwd : Nat → Int32) (hlen_mm : fs_mm.length = 78) (hf_mm_72 : fs_mm[72]? = some (.ref uwd)) (h_x_mm_73 : rg x_mm_73 0 59998) (hf_mm_73 : fs_mm[73]? = some (.int x_mm_73)) : KV (S := List Value × Int32 × (Nat → Int32)) l yX16_number__ cX16_number__ 3 none 4 90 D ct [.ref mm, .int v0, .int v1] [(mm, .inr (16, fs_mm)), (uwd, .inl (ct 1, 60000, .inl g_uwd))] 0 0 (fun (u : List Value × Int32 × (Nat → Int32)) => match u with | (fs2_mm, y_mm_73, k_uwd) => SB fs_mm fs2_mm [73] ∧ rg y_mm_73 1 60000 ∧ fs2_mm[73]? = some (.int y_mm_73) ∧ (x_mm_73.toInt + 1 ≤ y_mm_73.toInt ∧ y_mm_73.toInt ≤ x_mm_73.toInt + 2)) (fun (u : List Value × Int32 × (Nat → Int32)) => match u with | (fs2_mm, y_mm_73, k_uwd) => [(mm, .inr (16, fs2_mm)), (uwd, .inl (ct 1, 60000, .inl k_uwd))]) := by
  refine KVq_of (by decide) (Nat.le_of_ble_eq_true rfl) (fun p e s m below meth c A Q C0 hA H locs hS hP hD hQ ls hl => ?_)
  obtain ⟨hx, hb, hr, hown, hin, hml, hlocks, hn, hK, hZ, hSK⟩ := C0
  have hl : lv_has ls 3 [(0, .ref mm), (1, .int v0), (2, .int v1)] := hl
  refine lv_iload_n hx hb dX16_number___0 rfl (lv_at hl 2 rfl) ?_
  refine lv_sipush (v := (-2048)) hx hb dX16_number___1 (by decide) ?_
  have b22 : ∀  (H : Heap) (locs : List Loc) (ls : Array Slot), lv_has ls 3 [(0, .ref mm), (1, .int v0), (2, .int v1)] → va_P D vwCl [(mm, .inr (16, fs_mm)), (uwd, .inl (ct 1, 60000, .inl g_uwd))] H → va_D A [(mm, .inr (16, fs_mm)), (uwd, .inl (ct 1, 60000, .inl g_uwd))] → va_S A s.heap H locs → W p l e ({ frames := 4, cells := 0, slots := 0, locals := 90 }) s m [.ref mm, .int v0, .int v1].toArray below meth c H locs 0 0 Q (F0 m 22 ls []) := by
    intro  H locs ls  hl hP hD hS
    refine lv_aload_n hx hb dX16_number___22 rfl (lv_at hl 0 rfl) ?_
    refine lv_iload_n hx hb dX16_number___23 rfl (lv_at hl 2 rfl) ?_
    refine lv_sipush (v := 2048) hx hb dX16_number___24 (by decide) ?_
    refine lv_iadd hx hb dX16_number___27 ?_
    refine lv_topi (fun z27_1 ez27_1 => ?_)
    refine lv_i2l hx hb dX16_number___28 rfl ?_
    refine lv_topl (fun z28_1 ez28_1 => ?_)
    have r28_2 : rl z28_1 (-2147483648) 2147483647 := rl_i2l ez28_1 (rg_any z27_1)
    refine lv_ldc2 (v := 4294963200) hx hb hown (hn.get mw_2588 rfl) dX16_number___29 ?_
    refine lv_land hx hb dX16_number___32 ?_
    refine lv_topl (fun z32_1 ez32_1 => ?_)
    have r32_2 : rl z32_1 0 4294963200 := rgL_andr ez32_1 (show rl (4294963200 : Int64) 4294963200 4294963200 from rl_l (by decide)) (by decide)
    refine lv_iload_n hx hb dX16_number___33 rfl (lv_at hl 1 rfl) ?_
    refine lv_bipush (v := 7) hx hb dX16_number___34 (by decide) ?_
    refine lv_ishl hx hb dX16_number___36 ?_
    refine lv_topi (fun z36_1 ez36_1 => ?_)
    refine lv_i2l hx hb dX16_number___37 rfl ?_
    refine lv_topl (fun z37_1 ez37_1 => ?_)
    have r37_2 : rl z37_1 (-2147483648) 2147483647 := rl_i2l ez37_1 (rg_any z36_1)
    refine lv_lor hx hb dX16_number___38 ?_
    refine lv_topl (fun z38_1 ez38_1 => ?_)
    refine lv_ldc2 (v := 55) hx hb hown (hn.get mw_2589 rfl) dX16_number___39 ?_
    refine lv_lor hx hb dX16_number___42 ?_
    refine lv_topl (fun z42_1 ez42_1 => ?_)
    refine go_v (k1 := 0) (n1 := 0) (wr := []) [0, 1] [] (rn_V (As := [.long z42_1]) (rest := []) (c_X16_emitWord l D ct mm z42_1 fs_mm uwd x_mm_73 g_uwd hlen_mm hf_mm_72 (rg_w h_x_mm_73 (by decide)) hf_mm_73 _) (cb_of (n := 1) hn mw_2587 mw_13 mw_2584 mhX16_emitWord ⟨(Nat.le_of_ble_eq_true rfl), (Nat.le_of_ble_eq_true rfl)⟩) hx hb hml hown hn hK hSK hZ hS mw_2586 mw_s260 (ci := 16) (q0 := 0) rfl rfl rfl rfl hl.1 (Nat.le_of_ble_eq_true rfl) dX16_number___43 ⟨(Nat.le_of_ble_eq_true rfl), (Nat.le_of_ble_eq_true rfl)⟩) hP hD hS hA rfl rfl (by decide) (by decide) (by decide) (Nat.le_of_ble_eq_true rfl) (Nat.le_of_ble_eq_true rfl) (fun u43_2 H locs hp43_3 hP hD hS => ?_)
    obtain ⟨fs2_mm43_4, y_mm_7343_5, k_uwd43_6⟩ := u43_2
    obtain ⟨hp43_7, hp43_8, hp43_9, hp43_10⟩ := hp43_3
    have hs43_11 : SB fs_mm fs2_mm43_4 [73] := SB.trans (SB.rf _ _) hp43_7 (by decide)
    have hp43_8 : rg y_mm_7343_5 1 60000 := hp43_8
    replace hp43_10 : FF (y_mm_7343_5.toInt = x_mm_73.toInt + 1) := hp43_10
    have hP : va_P D vwCl [(mm, .inr (16, fs2_mm43_4)), (uwd, .inl (ct 1, 60000, .inl k_uwd43_6))] _ := hP
    have hD : va_D A [(mm, .inr (16, fs2_mm43_4)), (uwd, .inl (ct 1, 60000, .inl k_uwd43_6))] := hD
    refine lv_aload_n hx hb dX16_number___46 rfl (lv_at hl 0 rfl) ?_
    refine lv_iload_n hx hb dX16_number___47 rfl (lv_at hl 1 rfl) ?_
    refine lv_iload_n hx hb dX16_number___48 rfl (lv_at hl 1 rfl) ?_
    refine lv_iload_n hx hb dX16_number___49 rfl (lv_at hl 2 rfl) ?_
    refine go_v (k1 := 0) (n1 := 0) (wr := []) [0, 1] [] (rn_V (As := [.int v0, .int v0, .int v1]) (rest := []) (c_X16_addNumberWord l D ct mm v0 v0 v1 fs2_mm43_4 uwd y_mm_7343_5 k_uwd43_6 (hs43_11.1.trans hlen_mm) (SB.get hs43_11 (by decide) hf_mm_72) (rg_of (show 0 ≤ y_mm_7343_5.toInt ∧ y_mm_7343_5.toInt ≤ 59999 by have q0 := hp43_8.1; have q1 := h_x_mm_73.2; have q2 := FF.out hp43_10; omega)) hp43_9 _) (cb_of (n := 3) hn mw_2593 mw_13 mw_2590 mhX16_addNumberWord ⟨(Nat.le_of_ble_eq_true rfl), (Nat.le_of_ble_eq_true rfl)⟩) hx hb hml hown hn hK hSK hZ hS mw_2592 mw_s261 (ci := 16) (q0 := 0) rfl rfl rfl rfl hl.1 (Nat.le_of_ble_eq_true rfl) dX16_number___50 ⟨(Nat.le_of_ble_eq_true rfl), (Nat.le_of_ble_eq_true rfl)⟩) hP hD hS hA rfl rfl (by decide) (by decide) (by decide) (Nat.le_of_ble_eq_true rfl) (Nat.le_of_ble_eq_true rfl) (fun u50_2 H locs hp50_3 hP hD hS => ?_)
    obtain ⟨fs2_mm50_4, y_mm_7350_5, k_uwd50_6⟩ := u50_2
    obtain ⟨hp50_7, hp50_8, hp50_9, hp50_10⟩ := hp50_3
    have hs50_11 : SB fs_mm fs2_mm50_4 [73] := SB.trans hs43_11 hp50_7 (by decide)
    have hp50_8 : rg y_mm_7350_5 1 60000 := hp50_8
    replace hp50_10 : FF (y_mm_7350_5.toInt = y_mm_7343_5.toInt + 1) := hp50_10
    have hP : va_P D vwCl [(mm, .inr (16, fs2_mm50_4)), (uwd, .inl (ct 1, 60000, .inl k_uwd50_6))] _ := hP
    have hD : va_D A [(mm, .inr (16, fs2_mm50_4)), (uwd, .inl (ct 1, 60000, .inl k_uwd50_6))] := hD
    exact endq_v hQ hx hb hr hlocks dX16_number___53 (fs2_mm50_4, y_mm_7350_5, k_uwd50_6) ⟨hs50_11, hp50_8, hp50_9, (show x_mm_73.toInt + 1 ≤ y_mm_7350_5.toInt ∧ y_mm_7350_5.toInt ≤ x_mm_73.toInt + 2 by have q0 := FF.out hp43_10; have q1 := FF.out hp50_10; omega)⟩ hP hD hS [0, 1] rfl (by decide) rfl (Nat.le_of_ble_eq_true rfl) (Nat.le_of_ble_eq_true rfl)
  refine lv_icmp_lt (tgt := 22) hx hb dX16_number___4 (by decide) (fun c4_1 => ?_) (fun c4_1 => ?_)
  · have t4_2 := FF.mk (i_lt c4_1)
    have r4_3 : rg v1 (-2147483648) (-2049) := rg_ltA t4_2 (rg_any v1) (show rg ((-2048) : Int32) (-2048) (-2048) from rg_l (by decide)) (by decide)
    exact b22  H locs ls  (lv_sub hl [0, 1, 2] rfl) hP hD hS
  · have t4_2 := FF.mk (i_nlt c4_1)
    have r4_3 : rg v1 (-2048) 2147483647 := rg_leB t4_2 (show rg ((-2048) : Int32) (-2048) (-2048) from rg_l (by decide)) (rg_any v1) (by decide)
    refine lv_iload_n hx hb dX16_number___7 rfl (lv_at hl 2 rfl) ?_
    refine lv_sipush (v := 2047) hx hb dX16_number___8 (by decide) ?_
    refine lv_icmp_gt (tgt := 22) hx hb dX16_number___11 (by decide) (fun c11_1 => ?_) (fun c11_1 => ?_)
    · have t11_2 := FF.mk (i_lt c11_1)
      have r11_3 : rg v1 2048 2147483647 := rg_ltB t11_2 (show rg (2047 : Int32) 2047 2047 from rg_l (by decide)) r4_3 (by decide)
      exact b22  H locs ls  (lv_sub hl [0, 1, 2] rfl) hP hD hS
    · have t11_2 := FF.mk (i_nlt c11_1)
      have r11_3 : rg v1 (-2048) 2047 := rg_leA t11_2 r4_3 (show rg (2047 : Int32) 2047 2047 from rg_l (by decide)) (by decide)
      refine lv_aload_n hx hb dX16_number___14 rfl (lv_at hl 0 rfl) ?_
      refine lv_iload_n hx hb dX16_number___15 rfl (lv_at hl 1 rfl) ?_
      refine lv_iconst (v := 0) hx hb dX16_number___16 (by decide) ?_
      refine lv_iload_n hx hb dX16_number___17 rfl (lv_at hl 2 rfl) ?_
      refine go_v (k1 := 0) (n1 := 0) (wr := []) [0, 1] [] (rn_V (As := [.int v0, .int 0, .int v1]) (rest := []) (c_X16_addNumber l D ct mm v0 (0 : Int32) v1 fs_mm uwd x_mm_73 g_uwd hlen_mm hf_mm_72 (rg_w h_x_mm_73 (by decide)) hf_mm_73 _) (cb_of (n := 3) hn mw_2579 mw_13 mw_2576 mhX16_addNumber ⟨(Nat.le_of_ble_eq_true rfl), (Nat.le_of_ble_eq_true rfl)⟩) hx hb hml hown hn hK hSK hZ hS mw_2578 mw_s258 (ci := 16) (q0 := 0) rfl rfl rfl rfl hl.1 (Nat.le_of_ble_eq_true rfl) dX16_number___18 ⟨(Nat.le_of_ble_eq_true rfl), (Nat.le_of_ble_eq_true rfl)⟩) hP hD hS hA rfl rfl (by decide) (by decide) (by decide) (Nat.le_of_ble_eq_true rfl) (Nat.le_of_ble_eq_true rfl) (fun u18_2 H locs hp18_3 hP hD hS => ?_)
      obtain ⟨fs2_mm18_4, y_mm_7318_5, k_uwd18_6⟩ := u18_2
      obtain ⟨hp18_7, hp18_8, hp18_9, hp18_10⟩ := hp18_3
      have hs18_11 : SB fs_mm fs2_mm18_4 [73] := SB.trans (SB.rf _ _) hp18_7 (by decide)
      have hp18_8 : rg y_mm_7318_5 1 60000 := hp18_8
      replace hp18_10 : FF (y_mm_7318_5.toInt = x_mm_73.toInt + 1) := hp18_10
      have hP : va_P D vwCl [(mm, .inr (16, fs2_mm18_4)), (uwd, .inl (ct 1, 60000, .inl k_uwd18_6))] _ := hP
      have hD : va_D A [(mm, .inr (16, fs2_mm18_4)), (uwd, .inl (ct 1, 60000, .inl k_uwd18_6))] := hD
      exact endq_v hQ hx hb hr hlocks dX16_number___21 (fs2_mm18_4, y_mm_7318_5, k_uwd18_6) ⟨hs18_11, hp18_8, hp18_9, (show x_mm_73.toInt + 1 ≤ y_mm_7318_5.toInt ∧ y_mm_7318_5.toInt ≤ x_mm_73.toInt + 2 by have q0 := FF.out hp18_10; omega)⟩ hP hD hS [0, 1] rfl (by decide) rfl (Nat.le_of_ble_eq_true rfl) (Nat.le_of_ble_eq_true rfl)
set_option maxHeartbeats 2000000 in
theorem c_X16_zeroHigh (l : Launch) (D : va_G) (ct : Nat → ClassId) (mm : Nat) (v0 : Int32) (fs_mm : List Value) (uwd : Nat) (x_mm_73 : Int32) (g_uwd : Nat → Int32) (hlen_mm : fs_mm.length = 78) (hf_mm_72 : fs_mm[72]? = some (.ref uwd)) (h_x_mm_73 : rg x_mm_73 0 59998) (hf_mm_73 : fs_mm[73]? = some (.int x_mm_73)) : KV (S := List Value × Int32 × (Nat → Int32)) l yX16_zeroHigh cX16_zeroHigh 2 none 4 90 D ct [.ref mm, .int v0] [(mm, .inr (16, fs_mm)), (uwd, .inl (ct 1, 60000, .inl g_uwd))] 0 0 (fun (u : List Value × Int32 × (Nat → Int32)) => match u with | (fs2_mm, y_mm_73, k_uwd) => SB fs_mm fs2_mm [73] ∧ rg y_mm_73 1 60000 ∧ fs2_mm[73]? = some (.int y_mm_73) ∧ (x_mm_73.toInt + 1 ≤ y_mm_73.toInt ∧ y_mm_73.toInt ≤ x_mm_73.toInt + 2)) (fun (u : List Value × Int32 × (Nat → Int32)) => match u with | (fs2_mm, y_mm_73, k_uwd) => [(mm, .inr (16, fs2_mm)), (uwd, .inl (ct 1, 60000, .inl k_uwd))]) := by
  refine KVq_of (by decide) (Nat.le_of_ble_eq_true rfl) (fun p e s m below meth c A Q C0 hA H locs hS hP hD hQ ls hl => ?_)
  obtain ⟨hx, hb, hr, hown, hin, hml, hlocks, hn, hK, hZ, hSK⟩ := C0
  have hl : lv_has ls 2 [(0, .ref mm), (1, .int v0)] := hl
  refine lv_aload_n hx hb dX16_zeroHigh_0 rfl (lv_at hl 0 rfl) ?_
  refine lv_iload_n hx hb dX16_zeroHigh_1 rfl (lv_at hl 1 rfl) ?_
  refine lv_iload_n hx hb dX16_zeroHigh_2 rfl (lv_at hl 1 rfl) ?_
  refine lv_bipush (v := 32) hx hb dX16_zeroHigh_3 (by decide) ?_
  refine go_v (k1 := 0) (n1 := 0) (wr := []) [0, 1] [] (rn_V (As := [.int v0, .int v0, .int 32]) (rest := []) (c_X16_shiftLeft l D ct mm v0 v0 (32 : Int32) fs_mm uwd x_mm_73 g_uwd hlen_mm hf_mm_72 (rg_w h_x_mm_73 (by decide)) hf_mm_73 _) (cb_of (n := 3) hn mw_2621 mw_13 mw_2618 mhX16_shiftLeft ⟨(Nat.le_of_ble_eq_true rfl), (Nat.le_of_ble_eq_true rfl)⟩) hx hb hml hown hn hK hSK hZ hS mw_2620 mw_s267 (ci := 16) (q0 := 0) rfl rfl rfl rfl hl.1 (Nat.le_of_ble_eq_true rfl) dX16_zeroHigh_5 ⟨(Nat.le_of_ble_eq_true rfl), (Nat.le_of_ble_eq_true rfl)⟩) hP hD hS hA rfl rfl (by decide) (by decide) (by decide) (Nat.le_of_ble_eq_true rfl) (Nat.le_of_ble_eq_true rfl) (fun u5_2 H locs hp5_3 hP hD hS => ?_)
  obtain ⟨fs2_mm5_4, y_mm_735_5, k_uwd5_6⟩ := u5_2
  obtain ⟨hp5_7, hp5_8, hp5_9, hp5_10⟩ := hp5_3
  have hs5_11 : SB fs_mm fs2_mm5_4 [73] := SB.trans (SB.rf _ _) hp5_7 (by decide)
  have hp5_8 : rg y_mm_735_5 1 60000 := hp5_8
  replace hp5_10 : FF (y_mm_735_5.toInt = x_mm_73.toInt + 1) := hp5_10
  have hP : va_P D vwCl [(mm, .inr (16, fs2_mm5_4)), (uwd, .inl (ct 1, 60000, .inl k_uwd5_6))] _ := hP
  have hD : va_D A [(mm, .inr (16, fs2_mm5_4)), (uwd, .inl (ct 1, 60000, .inl k_uwd5_6))] := hD
  refine lv_aload_n hx hb dX16_zeroHigh_8 rfl (lv_at hl 0 rfl) ?_
  refine lv_bipush (v := 19) hx hb dX16_zeroHigh_9 (by decide) ?_
  refine lv_iconst (v := 5) hx hb dX16_zeroHigh_11 (by decide) ?_
  refine lv_iload_n hx hb dX16_zeroHigh_12 rfl (lv_at hl 1 rfl) ?_
  refine lv_iload_n hx hb dX16_zeroHigh_13 rfl (lv_at hl 1 rfl) ?_
  refine lv_bipush (v := 32) hx hb dX16_zeroHigh_14 (by decide) ?_
  refine go_v (k1 := 0) (n1 := 0) (wr := []) [0, 1] [] (rn_V (As := [.int 19, .int 5, .int v0, .int v0, .int 32]) (rest := []) (c_X16_immediate l D ct mm (19 : Int32) (5 : Int32) v0 v0 (32 : Int32) fs2_mm5_4 uwd y_mm_735_5 k_uwd5_6 (hs5_11.1.trans hlen_mm) (SB.get hs5_11 (by decide) hf_mm_72) (rg_of (show 0 ≤ y_mm_735_5.toInt ∧ y_mm_735_5.toInt ≤ 59999 by have q0 := hp5_8.1; have q1 := h_x_mm_73.2; have q2 := FF.out hp5_10; omega)) hp5_9 _) (cb_of (n := 5) hn mw_2583 mw_13 mw_2580 mhX16_immediate ⟨(Nat.le_of_ble_eq_true rfl), (Nat.le_of_ble_eq_true rfl)⟩) hx hb hml hown hn hK hSK hZ hS mw_2582 mw_s259 (ci := 16) (q0 := 0) rfl rfl rfl rfl hl.1 (Nat.le_of_ble_eq_true rfl) dX16_zeroHigh_16 ⟨(Nat.le_of_ble_eq_true rfl), (Nat.le_of_ble_eq_true rfl)⟩) hP hD hS hA rfl rfl (by decide) (by decide) (by decide) (Nat.le_of_ble_eq_true rfl) (Nat.le_of_ble_eq_true rfl) (fun u16_2 H locs hp16_3 hP hD hS => ?_)
  obtain ⟨fs2_mm16_4, y_mm_7316_5, k_uwd16_6⟩ := u16_2
  obtain ⟨hp16_7, hp16_8, hp16_9, hp16_10⟩ := hp16_3
  have hs16_11 : SB fs_mm fs2_mm16_4 [73] := SB.trans hs5_11 hp16_7 (by decide)
  have hp16_8 : rg y_mm_7316_5 1 60000 := hp16_8
  replace hp16_10 : FF (y_mm_7316_5.toInt = y_mm_735_5.toInt + 1) := hp16_10
  have hP : va_P D vwCl [(mm, .inr (16, fs2_mm16_4)), (uwd, .inl (ct 1, 60000, .inl k_uwd16_6))] _ := hP
  have hD : va_D A [(mm, .inr (16, fs2_mm16_4)), (uwd, .inl (ct 1, 60000, .inl k_uwd16_6))] := hD
  exact endq_v hQ hx hb hr hlocks dX16_zeroHigh_19 (fs2_mm16_4, y_mm_7316_5, k_uwd16_6) ⟨hs16_11, hp16_8, hp16_9, (show x_mm_73.toInt + 1 ≤ y_mm_7316_5.toInt ∧ y_mm_7316_5.toInt ≤ x_mm_73.toInt + 2 by have q0 := FF.out hp5_10; have q1 := FF.out hp16_10; omega)⟩ hP hD hS [0, 1] rfl (by decide) rfl (Nat.le_of_ble_eq_true rfl) (Nat.le_of_ble_eq_true rfl)
set_option maxHeartbeats 2000000 in
theorem c_X16_registerOf (l : Launch) (D : va_G) (ct : Nat → ClassId) (v0 : Int32)  : KI (S := Unit) l yX16_registerOf cX16_registerOf 1 (some .int) 1 20 D ct [.int v0] [] 0 0 (fun (r : Int32) (_ : Unit) => True) (fun (_ : Unit) => []) := by
  refine KIq_of (by decide) (Nat.le_of_ble_eq_true rfl) (fun p e s m below meth c A Q C0 hA H locs hS hP hD hQ ls hl => ?_)
  obtain ⟨hx, hb, hr, hown, hin, hml, hlocks, hn, hK, hZ, hSK⟩ := C0
  have hl : lv_has ls 1 [(0, .int v0)] := hl
  refine lv_iload_n hx hb dX16_registerOf_0 rfl (lv_at hl 0 rfl) ?_
  refine lv_iconst (v := 5) hx hb dX16_registerOf_1 (by decide) ?_
  refine lv_icmp_gt (tgt := 12) hx hb dX16_registerOf_2 (by decide) (fun c2_1 => ?_) (fun c2_1 => ?_)
  · have t2_2 := FF.mk (i_lt c2_1)
    have r2_3 : rg v0 6 2147483647 := rg_ltB t2_2 (show rg (5 : Int32) 5 5 from rg_l (by decide)) (rg_any v0) (by decide)
    refine lv_bipush (v := 12) hx hb dX16_registerOf_12 (by decide) ?_
    refine lv_iload_n hx hb dX16_registerOf_14 rfl (lv_at hl 0 rfl) ?_
    refine lv_iadd hx hb dX16_registerOf_15 ?_
    refine lv_topi (fun z15_1 ez15_1 => ?_)
    exact endq_i hQ hx hb hr hlocks dX16_registerOf_16 rfl () trivial hP hD hS [] rfl (by decide) rfl (Nat.le_of_ble_eq_true rfl) (Nat.le_of_ble_eq_true rfl)
  · have t2_2 := FF.mk (i_nlt c2_1)
    have r2_3 : rg v0 (-2147483648) 5 := rg_leA t2_2 (rg_any v0) (show rg (5 : Int32) 5 5 from rg_l (by decide)) (by decide)
    refine lv_bipush (v := 10) hx hb dX16_registerOf_5 (by decide) ?_
    refine lv_iload_n hx hb dX16_registerOf_7 rfl (lv_at hl 0 rfl) ?_
    refine lv_iadd hx hb dX16_registerOf_8 ?_
    refine lv_topi (fun z8_1 ez8_1 => ?_)
    have r8_2 : rg z8_1 (-2147483638) 15 := rg_add ez8_1 (show rg (10 : Int32) 10 10 from rg_l (by decide)) r2_3 (by decide)
    refine lv_goto (tgt := 16) hx hb dX16_registerOf_9 (by decide) ?_
    exact endq_i hQ hx hb hr hlocks dX16_registerOf_16 rfl () trivial hP hD hS [] rfl (by decide) rfl (Nat.le_of_ble_eq_true rfl) (Nat.le_of_ble_eq_true rfl)
set_option maxHeartbeats 2000000 in
theorem c_X16_sumWord (l : Launch) (D : va_G) (ct : Nat → ClassId) (mm : Nat) (v0 : Int32) (v1 : Int32) (v2 : Int32) (v3 : Int32) (fs_mm : List Value) (uwd : Nat) (x_mm_73 : Int32) (g_uwd : Nat → Int32) (h_v1 : rg v1 0 1) (hlen_mm : fs_mm.length = 78) (hf_mm_72 : fs_mm[72]? = some (.ref uwd)) (h_x_mm_73 : rg x_mm_73 0 59999) (hf_mm_73 : fs_mm[73]? = some (.int x_mm_73)) : KV (S := List Value × Int32 × (Nat → Int32)) l yX16_sumWord cX16_sumWord 6 none 3 68 D ct [.ref mm, .int v0, .int v1, .int v2, .int v3] [(mm, .inr (16, fs_mm)), (uwd, .inl (ct 1, 60000, .inl g_uwd))] 0 0 (fun (u : List Value × Int32 × (Nat → Int32)) => match u with | (fs2_mm, y_mm_73, k_uwd) => SB fs_mm fs2_mm [73] ∧ rg y_mm_73 1 60000 ∧ fs2_mm[73]? = some (.int y_mm_73) ∧ (y_mm_73.toInt = x_mm_73.toInt + 1)) (fun (u : List Value × Int32 × (Nat → Int32)) => match u with | (fs2_mm, y_mm_73, k_uwd) => [(mm, .inr (16, fs2_mm)), (uwd, .inl (ct 1, 60000, .inl k_uwd))]) := by
  refine KVq_of (by decide) (Nat.le_of_ble_eq_true rfl) (fun p e s m below meth c A Q C0 hA H locs hS hP hD hQ ls hl => ?_)
  obtain ⟨hx, hb, hr, hown, hin, hml, hlocks, hn, hK, hZ, hSK⟩ := C0
  have hl : lv_has ls 6 [(0, .ref mm), (1, .int v0), (2, .int v1), (3, .int v2), (4, .int v3)] := hl
  refine lv_iload_n hx hb dX16_sumWord_0 rfl (lv_at hl 2 rfl) ?_
  have b11 : ∀ (j11_s0 : Int32) (H : Heap) (locs : List Loc) (ls : Array Slot), (rg j11_s0 51 59) → lv_has ls 6 [(0, .ref mm), (1, .int v0), (3, .int v2), (4, .int v3)] → va_P D vwCl [(mm, .inr (16, fs_mm)), (uwd, .inl (ct 1, 60000, .inl g_uwd))] H → va_D A [(mm, .inr (16, fs_mm)), (uwd, .inl (ct 1, 60000, .inl g_uwd))] → va_S A s.heap H locs → W p l e ({ frames := 3, cells := 0, slots := 0, locals := 68 }) s m [.ref mm, .int v0, .int v1, .int v2, .int v3].toArray below meth c H locs 0 0 Q (F0 m 11 ls [.int j11_s0]) := by
    intro j11_s0 H locs ls r11_1001 hl hP hD hS
    refine lv_istore (lv' := [(5, .int j11_s0), (0, .ref mm), (1, .int v0), (3, .int v2), (4, .int v3)]) hx hb dX16_sumWord_11 hl (by decide) rfl (fun ls hl => ?_)
    refine lv_iload_n hx hb dX16_sumWord_13 rfl (lv_at hl 2 rfl) ?_
    have b226 : ∀  (H : Heap) (locs : List Loc) (ls : Array Slot), lv_has ls 6 [(0, .ref mm), (3, .int v2), (4, .int v3), (5, .int j11_s0)] → va_P D vwCl [(mm, .inr (16, fs_mm)), (uwd, .inl (ct 1, 60000, .inl g_uwd))] H → va_D A [(mm, .inr (16, fs_mm)), (uwd, .inl (ct 1, 60000, .inl g_uwd))] → va_S A s.heap H locs → W p l e ({ frames := 3, cells := 0, slots := 0, locals := 68 }) s m [.ref mm, .int v0, .int v1, .int v2, .int v3].toArray below meth c H locs 0 0 Q (F0 m 226 ls []) := by
      intro  H locs ls  hl hP hD hS
      refine lv_aload_n hx hb dX16_sumWord_226 rfl (lv_at hl 0 rfl) ?_
      refine lv_iload hx hb dX16_sumWord_227 (lv_at hl 3 rfl) ?_
      refine lv_iconst (v := 5) hx hb dX16_sumWord_229 (by decide) ?_
      refine lv_bipush (v := 32) hx hb dX16_sumWord_230 (by decide) ?_
      refine lv_iload_n hx hb dX16_sumWord_232 rfl (lv_at hl 1 rfl) ?_
      refine lv_iload_n hx hb dX16_sumWord_233 rfl (lv_at hl 1 rfl) ?_
      refine lv_iload hx hb dX16_sumWord_234 (lv_at hl 2 rfl) ?_
      refine go_v (k1 := 0) (n1 := 0) (wr := []) [0, 1] [] (rn_V (As := [.int j11_s0, .int 5, .int 32, .int v2, .int v2, .int v3]) (rest := []) (c_X16_three l D ct mm j11_s0 (5 : Int32) (32 : Int32) v2 v2 v3 fs_mm uwd x_mm_73 g_uwd hlen_mm hf_mm_72 h_x_mm_73 hf_mm_73 _) (cb_of (n := 6) hn mw_2606 mw_13 mw_2603 mhX16_three ⟨(Nat.le_of_ble_eq_true rfl), (Nat.le_of_ble_eq_true rfl)⟩) hx hb hml hown hn hK hSK hZ hS mw_2605 mw_s264 (ci := 16) (q0 := 0) rfl rfl rfl rfl hl.1 (Nat.le_of_ble_eq_true rfl) dX16_sumWord_236 ⟨(Nat.le_of_ble_eq_true rfl), (Nat.le_of_ble_eq_true rfl)⟩) hP hD hS hA rfl rfl (by decide) (by decide) (by decide) (Nat.le_of_ble_eq_true rfl) (Nat.le_of_ble_eq_true rfl) (fun u236_2 H locs hp236_3 hP hD hS => ?_)
      obtain ⟨fs2_mm236_4, y_mm_73236_5, k_uwd236_6⟩ := u236_2
      obtain ⟨hp236_7, hp236_8, hp236_9, hp236_10⟩ := hp236_3
      have hs236_11 : SB fs_mm fs2_mm236_4 [73] := SB.trans (SB.rf _ _) hp236_7 (by decide)
      have hp236_8 : rg y_mm_73236_5 1 60000 := hp236_8
      replace hp236_10 : FF (y_mm_73236_5.toInt = x_mm_73.toInt + 1) := hp236_10
      have hP : va_P D vwCl [(mm, .inr (16, fs2_mm236_4)), (uwd, .inl (ct 1, 60000, .inl k_uwd236_6))] _ := hP
      have hD : va_D A [(mm, .inr (16, fs2_mm236_4)), (uwd, .inl (ct 1, 60000, .inl k_uwd236_6))] := hD
      exact endq_v hQ hx hb hr hlocks dX16_sumWord_239 (fs2_mm236_4, y_mm_73236_5, k_uwd236_6) ⟨hs236_11, hp236_8, hp236_9, (show y_mm_73236_5.toInt = x_mm_73.toInt + 1 by have q0 := FF.out hp236_10; omega)⟩ hP hD hS [0, 1] rfl (by decide) rfl (Nat.le_of_ble_eq_true rfl) (Nat.le_of_ble_eq_true rfl)
    by_cases h14_101 : v0.toInt = 0
    · have r14_102 : rg v0 0 0 := rg_at h14_101
      refine lv_tableIn (off := 58) (tgt := 72) hx hb dX16_sumWord_14 (by rw [h14_101]; decide) (by rw [h14_101]; decide) (by rw [h14_101]; rfl) (by decide) ?_
      refine lv_aload_n hx hb dX16_sumWord_72 rfl (lv_at hl 1 rfl) ?_
      refine lv_iload hx hb dX16_sumWord_73 (lv_at hl 0 rfl) ?_
      refine lv_iconst (v := 0) hx hb dX16_sumWord_75 (by decide) ?_
      refine lv_iconst (v := 0) hx hb dX16_sumWord_76 (by decide) ?_
      refine lv_iload_n hx hb dX16_sumWord_77 rfl (lv_at hl 3 rfl) ?_
      refine lv_iload_n hx hb dX16_sumWord_78 rfl (lv_at hl 3 rfl) ?_
      refine lv_iload hx hb dX16_sumWord_79 (lv_at hl 4 rfl) ?_
      refine go_v (k1 := 0) (n1 := 0) (wr := []) [0, 1] [] (rn_V (As := [.int j11_s0, .int 0, .int 0, .int v2, .int v2, .int v3]) (rest := []) (c_X16_three l D ct mm j11_s0 (0 : Int32) (0 : Int32) v2 v2 v3 fs_mm uwd x_mm_73 g_uwd hlen_mm hf_mm_72 h_x_mm_73 hf_mm_73 _) (cb_of (n := 6) hn mw_2606 mw_13 mw_2603 mhX16_three ⟨(Nat.le_of_ble_eq_true rfl), (Nat.le_of_ble_eq_true rfl)⟩) hx hb hml hown hn hK hSK hZ hS mw_2605 mw_s264 (ci := 16) (q0 := 0) rfl rfl rfl rfl hl.1 (Nat.le_of_ble_eq_true rfl) dX16_sumWord_81 ⟨(Nat.le_of_ble_eq_true rfl), (Nat.le_of_ble_eq_true rfl)⟩) hP hD hS hA rfl rfl (by decide) (by decide) (by decide) (Nat.le_of_ble_eq_true rfl) (Nat.le_of_ble_eq_true rfl) (fun u81_2 H locs hp81_3 hP hD hS => ?_)
      obtain ⟨fs2_mm81_4, y_mm_7381_5, k_uwd81_6⟩ := u81_2
      obtain ⟨hp81_7, hp81_8, hp81_9, hp81_10⟩ := hp81_3
      have hs81_11 : SB fs_mm fs2_mm81_4 [73] := SB.trans (SB.rf _ _) hp81_7 (by decide)
      have hp81_8 : rg y_mm_7381_5 1 60000 := hp81_8
      replace hp81_10 : FF (y_mm_7381_5.toInt = x_mm_73.toInt + 1) := hp81_10
      have hP : va_P D vwCl [(mm, .inr (16, fs2_mm81_4)), (uwd, .inl (ct 1, 60000, .inl k_uwd81_6))] _ := hP
      have hD : va_D A [(mm, .inr (16, fs2_mm81_4)), (uwd, .inl (ct 1, 60000, .inl k_uwd81_6))] := hD
      refine lv_goto (tgt := 239) hx hb dX16_sumWord_84 (by decide) ?_
      exact endq_v hQ hx hb hr hlocks dX16_sumWord_239 (fs2_mm81_4, y_mm_7381_5, k_uwd81_6) ⟨hs81_11, hp81_8, hp81_9, (show y_mm_7381_5.toInt = x_mm_73.toInt + 1 by have q0 := FF.out hp81_10; omega)⟩ hP hD hS [0, 1] rfl (by decide) rfl (Nat.le_of_ble_eq_true rfl) (Nat.le_of_ble_eq_true rfl)
    by_cases h14_111 : v0.toInt = 1
    · have r14_112 : rg v0 1 1 := rg_at h14_111
      refine lv_tableIn (off := 73) (tgt := 87) hx hb dX16_sumWord_14 (by rw [h14_111]; decide) (by rw [h14_111]; decide) (by rw [h14_111]; rfl) (by decide) ?_
      refine lv_aload_n hx hb dX16_sumWord_87 rfl (lv_at hl 1 rfl) ?_
      refine lv_iload hx hb dX16_sumWord_88 (lv_at hl 0 rfl) ?_
      refine lv_iconst (v := 0) hx hb dX16_sumWord_90 (by decide) ?_
      refine lv_bipush (v := 32) hx hb dX16_sumWord_91 (by decide) ?_
      refine lv_iload_n hx hb dX16_sumWord_93 rfl (lv_at hl 3 rfl) ?_
      refine lv_iload_n hx hb dX16_sumWord_94 rfl (lv_at hl 3 rfl) ?_
      refine lv_iload hx hb dX16_sumWord_95 (lv_at hl 4 rfl) ?_
      refine go_v (k1 := 0) (n1 := 0) (wr := []) [0, 1] [] (rn_V (As := [.int j11_s0, .int 0, .int 32, .int v2, .int v2, .int v3]) (rest := []) (c_X16_three l D ct mm j11_s0 (0 : Int32) (32 : Int32) v2 v2 v3 fs_mm uwd x_mm_73 g_uwd hlen_mm hf_mm_72 h_x_mm_73 hf_mm_73 _) (cb_of (n := 6) hn mw_2606 mw_13 mw_2603 mhX16_three ⟨(Nat.le_of_ble_eq_true rfl), (Nat.le_of_ble_eq_true rfl)⟩) hx hb hml hown hn hK hSK hZ hS mw_2605 mw_s264 (ci := 16) (q0 := 0) rfl rfl rfl rfl hl.1 (Nat.le_of_ble_eq_true rfl) dX16_sumWord_97 ⟨(Nat.le_of_ble_eq_true rfl), (Nat.le_of_ble_eq_true rfl)⟩) hP hD hS hA rfl rfl (by decide) (by decide) (by decide) (Nat.le_of_ble_eq_true rfl) (Nat.le_of_ble_eq_true rfl) (fun u97_2 H locs hp97_3 hP hD hS => ?_)
      obtain ⟨fs2_mm97_4, y_mm_7397_5, k_uwd97_6⟩ := u97_2
      obtain ⟨hp97_7, hp97_8, hp97_9, hp97_10⟩ := hp97_3
      have hs97_11 : SB fs_mm fs2_mm97_4 [73] := SB.trans (SB.rf _ _) hp97_7 (by decide)
      have hp97_8 : rg y_mm_7397_5 1 60000 := hp97_8
      replace hp97_10 : FF (y_mm_7397_5.toInt = x_mm_73.toInt + 1) := hp97_10
      have hP : va_P D vwCl [(mm, .inr (16, fs2_mm97_4)), (uwd, .inl (ct 1, 60000, .inl k_uwd97_6))] _ := hP
      have hD : va_D A [(mm, .inr (16, fs2_mm97_4)), (uwd, .inl (ct 1, 60000, .inl k_uwd97_6))] := hD
      refine lv_goto (tgt := 239) hx hb dX16_sumWord_100 (by decide) ?_
      exact endq_v hQ hx hb hr hlocks dX16_sumWord_239 (fs2_mm97_4, y_mm_7397_5, k_uwd97_6) ⟨hs97_11, hp97_8, hp97_9, (show y_mm_7397_5.toInt = x_mm_73.toInt + 1 by have q0 := FF.out hp97_10; omega)⟩ hP hD hS [0, 1] rfl (by decide) rfl (Nat.le_of_ble_eq_true rfl) (Nat.le_of_ble_eq_true rfl)
    by_cases h14_121 : v0.toInt = 2
    · have r14_122 : rg v0 2 2 := rg_at h14_121
      refine lv_tableIn (off := 89) (tgt := 103) hx hb dX16_sumWord_14 (by rw [h14_121]; decide) (by rw [h14_121]; decide) (by rw [h14_121]; rfl) (by decide) ?_
      refine lv_aload_n hx hb dX16_sumWord_103 rfl (lv_at hl 1 rfl) ?_
      refine lv_iload hx hb dX16_sumWord_104 (lv_at hl 0 rfl) ?_
      refine lv_iconst (v := 0) hx hb dX16_sumWord_106 (by decide) ?_
      refine lv_iconst (v := 1) hx hb dX16_sumWord_107 (by decide) ?_
      refine lv_iload_n hx hb dX16_sumWord_108 rfl (lv_at hl 3 rfl) ?_
      refine lv_iload_n hx hb dX16_sumWord_109 rfl (lv_at hl 3 rfl) ?_
      refine lv_iload hx hb dX16_sumWord_110 (lv_at hl 4 rfl) ?_
      refine go_v (k1 := 0) (n1 := 0) (wr := []) [0, 1] [] (rn_V (As := [.int j11_s0, .int 0, .int 1, .int v2, .int v2, .int v3]) (rest := []) (c_X16_three l D ct mm j11_s0 (0 : Int32) (1 : Int32) v2 v2 v3 fs_mm uwd x_mm_73 g_uwd hlen_mm hf_mm_72 h_x_mm_73 hf_mm_73 _) (cb_of (n := 6) hn mw_2606 mw_13 mw_2603 mhX16_three ⟨(Nat.le_of_ble_eq_true rfl), (Nat.le_of_ble_eq_true rfl)⟩) hx hb hml hown hn hK hSK hZ hS mw_2605 mw_s264 (ci := 16) (q0 := 0) rfl rfl rfl rfl hl.1 (Nat.le_of_ble_eq_true rfl) dX16_sumWord_112 ⟨(Nat.le_of_ble_eq_true rfl), (Nat.le_of_ble_eq_true rfl)⟩) hP hD hS hA rfl rfl (by decide) (by decide) (by decide) (Nat.le_of_ble_eq_true rfl) (Nat.le_of_ble_eq_true rfl) (fun u112_2 H locs hp112_3 hP hD hS => ?_)
      obtain ⟨fs2_mm112_4, y_mm_73112_5, k_uwd112_6⟩ := u112_2
      obtain ⟨hp112_7, hp112_8, hp112_9, hp112_10⟩ := hp112_3
      have hs112_11 : SB fs_mm fs2_mm112_4 [73] := SB.trans (SB.rf _ _) hp112_7 (by decide)
      have hp112_8 : rg y_mm_73112_5 1 60000 := hp112_8
      replace hp112_10 : FF (y_mm_73112_5.toInt = x_mm_73.toInt + 1) := hp112_10
      have hP : va_P D vwCl [(mm, .inr (16, fs2_mm112_4)), (uwd, .inl (ct 1, 60000, .inl k_uwd112_6))] _ := hP
      have hD : va_D A [(mm, .inr (16, fs2_mm112_4)), (uwd, .inl (ct 1, 60000, .inl k_uwd112_6))] := hD
      refine lv_goto (tgt := 239) hx hb dX16_sumWord_115 (by decide) ?_
      exact endq_v hQ hx hb hr hlocks dX16_sumWord_239 (fs2_mm112_4, y_mm_73112_5, k_uwd112_6) ⟨hs112_11, hp112_8, hp112_9, (show y_mm_73112_5.toInt = x_mm_73.toInt + 1 by have q0 := FF.out hp112_10; omega)⟩ hP hD hS [0, 1] rfl (by decide) rfl (Nat.le_of_ble_eq_true rfl) (Nat.le_of_ble_eq_true rfl)
    by_cases h14_131 : v0.toInt = 3
    · have r14_132 : rg v0 3 3 := rg_at h14_131
      refine lv_tableIn (off := 212) (tgt := 226) hx hb dX16_sumWord_14 (by rw [h14_131]; decide) (by rw [h14_131]; decide) (by rw [h14_131]; rfl) (by decide) ?_
      exact b226  H locs ls  (lv_sub hl [1, 3, 4, 0] rfl) hP hD hS
    by_cases h14_141 : v0.toInt = 4
    · have r14_142 : rg v0 4 4 := rg_at h14_141
      refine lv_tableIn (off := 104) (tgt := 118) hx hb dX16_sumWord_14 (by rw [h14_141]; decide) (by rw [h14_141]; decide) (by rw [h14_141]; rfl) (by decide) ?_
      refine lv_aload_n hx hb dX16_sumWord_118 rfl (lv_at hl 1 rfl) ?_
      refine lv_bipush (v := 51) hx hb dX16_sumWord_119 (by decide) ?_
      refine lv_bipush (v := 6) hx hb dX16_sumWord_121 (by decide) ?_
      refine lv_iconst (v := 0) hx hb dX16_sumWord_123 (by decide) ?_
      refine lv_iload_n hx hb dX16_sumWord_124 rfl (lv_at hl 3 rfl) ?_
      refine lv_iload_n hx hb dX16_sumWord_125 rfl (lv_at hl 3 rfl) ?_
      refine lv_iload hx hb dX16_sumWord_126 (lv_at hl 4 rfl) ?_
      refine go_v (k1 := 0) (n1 := 0) (wr := []) [0, 1] [] (rn_V (As := [.int 51, .int 6, .int 0, .int v2, .int v2, .int v3]) (rest := []) (c_X16_three l D ct mm (51 : Int32) (6 : Int32) (0 : Int32) v2 v2 v3 fs_mm uwd x_mm_73 g_uwd hlen_mm hf_mm_72 h_x_mm_73 hf_mm_73 _) (cb_of (n := 6) hn mw_2606 mw_13 mw_2603 mhX16_three ⟨(Nat.le_of_ble_eq_true rfl), (Nat.le_of_ble_eq_true rfl)⟩) hx hb hml hown hn hK hSK hZ hS mw_2605 mw_s264 (ci := 16) (q0 := 0) rfl rfl rfl rfl hl.1 (Nat.le_of_ble_eq_true rfl) dX16_sumWord_128 ⟨(Nat.le_of_ble_eq_true rfl), (Nat.le_of_ble_eq_true rfl)⟩) hP hD hS hA rfl rfl (by decide) (by decide) (by decide) (Nat.le_of_ble_eq_true rfl) (Nat.le_of_ble_eq_true rfl) (fun u128_2 H locs hp128_3 hP hD hS => ?_)
      obtain ⟨fs2_mm128_4, y_mm_73128_5, k_uwd128_6⟩ := u128_2
      obtain ⟨hp128_7, hp128_8, hp128_9, hp128_10⟩ := hp128_3
      have hs128_11 : SB fs_mm fs2_mm128_4 [73] := SB.trans (SB.rf _ _) hp128_7 (by decide)
      have hp128_8 : rg y_mm_73128_5 1 60000 := hp128_8
      replace hp128_10 : FF (y_mm_73128_5.toInt = x_mm_73.toInt + 1) := hp128_10
      have hP : va_P D vwCl [(mm, .inr (16, fs2_mm128_4)), (uwd, .inl (ct 1, 60000, .inl k_uwd128_6))] _ := hP
      have hD : va_D A [(mm, .inr (16, fs2_mm128_4)), (uwd, .inl (ct 1, 60000, .inl k_uwd128_6))] := hD
      refine lv_goto (tgt := 239) hx hb dX16_sumWord_131 (by decide) ?_
      exact endq_v hQ hx hb hr hlocks dX16_sumWord_239 (fs2_mm128_4, y_mm_73128_5, k_uwd128_6) ⟨hs128_11, hp128_8, hp128_9, (show y_mm_73128_5.toInt = x_mm_73.toInt + 1 by have q0 := FF.out hp128_10; omega)⟩ hP hD hS [0, 1] rfl (by decide) rfl (Nat.le_of_ble_eq_true rfl) (Nat.le_of_ble_eq_true rfl)
    by_cases h14_151 : v0.toInt = 5
    · have r14_152 : rg v0 5 5 := rg_at h14_151
      refine lv_tableIn (off := 120) (tgt := 134) hx hb dX16_sumWord_14 (by rw [h14_151]; decide) (by rw [h14_151]; decide) (by rw [h14_151]; rfl) (by decide) ?_
      refine lv_aload_n hx hb dX16_sumWord_134 rfl (lv_at hl 1 rfl) ?_
      refine lv_bipush (v := 51) hx hb dX16_sumWord_135 (by decide) ?_
      refine lv_bipush (v := 7) hx hb dX16_sumWord_137 (by decide) ?_
      refine lv_iconst (v := 0) hx hb dX16_sumWord_139 (by decide) ?_
      refine lv_iload_n hx hb dX16_sumWord_140 rfl (lv_at hl 3 rfl) ?_
      refine lv_iload_n hx hb dX16_sumWord_141 rfl (lv_at hl 3 rfl) ?_
      refine lv_iload hx hb dX16_sumWord_142 (lv_at hl 4 rfl) ?_
      refine go_v (k1 := 0) (n1 := 0) (wr := []) [0, 1] [] (rn_V (As := [.int 51, .int 7, .int 0, .int v2, .int v2, .int v3]) (rest := []) (c_X16_three l D ct mm (51 : Int32) (7 : Int32) (0 : Int32) v2 v2 v3 fs_mm uwd x_mm_73 g_uwd hlen_mm hf_mm_72 h_x_mm_73 hf_mm_73 _) (cb_of (n := 6) hn mw_2606 mw_13 mw_2603 mhX16_three ⟨(Nat.le_of_ble_eq_true rfl), (Nat.le_of_ble_eq_true rfl)⟩) hx hb hml hown hn hK hSK hZ hS mw_2605 mw_s264 (ci := 16) (q0 := 0) rfl rfl rfl rfl hl.1 (Nat.le_of_ble_eq_true rfl) dX16_sumWord_144 ⟨(Nat.le_of_ble_eq_true rfl), (Nat.le_of_ble_eq_true rfl)⟩) hP hD hS hA rfl rfl (by decide) (by decide) (by decide) (Nat.le_of_ble_eq_true rfl) (Nat.le_of_ble_eq_true rfl) (fun u144_2 H locs hp144_3 hP hD hS => ?_)
      obtain ⟨fs2_mm144_4, y_mm_73144_5, k_uwd144_6⟩ := u144_2
      obtain ⟨hp144_7, hp144_8, hp144_9, hp144_10⟩ := hp144_3
      have hs144_11 : SB fs_mm fs2_mm144_4 [73] := SB.trans (SB.rf _ _) hp144_7 (by decide)
      have hp144_8 : rg y_mm_73144_5 1 60000 := hp144_8
      replace hp144_10 : FF (y_mm_73144_5.toInt = x_mm_73.toInt + 1) := hp144_10
      have hP : va_P D vwCl [(mm, .inr (16, fs2_mm144_4)), (uwd, .inl (ct 1, 60000, .inl k_uwd144_6))] _ := hP
      have hD : va_D A [(mm, .inr (16, fs2_mm144_4)), (uwd, .inl (ct 1, 60000, .inl k_uwd144_6))] := hD
      refine lv_goto (tgt := 239) hx hb dX16_sumWord_147 (by decide) ?_
      exact endq_v hQ hx hb hr hlocks dX16_sumWord_239 (fs2_mm144_4, y_mm_73144_5, k_uwd144_6) ⟨hs144_11, hp144_8, hp144_9, (show y_mm_73144_5.toInt = x_mm_73.toInt + 1 by have q0 := FF.out hp144_10; omega)⟩ hP hD hS [0, 1] rfl (by decide) rfl (Nat.le_of_ble_eq_true rfl) (Nat.le_of_ble_eq_true rfl)
    by_cases h14_161 : v0.toInt = 6
    · have r14_162 : rg v0 6 6 := rg_at h14_161
      refine lv_tableIn (off := 136) (tgt := 150) hx hb dX16_sumWord_14 (by rw [h14_161]; decide) (by rw [h14_161]; decide) (by rw [h14_161]; rfl) (by decide) ?_
      refine lv_aload_n hx hb dX16_sumWord_150 rfl (lv_at hl 1 rfl) ?_
      refine lv_iload hx hb dX16_sumWord_151 (lv_at hl 0 rfl) ?_
      refine lv_iconst (v := 1) hx hb dX16_sumWord_153 (by decide) ?_
      refine lv_iconst (v := 0) hx hb dX16_sumWord_154 (by decide) ?_
      refine lv_iload_n hx hb dX16_sumWord_155 rfl (lv_at hl 3 rfl) ?_
      refine lv_iload_n hx hb dX16_sumWord_156 rfl (lv_at hl 3 rfl) ?_
      refine lv_iload hx hb dX16_sumWord_157 (lv_at hl 4 rfl) ?_
      refine go_v (k1 := 0) (n1 := 0) (wr := []) [0, 1] [] (rn_V (As := [.int j11_s0, .int 1, .int 0, .int v2, .int v2, .int v3]) (rest := []) (c_X16_three l D ct mm j11_s0 (1 : Int32) (0 : Int32) v2 v2 v3 fs_mm uwd x_mm_73 g_uwd hlen_mm hf_mm_72 h_x_mm_73 hf_mm_73 _) (cb_of (n := 6) hn mw_2606 mw_13 mw_2603 mhX16_three ⟨(Nat.le_of_ble_eq_true rfl), (Nat.le_of_ble_eq_true rfl)⟩) hx hb hml hown hn hK hSK hZ hS mw_2605 mw_s264 (ci := 16) (q0 := 0) rfl rfl rfl rfl hl.1 (Nat.le_of_ble_eq_true rfl) dX16_sumWord_159 ⟨(Nat.le_of_ble_eq_true rfl), (Nat.le_of_ble_eq_true rfl)⟩) hP hD hS hA rfl rfl (by decide) (by decide) (by decide) (Nat.le_of_ble_eq_true rfl) (Nat.le_of_ble_eq_true rfl) (fun u159_2 H locs hp159_3 hP hD hS => ?_)
      obtain ⟨fs2_mm159_4, y_mm_73159_5, k_uwd159_6⟩ := u159_2
      obtain ⟨hp159_7, hp159_8, hp159_9, hp159_10⟩ := hp159_3
      have hs159_11 : SB fs_mm fs2_mm159_4 [73] := SB.trans (SB.rf _ _) hp159_7 (by decide)
      have hp159_8 : rg y_mm_73159_5 1 60000 := hp159_8
      replace hp159_10 : FF (y_mm_73159_5.toInt = x_mm_73.toInt + 1) := hp159_10
      have hP : va_P D vwCl [(mm, .inr (16, fs2_mm159_4)), (uwd, .inl (ct 1, 60000, .inl k_uwd159_6))] _ := hP
      have hD : va_D A [(mm, .inr (16, fs2_mm159_4)), (uwd, .inl (ct 1, 60000, .inl k_uwd159_6))] := hD
      refine lv_goto (tgt := 239) hx hb dX16_sumWord_162 (by decide) ?_
      exact endq_v hQ hx hb hr hlocks dX16_sumWord_239 (fs2_mm159_4, y_mm_73159_5, k_uwd159_6) ⟨hs159_11, hp159_8, hp159_9, (show y_mm_73159_5.toInt = x_mm_73.toInt + 1 by have q0 := FF.out hp159_10; omega)⟩ hP hD hS [0, 1] rfl (by decide) rfl (Nat.le_of_ble_eq_true rfl) (Nat.le_of_ble_eq_true rfl)
    by_cases h14_171 : v0.toInt = 7
    · have r14_172 : rg v0 7 7 := rg_at h14_171
      refine lv_tableIn (off := 151) (tgt := 165) hx hb dX16_sumWord_14 (by rw [h14_171]; decide) (by rw [h14_171]; decide) (by rw [h14_171]; rfl) (by decide) ?_
      refine lv_aload_n hx hb dX16_sumWord_165 rfl (lv_at hl 1 rfl) ?_
      refine lv_iload hx hb dX16_sumWord_166 (lv_at hl 0 rfl) ?_
      refine lv_iconst (v := 5) hx hb dX16_sumWord_168 (by decide) ?_
      refine lv_iconst (v := 0) hx hb dX16_sumWord_169 (by decide) ?_
      refine lv_iload_n hx hb dX16_sumWord_170 rfl (lv_at hl 3 rfl) ?_
      refine lv_iload_n hx hb dX16_sumWord_171 rfl (lv_at hl 3 rfl) ?_
      refine lv_iload hx hb dX16_sumWord_172 (lv_at hl 4 rfl) ?_
      refine go_v (k1 := 0) (n1 := 0) (wr := []) [0, 1] [] (rn_V (As := [.int j11_s0, .int 5, .int 0, .int v2, .int v2, .int v3]) (rest := []) (c_X16_three l D ct mm j11_s0 (5 : Int32) (0 : Int32) v2 v2 v3 fs_mm uwd x_mm_73 g_uwd hlen_mm hf_mm_72 h_x_mm_73 hf_mm_73 _) (cb_of (n := 6) hn mw_2606 mw_13 mw_2603 mhX16_three ⟨(Nat.le_of_ble_eq_true rfl), (Nat.le_of_ble_eq_true rfl)⟩) hx hb hml hown hn hK hSK hZ hS mw_2605 mw_s264 (ci := 16) (q0 := 0) rfl rfl rfl rfl hl.1 (Nat.le_of_ble_eq_true rfl) dX16_sumWord_174 ⟨(Nat.le_of_ble_eq_true rfl), (Nat.le_of_ble_eq_true rfl)⟩) hP hD hS hA rfl rfl (by decide) (by decide) (by decide) (Nat.le_of_ble_eq_true rfl) (Nat.le_of_ble_eq_true rfl) (fun u174_2 H locs hp174_3 hP hD hS => ?_)
      obtain ⟨fs2_mm174_4, y_mm_73174_5, k_uwd174_6⟩ := u174_2
      obtain ⟨hp174_7, hp174_8, hp174_9, hp174_10⟩ := hp174_3
      have hs174_11 : SB fs_mm fs2_mm174_4 [73] := SB.trans (SB.rf _ _) hp174_7 (by decide)
      have hp174_8 : rg y_mm_73174_5 1 60000 := hp174_8
      replace hp174_10 : FF (y_mm_73174_5.toInt = x_mm_73.toInt + 1) := hp174_10
      have hP : va_P D vwCl [(mm, .inr (16, fs2_mm174_4)), (uwd, .inl (ct 1, 60000, .inl k_uwd174_6))] _ := hP
      have hD : va_D A [(mm, .inr (16, fs2_mm174_4)), (uwd, .inl (ct 1, 60000, .inl k_uwd174_6))] := hD
      refine lv_goto (tgt := 239) hx hb dX16_sumWord_177 (by decide) ?_
      exact endq_v hQ hx hb hr hlocks dX16_sumWord_239 (fs2_mm174_4, y_mm_73174_5, k_uwd174_6) ⟨hs174_11, hp174_8, hp174_9, (show y_mm_73174_5.toInt = x_mm_73.toInt + 1 by have q0 := FF.out hp174_10; omega)⟩ hP hD hS [0, 1] rfl (by decide) rfl (Nat.le_of_ble_eq_true rfl) (Nat.le_of_ble_eq_true rfl)
    by_cases h14_181 : v0.toInt = 8
    · have r14_182 : rg v0 8 8 := rg_at h14_181
      refine lv_tableIn (off := 166) (tgt := 180) hx hb dX16_sumWord_14 (by rw [h14_181]; decide) (by rw [h14_181]; decide) (by rw [h14_181]; rfl) (by decide) ?_
      refine lv_aload_n hx hb dX16_sumWord_180 rfl (lv_at hl 1 rfl) ?_
      refine lv_iload hx hb dX16_sumWord_181 (lv_at hl 0 rfl) ?_
      refine lv_iconst (v := 0) hx hb dX16_sumWord_183 (by decide) ?_
      refine lv_bipush (v := 32) hx hb dX16_sumWord_184 (by decide) ?_
      refine lv_iload_n hx hb dX16_sumWord_186 rfl (lv_at hl 3 rfl) ?_
      refine lv_iconst (v := 0) hx hb dX16_sumWord_187 (by decide) ?_
      refine lv_iload_n hx hb dX16_sumWord_188 rfl (lv_at hl 3 rfl) ?_
      refine go_v (k1 := 0) (n1 := 0) (wr := []) [0, 1] [] (rn_V (As := [.int j11_s0, .int 0, .int 32, .int v2, .int 0, .int v2]) (rest := []) (c_X16_three l D ct mm j11_s0 (0 : Int32) (32 : Int32) v2 (0 : Int32) v2 fs_mm uwd x_mm_73 g_uwd hlen_mm hf_mm_72 h_x_mm_73 hf_mm_73 _) (cb_of (n := 6) hn mw_2606 mw_13 mw_2603 mhX16_three ⟨(Nat.le_of_ble_eq_true rfl), (Nat.le_of_ble_eq_true rfl)⟩) hx hb hml hown hn hK hSK hZ hS mw_2605 mw_s264 (ci := 16) (q0 := 0) rfl rfl rfl rfl hl.1 (Nat.le_of_ble_eq_true rfl) dX16_sumWord_189 ⟨(Nat.le_of_ble_eq_true rfl), (Nat.le_of_ble_eq_true rfl)⟩) hP hD hS hA rfl rfl (by decide) (by decide) (by decide) (Nat.le_of_ble_eq_true rfl) (Nat.le_of_ble_eq_true rfl) (fun u189_2 H locs hp189_3 hP hD hS => ?_)
      obtain ⟨fs2_mm189_4, y_mm_73189_5, k_uwd189_6⟩ := u189_2
      obtain ⟨hp189_7, hp189_8, hp189_9, hp189_10⟩ := hp189_3
      have hs189_11 : SB fs_mm fs2_mm189_4 [73] := SB.trans (SB.rf _ _) hp189_7 (by decide)
      have hp189_8 : rg y_mm_73189_5 1 60000 := hp189_8
      replace hp189_10 : FF (y_mm_73189_5.toInt = x_mm_73.toInt + 1) := hp189_10
      have hP : va_P D vwCl [(mm, .inr (16, fs2_mm189_4)), (uwd, .inl (ct 1, 60000, .inl k_uwd189_6))] _ := hP
      have hD : va_D A [(mm, .inr (16, fs2_mm189_4)), (uwd, .inl (ct 1, 60000, .inl k_uwd189_6))] := hD
      refine lv_goto (tgt := 239) hx hb dX16_sumWord_192 (by decide) ?_
      exact endq_v hQ hx hb hr hlocks dX16_sumWord_239 (fs2_mm189_4, y_mm_73189_5, k_uwd189_6) ⟨hs189_11, hp189_8, hp189_9, (show y_mm_73189_5.toInt = x_mm_73.toInt + 1 by have q0 := FF.out hp189_10; omega)⟩ hP hD hS [0, 1] rfl (by decide) rfl (Nat.le_of_ble_eq_true rfl) (Nat.le_of_ble_eq_true rfl)
    by_cases h14_191 : v0.toInt = 9
    · have r14_192 : rg v0 9 9 := rg_at h14_191
      refine lv_tableIn (off := 181) (tgt := 195) hx hb dX16_sumWord_14 (by rw [h14_191]; decide) (by rw [h14_191]; decide) (by rw [h14_191]; rfl) (by decide) ?_
      refine lv_aload_n hx hb dX16_sumWord_195 rfl (lv_at hl 1 rfl) ?_
      refine lv_iload hx hb dX16_sumWord_196 (lv_at hl 0 rfl) ?_
      refine lv_bipush (v := 7) hx hb dX16_sumWord_198 (by decide) ?_
      refine lv_iconst (v := 1) hx hb dX16_sumWord_200 (by decide) ?_
      refine lv_iload_n hx hb dX16_sumWord_201 rfl (lv_at hl 3 rfl) ?_
      refine lv_iload_n hx hb dX16_sumWord_202 rfl (lv_at hl 3 rfl) ?_
      refine lv_iload hx hb dX16_sumWord_203 (lv_at hl 4 rfl) ?_
      refine go_v (k1 := 0) (n1 := 0) (wr := []) [0, 1] [] (rn_V (As := [.int j11_s0, .int 7, .int 1, .int v2, .int v2, .int v3]) (rest := []) (c_X16_three l D ct mm j11_s0 (7 : Int32) (1 : Int32) v2 v2 v3 fs_mm uwd x_mm_73 g_uwd hlen_mm hf_mm_72 h_x_mm_73 hf_mm_73 _) (cb_of (n := 6) hn mw_2606 mw_13 mw_2603 mhX16_three ⟨(Nat.le_of_ble_eq_true rfl), (Nat.le_of_ble_eq_true rfl)⟩) hx hb hml hown hn hK hSK hZ hS mw_2605 mw_s264 (ci := 16) (q0 := 0) rfl rfl rfl rfl hl.1 (Nat.le_of_ble_eq_true rfl) dX16_sumWord_205 ⟨(Nat.le_of_ble_eq_true rfl), (Nat.le_of_ble_eq_true rfl)⟩) hP hD hS hA rfl rfl (by decide) (by decide) (by decide) (Nat.le_of_ble_eq_true rfl) (Nat.le_of_ble_eq_true rfl) (fun u205_2 H locs hp205_3 hP hD hS => ?_)
      obtain ⟨fs2_mm205_4, y_mm_73205_5, k_uwd205_6⟩ := u205_2
      obtain ⟨hp205_7, hp205_8, hp205_9, hp205_10⟩ := hp205_3
      have hs205_11 : SB fs_mm fs2_mm205_4 [73] := SB.trans (SB.rf _ _) hp205_7 (by decide)
      have hp205_8 : rg y_mm_73205_5 1 60000 := hp205_8
      replace hp205_10 : FF (y_mm_73205_5.toInt = x_mm_73.toInt + 1) := hp205_10
      have hP : va_P D vwCl [(mm, .inr (16, fs2_mm205_4)), (uwd, .inl (ct 1, 60000, .inl k_uwd205_6))] _ := hP
      have hD : va_D A [(mm, .inr (16, fs2_mm205_4)), (uwd, .inl (ct 1, 60000, .inl k_uwd205_6))] := hD
      refine lv_goto (tgt := 239) hx hb dX16_sumWord_208 (by decide) ?_
      exact endq_v hQ hx hb hr hlocks dX16_sumWord_239 (fs2_mm205_4, y_mm_73205_5, k_uwd205_6) ⟨hs205_11, hp205_8, hp205_9, (show y_mm_73205_5.toInt = x_mm_73.toInt + 1 by have q0 := FF.out hp205_10; omega)⟩ hP hD hS [0, 1] rfl (by decide) rfl (Nat.le_of_ble_eq_true rfl) (Nat.le_of_ble_eq_true rfl)
    by_cases h14_201 : v0.toInt = 10
    · have r14_202 : rg v0 10 10 := rg_at h14_201
      refine lv_tableIn (off := 197) (tgt := 211) hx hb dX16_sumWord_14 (by rw [h14_201]; decide) (by rw [h14_201]; decide) (by rw [h14_201]; rfl) (by decide) ?_
      refine lv_aload_n hx hb dX16_sumWord_211 rfl (lv_at hl 1 rfl) ?_
      refine lv_bipush (v := 51) hx hb dX16_sumWord_212 (by decide) ?_
      refine lv_iconst (v := 4) hx hb dX16_sumWord_214 (by decide) ?_
      refine lv_iconst (v := 0) hx hb dX16_sumWord_215 (by decide) ?_
      refine lv_iload_n hx hb dX16_sumWord_216 rfl (lv_at hl 3 rfl) ?_
      refine lv_iload_n hx hb dX16_sumWord_217 rfl (lv_at hl 3 rfl) ?_
      refine lv_iload hx hb dX16_sumWord_218 (lv_at hl 4 rfl) ?_
      refine go_v (k1 := 0) (n1 := 0) (wr := []) [0, 1] [] (rn_V (As := [.int 51, .int 4, .int 0, .int v2, .int v2, .int v3]) (rest := []) (c_X16_three l D ct mm (51 : Int32) (4 : Int32) (0 : Int32) v2 v2 v3 fs_mm uwd x_mm_73 g_uwd hlen_mm hf_mm_72 h_x_mm_73 hf_mm_73 _) (cb_of (n := 6) hn mw_2606 mw_13 mw_2603 mhX16_three ⟨(Nat.le_of_ble_eq_true rfl), (Nat.le_of_ble_eq_true rfl)⟩) hx hb hml hown hn hK hSK hZ hS mw_2605 mw_s264 (ci := 16) (q0 := 0) rfl rfl rfl rfl hl.1 (Nat.le_of_ble_eq_true rfl) dX16_sumWord_220 ⟨(Nat.le_of_ble_eq_true rfl), (Nat.le_of_ble_eq_true rfl)⟩) hP hD hS hA rfl rfl (by decide) (by decide) (by decide) (Nat.le_of_ble_eq_true rfl) (Nat.le_of_ble_eq_true rfl) (fun u220_2 H locs hp220_3 hP hD hS => ?_)
      obtain ⟨fs2_mm220_4, y_mm_73220_5, k_uwd220_6⟩ := u220_2
      obtain ⟨hp220_7, hp220_8, hp220_9, hp220_10⟩ := hp220_3
      have hs220_11 : SB fs_mm fs2_mm220_4 [73] := SB.trans (SB.rf _ _) hp220_7 (by decide)
      have hp220_8 : rg y_mm_73220_5 1 60000 := hp220_8
      replace hp220_10 : FF (y_mm_73220_5.toInt = x_mm_73.toInt + 1) := hp220_10
      have hP : va_P D vwCl [(mm, .inr (16, fs2_mm220_4)), (uwd, .inl (ct 1, 60000, .inl k_uwd220_6))] _ := hP
      have hD : va_D A [(mm, .inr (16, fs2_mm220_4)), (uwd, .inl (ct 1, 60000, .inl k_uwd220_6))] := hD
      refine lv_goto (tgt := 239) hx hb dX16_sumWord_223 (by decide) ?_
      exact endq_v hQ hx hb hr hlocks dX16_sumWord_239 (fs2_mm220_4, y_mm_73220_5, k_uwd220_6) ⟨hs220_11, hp220_8, hp220_9, (show y_mm_73220_5.toInt = x_mm_73.toInt + 1 by have q0 := FF.out hp220_10; omega)⟩ hP hD hS [0, 1] rfl (by decide) rfl (Nat.le_of_ble_eq_true rfl) (Nat.le_of_ble_eq_true rfl)
    refine lv_tableOut (tgt := 226) hx hb dX16_sumWord_14 (by have q0 := (rg_any v0); have q1 := q0.1; have q2 := q0.2; omega) (by decide) ?_
    have hl14_5001 := FF.mk h14_101
    have hl14_5002 := FF.mk h14_111
    have hl14_5003 := FF.mk h14_121
    have hl14_5004 := FF.mk h14_131
    have hl14_5005 := FF.mk h14_141
    have hl14_5006 := FF.mk h14_151
    have hl14_5007 := FF.mk h14_161
    have hl14_5008 := FF.mk h14_171
    have hl14_5009 := FF.mk h14_181
    have hl14_5010 := FF.mk h14_191
    have hl14_5011 := FF.mk h14_201
    exact b226  H locs ls  (lv_sub hl [1, 3, 4, 0] rfl) hP hD hS
  refine lv_if_eq (tgt := 9) hx hb dX16_sumWord_1 (by decide) (fun c1_1 => ?_) (fun c1_1 => ?_)
  · have t1_2 := FF.mk (i_eq c1_1)
    have r1_3 : rg v1 0 0 := rg_eqA t1_2 h_v1 (show rg (0 : Int32) 0 0 from rg_l (by decide)) (by decide)
    refine lv_bipush (v := 59) hx hb dX16_sumWord_9 (by decide) ?_
    exact b11 (59 : Int32) H locs ls (rg_w (show rg (59 : Int32) 59 59 from rg_l (by decide)) (by decide)) (lv_sub hl [0, 1, 3, 4] rfl) hP hD hS
  · have t1_2 := FF.mk (i_ne c1_1)
    have r1_3 : rg v1 1 1 := rg_neAl t1_2 h_v1 (show rg (0 : Int32) 0 0 from rg_l (by decide)) (by decide)
    refine lv_bipush (v := 51) hx hb dX16_sumWord_4 (by decide) ?_
    refine lv_goto (tgt := 11) hx hb dX16_sumWord_6 (by decide) ?_
    exact b11 (51 : Int32) H locs ls (rg_w (show rg (51 : Int32) 51 51 from rg_l (by decide)) (by decide)) (lv_sub hl [0, 1, 3, 4] rfl) hP hD hS
set_option maxHeartbeats 2000000 in
theorem c_X16_divideWords (l : Launch) (D : va_G) (ct : Nat → ClassId) (mm : Nat) (v0 : Int32) (v1 : Int32) (v2 : Int32) (fs_mm : List Value) (uwd : Nat) (x_mm_73 : Int32) (g_uwd : Nat → Int32) (h_v0 : rg v0 0 1) (hlen_mm : fs_mm.length = 78) (hf_mm_72 : fs_mm[72]? = some (.ref uwd)) (h_x_mm_73 : rg x_mm_73 0 59995) (hf_mm_73 : fs_mm[73]? = some (.int x_mm_73)) : KV (S := List Value × Int32 × (Nat → Int32)) l yX16_divideWords cX16_divideWords 5 none 4 90 D ct [.ref mm, .int v0, .int v1, .int v2] [(mm, .inr (16, fs_mm)), (uwd, .inl (ct 1, 60000, .inl g_uwd))] 0 0 (fun (u : List Value × Int32 × (Nat → Int32)) => match u with | (fs2_mm, y_mm_73, k_uwd) => SB fs_mm fs2_mm [73] ∧ rg y_mm_73 1 60000 ∧ fs2_mm[73]? = some (.int y_mm_73) ∧ (x_mm_73.toInt + 1 ≤ y_mm_73.toInt ∧ y_mm_73.toInt ≤ x_mm_73.toInt + 5)) (fun (u : List Value × Int32 × (Nat → Int32)) => match u with | (fs2_mm, y_mm_73, k_uwd) => [(mm, .inr (16, fs2_mm)), (uwd, .inl (ct 1, 60000, .inl k_uwd))]) := by
  refine KVq_of (by decide) (Nat.le_of_ble_eq_true rfl) (fun p e s m below meth c A Q C0 hA H locs hS hP hD hQ ls hl => ?_)
  obtain ⟨hx, hb, hr, hown, hin, hml, hlocks, hn, hK, hZ, hSK⟩ := C0
  have hl : lv_has ls 5 [(0, .ref mm), (1, .int v0), (2, .int v1), (3, .int v2)] := hl
  refine lv_iload_n hx hb dX16_divideWords_0 rfl (lv_at hl 1 rfl) ?_
  have b10 : ∀ (j10_s0 : Int32) (H : Heap) (locs : List Loc) (ls : Array Slot), lv_has ls 5 [(0, .ref mm), (1, .int v0), (2, .int v1), (3, .int v2)] → va_P D vwCl [(mm, .inr (16, fs_mm)), (uwd, .inl (ct 1, 60000, .inl g_uwd))] H → va_D A [(mm, .inr (16, fs_mm)), (uwd, .inl (ct 1, 60000, .inl g_uwd))] → va_S A s.heap H locs → W p l e ({ frames := 4, cells := 0, slots := 0, locals := 90 }) s m [.ref mm, .int v0, .int v1, .int v2].toArray below meth c H locs 0 0 Q (F0 m 10 ls [.int j10_s0]) := by
    intro j10_s0 H locs ls  hl hP hD hS
    refine lv_istore (lv' := [(4, .int j10_s0), (0, .ref mm), (1, .int v0), (2, .int v1), (3, .int v2)]) hx hb dX16_divideWords_10 hl (by decide) rfl (fun ls hl => ?_)
    refine lv_iload_n hx hb dX16_divideWords_12 rfl (lv_at hl 2 rfl) ?_
    have b24 : ∀ (j24_amm : List Value) (j24_fmm_73 : Int32) (j24_cuwd : Nat → Int32) (H : Heap) (locs : List Loc) (ls : Array Slot), (SB fs_mm j24_amm [73]) → (rg j24_fmm_73 0 60000) → (j24_amm[73]? = some (.int j24_fmm_73)) → (FF (x_mm_73.toInt ≤ j24_fmm_73.toInt ∧ j24_fmm_73.toInt ≤ x_mm_73.toInt + 1)) → lv_has ls 5 [(0, .ref mm), (1, .int v0), (2, .int v1), (4, .int j10_s0)] → va_P D vwCl [(mm, .inr (16, j24_amm)), (uwd, .inl (ct 1, 60000, .inl j24_cuwd))] H → va_D A [(mm, .inr (16, j24_amm)), (uwd, .inl (ct 1, 60000, .inl j24_cuwd))] → va_S A s.heap H locs → W p l e ({ frames := 4, cells := 0, slots := 0, locals := 90 }) s m [.ref mm, .int v0, .int v1, .int v2].toArray below meth c H locs 0 0 Q (F0 m 24 ls []) := by
      intro j24_amm j24_fmm_73 j24_cuwd H locs ls hs24_1001 r24_1002 hf24_1003 ho24_1004 hl hP hD hS
      refine lv_aload_n hx hb dX16_divideWords_24 rfl (lv_at hl 0 rfl) ?_
      refine lv_iconst (v := 0) hx hb dX16_divideWords_25 (by decide) ?_
      refine lv_iload hx hb dX16_divideWords_26 (lv_at hl 3 rfl) ?_
      refine lv_iconst (v := 0) hx hb dX16_divideWords_28 (by decide) ?_
      refine lv_bipush (v := 12) hx hb dX16_divideWords_29 (by decide) ?_
      refine go_v (k1 := 0) (n1 := 0) (wr := []) [0, 1] [] (rn_V (As := [.int 0, .int j10_s0, .int 0, .int 12]) (rest := []) (c_X16_branch l D ct mm (0 : Int32) j10_s0 (0 : Int32) (12 : Int32) j24_amm uwd j24_fmm_73 j24_cuwd (hs24_1001.1.trans hlen_mm) (SB.get hs24_1001 (by decide) hf_mm_72) (rg_of (show 0 ≤ j24_fmm_73.toInt ∧ j24_fmm_73.toInt ≤ 59999 by have q0 := r24_1002.1; have q1 := h_x_mm_73.2; have q2 := FF.out ho24_1004; omega)) hf24_1003 _) (cb_of (n := 4) hn mw_2601 mw_13 mw_2598 mhX16_branch ⟨(Nat.le_of_ble_eq_true rfl), (Nat.le_of_ble_eq_true rfl)⟩) hx hb hml hown hn hK hSK hZ hS mw_2600 mw_s263 (ci := 16) (q0 := 0) rfl rfl rfl rfl hl.1 (Nat.le_of_ble_eq_true rfl) dX16_divideWords_31 ⟨(Nat.le_of_ble_eq_true rfl), (Nat.le_of_ble_eq_true rfl)⟩) hP hD hS hA rfl rfl (by decide) (by decide) (by decide) (Nat.le_of_ble_eq_true rfl) (Nat.le_of_ble_eq_true rfl) (fun u31_2 H locs hp31_3 hP hD hS => ?_)
      obtain ⟨fs2_mm31_4, y_mm_7331_5, k_uwd31_6⟩ := u31_2
      obtain ⟨hp31_7, hp31_8, hp31_9, hp31_10⟩ := hp31_3
      have hs31_11 : SB fs_mm fs2_mm31_4 [73] := SB.trans hs24_1001 hp31_7 (by decide)
      have hp31_8 : rg y_mm_7331_5 1 60000 := hp31_8
      replace hp31_10 : FF (y_mm_7331_5.toInt = j24_fmm_73.toInt + 1) := hp31_10
      have hP : va_P D vwCl [(mm, .inr (16, fs2_mm31_4)), (uwd, .inl (ct 1, 60000, .inl k_uwd31_6))] _ := hP
      have hD : va_D A [(mm, .inr (16, fs2_mm31_4)), (uwd, .inl (ct 1, 60000, .inl k_uwd31_6))] := hD
      refine lv_aload_n hx hb dX16_divideWords_34 rfl (lv_at hl 0 rfl) ?_
      refine lv_iload_n hx hb dX16_divideWords_35 rfl (lv_at hl 1 rfl) ?_
      have b46 : ∀ (j46_s0 : Int32) (H : Heap) (locs : List Loc) (ls : Array Slot), (rg j46_s0 51 59) → lv_has ls 5 [(0, .ref mm), (2, .int v1), (4, .int j10_s0)] → va_P D vwCl [(mm, .inr (16, fs2_mm31_4)), (uwd, .inl (ct 1, 60000, .inl k_uwd31_6))] H → va_D A [(mm, .inr (16, fs2_mm31_4)), (uwd, .inl (ct 1, 60000, .inl k_uwd31_6))] → va_S A s.heap H locs → W p l e ({ frames := 4, cells := 0, slots := 0, locals := 90 }) s m [.ref mm, .int v0, .int v1, .int v2].toArray below meth c H locs 0 0 Q (F0 m 46 ls [.int j46_s0, .ref mm]) := by
        intro j46_s0 H locs ls r46_1001 hl hP hD hS
        refine lv_iconst (v := 5) hx hb dX16_divideWords_46 (by decide) ?_
        refine lv_iconst (v := 1) hx hb dX16_divideWords_47 (by decide) ?_
        refine lv_iload_n hx hb dX16_divideWords_48 rfl (lv_at hl 1 rfl) ?_
        refine lv_iload_n hx hb dX16_divideWords_49 rfl (lv_at hl 1 rfl) ?_
        refine lv_iload hx hb dX16_divideWords_50 (lv_at hl 2 rfl) ?_
        refine go_v (k1 := 0) (n1 := 0) (wr := []) [0, 1] [] (rn_V (As := [.int j46_s0, .int 5, .int 1, .int v1, .int v1, .int j10_s0]) (rest := []) (c_X16_three l D ct mm j46_s0 (5 : Int32) (1 : Int32) v1 v1 j10_s0 fs2_mm31_4 uwd y_mm_7331_5 k_uwd31_6 (hs31_11.1.trans hlen_mm) (SB.get hs31_11 (by decide) hf_mm_72) (rg_of (show 0 ≤ y_mm_7331_5.toInt ∧ y_mm_7331_5.toInt ≤ 59999 by have q0 := hp31_8.1; have q1 := h_x_mm_73.2; have q2 := FF.out ho24_1004; have q3 := FF.out hp31_10; omega)) hp31_9 _) (cb_of (n := 6) hn mw_2606 mw_13 mw_2603 mhX16_three ⟨(Nat.le_of_ble_eq_true rfl), (Nat.le_of_ble_eq_true rfl)⟩) hx hb hml hown hn hK hSK hZ hS mw_2605 mw_s264 (ci := 16) (q0 := 0) rfl rfl rfl rfl hl.1 (Nat.le_of_ble_eq_true rfl) dX16_divideWords_52 ⟨(Nat.le_of_ble_eq_true rfl), (Nat.le_of_ble_eq_true rfl)⟩) hP hD hS hA rfl rfl (by decide) (by decide) (by decide) (Nat.le_of_ble_eq_true rfl) (Nat.le_of_ble_eq_true rfl) (fun u52_2 H locs hp52_3 hP hD hS => ?_)
        obtain ⟨fs2_mm52_4, y_mm_7352_5, k_uwd52_6⟩ := u52_2
        obtain ⟨hp52_7, hp52_8, hp52_9, hp52_10⟩ := hp52_3
        have hs52_11 : SB fs_mm fs2_mm52_4 [73] := SB.trans hs31_11 hp52_7 (by decide)
        have hp52_8 : rg y_mm_7352_5 1 60000 := hp52_8
        replace hp52_10 : FF (y_mm_7352_5.toInt = y_mm_7331_5.toInt + 1) := hp52_10
        have hP : va_P D vwCl [(mm, .inr (16, fs2_mm52_4)), (uwd, .inl (ct 1, 60000, .inl k_uwd52_6))] _ := hP
        have hD : va_D A [(mm, .inr (16, fs2_mm52_4)), (uwd, .inl (ct 1, 60000, .inl k_uwd52_6))] := hD
        refine lv_aload_n hx hb dX16_divideWords_55 rfl (lv_at hl 0 rfl) ?_
        refine lv_bipush (v := 8) hx hb dX16_divideWords_56 (by decide) ?_
        refine go_i (k1 := 0) (n1 := 0) (wr := [(mm, .inr (16, fs2_mm52_4)), (uwd, .inl (ct 1, 60000, .inl k_uwd52_6))]) [] [0, 1] (rn_S (As := [.int 8]) (rest := [.ref mm]) (c_X16_jump l D ct (8 : Int32)  _) (cb_of (n := 1) hn mw_2609 mw_13 mw_2607 mhX16_jump ⟨(Nat.le_of_ble_eq_true rfl), (Nat.le_of_ble_eq_true rfl)⟩) hx hb hml hown hn hK hSK hZ hS mw_2608 rfl hl.1 (Nat.le_of_ble_eq_true rfl) dX16_divideWords_58 ⟨(Nat.le_of_ble_eq_true rfl), (Nat.le_of_ble_eq_true rfl)⟩) hP hD hS hA rfl rfl (by decide) (by decide) (by decide) (Nat.le_of_ble_eq_true rfl) (Nat.le_of_ble_eq_true rfl) (fun r58_1 u58_2 H locs hp58_3 hP hD hS => ?_)
        have hP : va_P D vwCl [(mm, .inr (16, fs2_mm52_4)), (uwd, .inl (ct 1, 60000, .inl k_uwd52_6))] _ := hP
        have hD : va_D A [(mm, .inr (16, fs2_mm52_4)), (uwd, .inl (ct 1, 60000, .inl k_uwd52_6))] := hD
        refine lv_i2l hx hb dX16_divideWords_61 rfl ?_
        refine lv_topl (fun z61_1 ez61_1 => ?_)
        have r61_2 : rl z61_1 (-2147483648) 2147483647 := rl_i2l ez61_1 (rg_any r58_1)
        refine go_v (k1 := 0) (n1 := 0) (wr := []) [0, 1] [] (rn_V (As := [.long z61_1]) (rest := []) (c_X16_emitWord l D ct mm z61_1 fs2_mm52_4 uwd y_mm_7352_5 k_uwd52_6 (hs52_11.1.trans hlen_mm) (SB.get hs52_11 (by decide) hf_mm_72) (rg_of (show 0 ≤ y_mm_7352_5.toInt ∧ y_mm_7352_5.toInt ≤ 59999 by have q0 := hp31_8.1; have q1 := h_x_mm_73.2; have q2 := FF.out ho24_1004; have q3 := FF.out hp31_10; have q4 := FF.out hp52_10; omega)) hp52_9 _) (cb_of (n := 1) hn mw_2587 mw_13 mw_2584 mhX16_emitWord ⟨(Nat.le_of_ble_eq_true rfl), (Nat.le_of_ble_eq_true rfl)⟩) hx hb hml hown hn hK hSK hZ hS mw_2586 mw_s260 (ci := 16) (q0 := 0) rfl rfl rfl rfl hl.1 (Nat.le_of_ble_eq_true rfl) dX16_divideWords_62 ⟨(Nat.le_of_ble_eq_true rfl), (Nat.le_of_ble_eq_true rfl)⟩) hP hD hS hA rfl rfl (by decide) (by decide) (by decide) (Nat.le_of_ble_eq_true rfl) (Nat.le_of_ble_eq_true rfl) (fun u62_2 H locs hp62_3 hP hD hS => ?_)
        obtain ⟨fs2_mm62_4, y_mm_7362_5, k_uwd62_6⟩ := u62_2
        obtain ⟨hp62_7, hp62_8, hp62_9, hp62_10⟩ := hp62_3
        have hs62_11 : SB fs_mm fs2_mm62_4 [73] := SB.trans hs52_11 hp62_7 (by decide)
        have hp62_8 : rg y_mm_7362_5 1 60000 := hp62_8
        replace hp62_10 : FF (y_mm_7362_5.toInt = y_mm_7352_5.toInt + 1) := hp62_10
        have hP : va_P D vwCl [(mm, .inr (16, fs2_mm62_4)), (uwd, .inl (ct 1, 60000, .inl k_uwd62_6))] _ := hP
        have hD : va_D A [(mm, .inr (16, fs2_mm62_4)), (uwd, .inl (ct 1, 60000, .inl k_uwd62_6))] := hD
        refine lv_aload_n hx hb dX16_divideWords_65 rfl (lv_at hl 0 rfl) ?_
        refine lv_iload_n hx hb dX16_divideWords_66 rfl (lv_at hl 1 rfl) ?_
        refine lv_iconst (v := 0) hx hb dX16_divideWords_67 (by decide) ?_
        refine lv_iconst (v := 0) hx hb dX16_divideWords_68 (by decide) ?_
        refine go_v (k1 := 0) (n1 := 0) (wr := []) [0, 1] [] (rn_V (As := [.int v1, .int 0, .int 0]) (rest := []) (c_X16_addNumber l D ct mm v1 (0 : Int32) (0 : Int32) fs2_mm62_4 uwd y_mm_7362_5 k_uwd62_6 (hs62_11.1.trans hlen_mm) (SB.get hs62_11 (by decide) hf_mm_72) (rg_of (show 0 ≤ y_mm_7362_5.toInt ∧ y_mm_7362_5.toInt ≤ 59999 by have q0 := hp52_8.1; have q1 := h_x_mm_73.2; have q2 := FF.out ho24_1004; have q3 := FF.out hp31_10; have q4 := FF.out hp52_10; have q5 := FF.out hp62_10; omega)) hp62_9 _) (cb_of (n := 3) hn mw_2579 mw_13 mw_2576 mhX16_addNumber ⟨(Nat.le_of_ble_eq_true rfl), (Nat.le_of_ble_eq_true rfl)⟩) hx hb hml hown hn hK hSK hZ hS mw_2578 mw_s258 (ci := 16) (q0 := 0) rfl rfl rfl rfl hl.1 (Nat.le_of_ble_eq_true rfl) dX16_divideWords_69 ⟨(Nat.le_of_ble_eq_true rfl), (Nat.le_of_ble_eq_true rfl)⟩) hP hD hS hA rfl rfl (by decide) (by decide) (by decide) (Nat.le_of_ble_eq_true rfl) (Nat.le_of_ble_eq_true rfl) (fun u69_2 H locs hp69_3 hP hD hS => ?_)
        obtain ⟨fs2_mm69_4, y_mm_7369_5, k_uwd69_6⟩ := u69_2
        obtain ⟨hp69_7, hp69_8, hp69_9, hp69_10⟩ := hp69_3
        have hs69_11 : SB fs_mm fs2_mm69_4 [73] := SB.trans hs62_11 hp69_7 (by decide)
        have hp69_8 : rg y_mm_7369_5 1 60000 := hp69_8
        replace hp69_10 : FF (y_mm_7369_5.toInt = y_mm_7362_5.toInt + 1) := hp69_10
        have hP : va_P D vwCl [(mm, .inr (16, fs2_mm69_4)), (uwd, .inl (ct 1, 60000, .inl k_uwd69_6))] _ := hP
        have hD : va_D A [(mm, .inr (16, fs2_mm69_4)), (uwd, .inl (ct 1, 60000, .inl k_uwd69_6))] := hD
        exact endq_v hQ hx hb hr hlocks dX16_divideWords_72 (fs2_mm69_4, y_mm_7369_5, k_uwd69_6) ⟨hs69_11, hp69_8, hp69_9, (show x_mm_73.toInt + 1 ≤ y_mm_7369_5.toInt ∧ y_mm_7369_5.toInt ≤ x_mm_73.toInt + 5 by have q0 := FF.out ho24_1004; have q1 := FF.out hp31_10; have q2 := FF.out hp52_10; have q3 := FF.out hp62_10; have q4 := FF.out hp69_10; omega)⟩ hP hD hS [0, 1] rfl (by decide) rfl (Nat.le_of_ble_eq_true rfl) (Nat.le_of_ble_eq_true rfl)
      refine lv_if_eq (tgt := 44) hx hb dX16_divideWords_36 (by decide) (fun c36_1 => ?_) (fun c36_1 => ?_)
      · have t36_2 := FF.mk (i_eq c36_1)
        have r36_3 : rg v0 0 0 := rg_eqA t36_2 h_v0 (show rg (0 : Int32) 0 0 from rg_l (by decide)) (by decide)
        refine lv_bipush (v := 59) hx hb dX16_divideWords_44 (by decide) ?_
        exact b46 (59 : Int32) H locs ls (rg_w (show rg (59 : Int32) 59 59 from rg_l (by decide)) (by decide)) (lv_sub hl [0, 2, 3] rfl) hP hD hS
      · have t36_2 := FF.mk (i_ne c36_1)
        have r36_3 : rg v0 1 1 := rg_neAl t36_2 h_v0 (show rg (0 : Int32) 0 0 from rg_l (by decide)) (by decide)
        refine lv_bipush (v := 51) hx hb dX16_divideWords_39 (by decide) ?_
        refine lv_goto (tgt := 46) hx hb dX16_divideWords_41 (by decide) ?_
        exact b46 (51 : Int32) H locs ls (rg_w (show rg (51 : Int32) 51 51 from rg_l (by decide)) (by decide)) (lv_sub hl [0, 2, 3] rfl) hP hD hS
    refine lv_if_ne (tgt := 24) hx hb dX16_divideWords_13 (by decide) (fun c13_1 => ?_) (fun c13_1 => ?_)
    · have t13_2 := FF.mk (i_ne c13_1)
      have r13_3 : rg v0 1 1 := rg_neAl t13_2 h_v0 (show rg (0 : Int32) 0 0 from rg_l (by decide)) (by decide)
      exact b24 fs_mm x_mm_73 g_uwd H locs ls (SB.rf _ _) (rg_w h_x_mm_73 (by decide)) hf_mm_73 (show x_mm_73.toInt ≤ x_mm_73.toInt ∧ x_mm_73.toInt ≤ x_mm_73.toInt + 1 by omega) (lv_sub hl [1, 2, 3, 0] rfl) hP hD hS
    · have t13_2 := FF.mk (i_eq c13_1)
      have r13_3 : rg v0 0 0 := rg_eqA t13_2 h_v0 (show rg (0 : Int32) 0 0 from rg_l (by decide)) (by decide)
      refine lv_aload_n hx hb dX16_divideWords_16 rfl (lv_at hl 1 rfl) ?_
      refine lv_bipush (v := 6) hx hb dX16_divideWords_17 (by decide) ?_
      refine lv_iload_n hx hb dX16_divideWords_19 rfl (lv_at hl 4 rfl) ?_
      refine lv_iconst (v := 0) hx hb dX16_divideWords_20 (by decide) ?_
      refine go_v (k1 := 0) (n1 := 0) (wr := []) [0, 1] [] (rn_V (As := [.int 6, .int v2, .int 0]) (rest := []) (c_X16_addNumberWord l D ct mm (6 : Int32) v2 (0 : Int32) fs_mm uwd x_mm_73 g_uwd hlen_mm hf_mm_72 (rg_w h_x_mm_73 (by decide)) hf_mm_73 _) (cb_of (n := 3) hn mw_2593 mw_13 mw_2590 mhX16_addNumberWord ⟨(Nat.le_of_ble_eq_true rfl), (Nat.le_of_ble_eq_true rfl)⟩) hx hb hml hown hn hK hSK hZ hS mw_2592 mw_s261 (ci := 16) (q0 := 0) rfl rfl rfl rfl hl.1 (Nat.le_of_ble_eq_true rfl) dX16_divideWords_21 ⟨(Nat.le_of_ble_eq_true rfl), (Nat.le_of_ble_eq_true rfl)⟩) hP hD hS hA rfl rfl (by decide) (by decide) (by decide) (Nat.le_of_ble_eq_true rfl) (Nat.le_of_ble_eq_true rfl) (fun u21_2 H locs hp21_3 hP hD hS => ?_)
      obtain ⟨fs2_mm21_4, y_mm_7321_5, k_uwd21_6⟩ := u21_2
      obtain ⟨hp21_7, hp21_8, hp21_9, hp21_10⟩ := hp21_3
      have hs21_11 : SB fs_mm fs2_mm21_4 [73] := SB.trans (SB.rf _ _) hp21_7 (by decide)
      have hp21_8 : rg y_mm_7321_5 1 60000 := hp21_8
      replace hp21_10 : FF (y_mm_7321_5.toInt = x_mm_73.toInt + 1) := hp21_10
      have hP : va_P D vwCl [(mm, .inr (16, fs2_mm21_4)), (uwd, .inl (ct 1, 60000, .inl k_uwd21_6))] _ := hP
      have hD : va_D A [(mm, .inr (16, fs2_mm21_4)), (uwd, .inl (ct 1, 60000, .inl k_uwd21_6))] := hD
      exact b24 fs2_mm21_4 y_mm_7321_5 k_uwd21_6 H locs ls hs21_11 (rg_w hp21_8 (by decide)) hp21_9 (show x_mm_73.toInt ≤ y_mm_7321_5.toInt ∧ y_mm_7321_5.toInt ≤ x_mm_73.toInt + 1 by have q0 := FF.out hp21_10; omega) (lv_sub hl [1, 2, 3, 0] rfl) hP hD hS
  refine lv_if_eq (tgt := 8) hx hb dX16_divideWords_1 (by decide) (fun c1_1 => ?_) (fun c1_1 => ?_)
  · have t1_2 := FF.mk (i_eq c1_1)
    have r1_3 : rg v0 0 0 := rg_eqA t1_2 h_v0 (show rg (0 : Int32) 0 0 from rg_l (by decide)) (by decide)
    refine lv_bipush (v := 6) hx hb dX16_divideWords_8 (by decide) ?_
    exact b10 (6 : Int32) H locs ls  (lv_sub hl [0, 1, 2, 3] rfl) hP hD hS
  · have t1_2 := FF.mk (i_ne c1_1)
    have r1_3 : rg v0 1 1 := rg_neAl t1_2 h_v0 (show rg (0 : Int32) 0 0 from rg_l (by decide)) (by decide)
    refine lv_iload_n hx hb dX16_divideWords_4 rfl (lv_at hl 3 rfl) ?_
    refine lv_goto (tgt := 10) hx hb dX16_divideWords_5 (by decide) ?_
    exact b10 v2 H locs ls  (lv_sub hl [0, 1, 2, 3] rfl) hP hD hS
set_option maxHeartbeats 2000000 in
theorem c_X16_arithmeticWords (l : Launch) (D : va_G) (ct : Nat → ClassId) (mm : Nat) (v0 : Int64) (fs_mm : List Value) (uwd : Nat) (x_mm_73 : Int32) (g_uwd : Nat → Int32) (hlen_mm : fs_mm.length = 78) (hf_mm_72 : fs_mm[72]? = some (.ref uwd)) (h_x_mm_73 : rg x_mm_73 0 59991) (hf_mm_73 : fs_mm[73]? = some (.int x_mm_73)) : KV (S := List Value × Int32 × (Nat → Int32)) l yX16_arithmeticWords cX16_arithmeticWords 9 none 5 114 D ct [.ref mm, .long v0] [(mm, .inr (16, fs_mm)), (uwd, .inl (ct 1, 60000, .inl g_uwd))] 0 0 (fun (u : List Value × Int32 × (Nat → Int32)) => match u with | (fs2_mm, y_mm_73, k_uwd) => SB fs_mm fs2_mm [73] ∧ rg y_mm_73 1 60000 ∧ fs2_mm[73]? = some (.int y_mm_73) ∧ (x_mm_73.toInt + 1 ≤ y_mm_73.toInt ∧ y_mm_73.toInt ≤ x_mm_73.toInt + 9)) (fun (u : List Value × Int32 × (Nat → Int32)) => match u with | (fs2_mm, y_mm_73, k_uwd) => [(mm, .inr (16, fs2_mm)), (uwd, .inl (ct 1, 60000, .inl k_uwd))]) := by
  refine KVq_of (by decide) (Nat.le_of_ble_eq_true rfl) (fun p e s m below meth c A Q C0 hA H locs hS hP hD hQ ls hl => ?_)
  obtain ⟨hx, hb, hr, hown, hin, hml, hlocks, hn, hK, hZ, hSK⟩ := C0
  have hl : lv_has ls 9 [(0, .ref mm), (1, .long v0)] := hl
  refine lv_lload_n hx hb dX16_arithmeticWords_0 rfl (lv_at hl 1 rfl) ?_
  refine go_i (k1 := 0) (n1 := 0) (wr := [(mm, .inr (16, fs_mm)), (uwd, .inl (ct 1, 60000, .inl g_uwd))]) [] [0, 1] (rn_S (As := [.long v0]) (rest := []) (c_X16_codeOf l D ct v0  _) (cb_of (n := 1) hn mw_2322 mw_13 mw_2320 mhX16_codeOf ⟨(Nat.le_of_ble_eq_true rfl), (Nat.le_of_ble_eq_true rfl)⟩) hx hb hml hown hn hK hSK hZ hS mw_2321 rfl hl.1 (Nat.le_of_ble_eq_true rfl) dX16_arithmeticWords_1 ⟨(Nat.le_of_ble_eq_true rfl), (Nat.le_of_ble_eq_true rfl)⟩) hP hD hS hA rfl rfl (by decide) (by decide) (by decide) (Nat.le_of_ble_eq_true rfl) (Nat.le_of_ble_eq_true rfl) (fun r1_1 u1_2 H locs hp1_3 hP hD hS => ?_)
  obtain ⟨hp1_4, hp1_5⟩ := hp1_3
  have hp1_4 : rg r1_1 0 255 := hp1_4
  replace hp1_5 : FF (r1_1.toInt = v0.toInt % 256) := hp1_5
  have hP : va_P D vwCl [(mm, .inr (16, fs_mm)), (uwd, .inl (ct 1, 60000, .inl g_uwd))] _ := hP
  have hD : va_D A [(mm, .inr (16, fs_mm)), (uwd, .inl (ct 1, 60000, .inl g_uwd))] := hD
  refine lv_istore_n (lv' := [(3, .int r1_1), (0, .ref mm), (1, .long v0)]) hx hb dX16_arithmeticWords_4 rfl hl (by decide) rfl (fun ls hl => ?_)
  refine lv_iload_n hx hb dX16_arithmeticWords_5 rfl (lv_at hl 0 rfl) ?_
  refine lv_iconst (v := 4) hx hb dX16_arithmeticWords_6 (by decide) ?_
  refine lv_ishr hx hb dX16_arithmeticWords_7 ?_
  refine lv_topi (fun z7_1 ez7_1 => ?_)
  have r7_2 : rg z7_1 0 15 := rg_shr (k := 4) ez7_1 (by decide) hp1_4 (by decide)
  refine lv_istore (lv' := [(4, .int z7_1), (3, .int r1_1), (0, .ref mm), (1, .long v0)]) hx hb dX16_arithmeticWords_8 hl (by decide) rfl (fun ls hl => ?_)
  refine lv_iload_n hx hb dX16_arithmeticWords_10 rfl (lv_at hl 1 rfl) ?_
  refine lv_bipush (v := 7) hx hb dX16_arithmeticWords_11 (by decide) ?_
  refine lv_iand hx hb dX16_arithmeticWords_13 ?_
  refine lv_topi (fun z13_1 ez13_1 => ?_)
  have r13_2 : rg z13_1 0 7 := rg_andr ez13_1 (show rg (7 : Int32) 7 7 from rg_l (by decide)) (by decide)
  refine lv_bipush (v := 7) hx hb dX16_arithmeticWords_14 (by decide) ?_
  have b24 : ∀ (j24_s0 : Int32) (H : Heap) (locs : List Loc) (ls : Array Slot), (rg j24_s0 0 1) → lv_has ls 9 [(0, .ref mm), (1, .long v0), (3, .int r1_1), (4, .int z7_1)] → va_P D vwCl [(mm, .inr (16, fs_mm)), (uwd, .inl (ct 1, 60000, .inl g_uwd))] H → va_D A [(mm, .inr (16, fs_mm)), (uwd, .inl (ct 1, 60000, .inl g_uwd))] → va_S A s.heap H locs → W p l e ({ frames := 5, cells := 0, slots := 0, locals := 114 }) s m [.ref mm, .long v0].toArray below meth c H locs 0 0 Q (F0 m 24 ls [.int j24_s0]) := by
    intro j24_s0 H locs ls r24_1001 hl hP hD hS
    refine lv_istore (lv' := [(5, .int j24_s0), (0, .ref mm), (1, .long v0), (3, .int r1_1), (4, .int z7_1)]) hx hb dX16_arithmeticWords_24 hl (by decide) rfl (fun ls hl => ?_)
    refine lv_lload_n hx hb dX16_arithmeticWords_26 rfl (lv_at hl 2 rfl) ?_
    refine go_i (k1 := 0) (n1 := 0) (wr := [(mm, .inr (16, fs_mm)), (uwd, .inl (ct 1, 60000, .inl g_uwd))]) [] [0, 1] (rn_S (As := [.long v0]) (rest := []) (c_X16_dOf l D ct v0  _) (cb_of (n := 1) hn mw_2328 mw_13 mw_2326 mhX16_dOf ⟨(Nat.le_of_ble_eq_true rfl), (Nat.le_of_ble_eq_true rfl)⟩) hx hb hml hown hn hK hSK hZ hS mw_2327 rfl hl.1 (Nat.le_of_ble_eq_true rfl) dX16_arithmeticWords_27 ⟨(Nat.le_of_ble_eq_true rfl), (Nat.le_of_ble_eq_true rfl)⟩) hP hD hS hA rfl rfl (by decide) (by decide) (by decide) (Nat.le_of_ble_eq_true rfl) (Nat.le_of_ble_eq_true rfl) (fun r27_1 u27_2 H locs hp27_3 hP hD hS => ?_)
    obtain ⟨hp27_4, hp27_5⟩ := hp27_3
    have hp27_4 : rg r27_1 0 15 := hp27_4
    replace hp27_5 : FF (r27_1.toInt = (v0.toInt / 256) % 16) := hp27_5
    have hP : va_P D vwCl [(mm, .inr (16, fs_mm)), (uwd, .inl (ct 1, 60000, .inl g_uwd))] _ := hP
    have hD : va_D A [(mm, .inr (16, fs_mm)), (uwd, .inl (ct 1, 60000, .inl g_uwd))] := hD
    refine go_i (k1 := 0) (n1 := 0) (wr := [(mm, .inr (16, fs_mm)), (uwd, .inl (ct 1, 60000, .inl g_uwd))]) [] [0, 1] (rn_S (As := [.int r27_1]) (rest := []) (c_X16_registerOf l D ct r27_1  _) (cb_of (n := 1) hn mw_2571 mw_13 mw_2569 mhX16_registerOf ⟨(Nat.le_of_ble_eq_true rfl), (Nat.le_of_ble_eq_true rfl)⟩) hx hb hml hown hn hK hSK hZ hS mw_2570 rfl hl.1 (Nat.le_of_ble_eq_true rfl) dX16_arithmeticWords_30 ⟨(Nat.le_of_ble_eq_true rfl), (Nat.le_of_ble_eq_true rfl)⟩) hP hD hS hA rfl rfl (by decide) (by decide) (by decide) (Nat.le_of_ble_eq_true rfl) (Nat.le_of_ble_eq_true rfl) (fun r30_1 u30_2 H locs hp30_3 hP hD hS => ?_)
    have hP : va_P D vwCl [(mm, .inr (16, fs_mm)), (uwd, .inl (ct 1, 60000, .inl g_uwd))] _ := hP
    have hD : va_D A [(mm, .inr (16, fs_mm)), (uwd, .inl (ct 1, 60000, .inl g_uwd))] := hD
    refine lv_istore (lv' := [(6, .int r30_1), (5, .int j24_s0), (0, .ref mm), (1, .long v0), (3, .int r1_1), (4, .int z7_1)]) hx hb dX16_arithmeticWords_33 hl (by decide) rfl (fun ls hl => ?_)
    refine lv_iload_n hx hb dX16_arithmeticWords_35 rfl (lv_at hl 4 rfl) ?_
    refine go_i (k1 := 0) (n1 := 0) (wr := [(mm, .inr (16, fs_mm)), (uwd, .inl (ct 1, 60000, .inl g_uwd))]) [] [0, 1] (rn_S (As := [.int r1_1]) (rest := []) (c_X16_bySource l D ct r1_1  _) (cb_of (n := 1) hn mw_2340 mw_13 mw_2338 mhX16_bySource ⟨(Nat.le_of_ble_eq_true rfl), (Nat.le_of_ble_eq_true rfl)⟩) hx hb hml hown hn hK hSK hZ hS mw_2339 rfl hl.1 (Nat.le_of_ble_eq_true rfl) dX16_arithmeticWords_36 ⟨(Nat.le_of_ble_eq_true rfl), (Nat.le_of_ble_eq_true rfl)⟩) hP hD hS hA rfl rfl (by decide) (by decide) (by decide) (Nat.le_of_ble_eq_true rfl) (Nat.le_of_ble_eq_true rfl) (fun r36_1 u36_2 H locs hp36_3 hP hD hS => ?_)
    have hp36_4 := hp36_3
    have hp36_4 : rg r36_1 0 1 := hp36_4
    have hP : va_P D vwCl [(mm, .inr (16, fs_mm)), (uwd, .inl (ct 1, 60000, .inl g_uwd))] _ := hP
    have hD : va_D A [(mm, .inr (16, fs_mm)), (uwd, .inl (ct 1, 60000, .inl g_uwd))] := hD
    refine lv_istore (lv' := [(7, .int r36_1), (6, .int r30_1), (5, .int j24_s0), (0, .ref mm), (1, .long v0), (3, .int r1_1), (4, .int z7_1)]) hx hb dX16_arithmeticWords_39 hl (by decide) rfl (fun ls hl => ?_)
    refine lv_iload hx hb dX16_arithmeticWords_41 (lv_at hl 0 rfl) ?_
    have b57 : ∀ (j57_s0 : Int32) (H : Heap) (locs : List Loc) (ls : Array Slot), lv_has ls 9 [(0, .ref mm), (1, .long v0), (4, .int z7_1), (5, .int j24_s0), (6, .int r30_1), (7, .int r36_1)] → va_P D vwCl [(mm, .inr (16, fs_mm)), (uwd, .inl (ct 1, 60000, .inl g_uwd))] H → va_D A [(mm, .inr (16, fs_mm)), (uwd, .inl (ct 1, 60000, .inl g_uwd))] → va_S A s.heap H locs → W p l e ({ frames := 5, cells := 0, slots := 0, locals := 114 }) s m [.ref mm, .long v0].toArray below meth c H locs 0 0 Q (F0 m 57 ls [.int j57_s0]) := by
      intro j57_s0 H locs ls  hl hP hD hS
      refine lv_istore (lv' := [(8, .int j57_s0), (0, .ref mm), (1, .long v0), (4, .int z7_1), (5, .int j24_s0), (6, .int r30_1), (7, .int r36_1)]) hx hb dX16_arithmeticWords_57 hl (by decide) rfl (fun ls hl => ?_)
      refine lv_iload hx hb dX16_arithmeticWords_59 (lv_at hl 3 rfl) ?_
      refine lv_bipush (v := 11) hx hb dX16_arithmeticWords_61 (by decide) ?_
      have b155 : ∀ (j155_amm : List Value) (j155_fmm_73 : Int32) (j155_cuwd : Nat → Int32) (H : Heap) (locs : List Loc) (ls : Array Slot), (SB fs_mm j155_amm [73]) → (rg j155_fmm_73 1 60000) → (j155_amm[73]? = some (.int j155_fmm_73)) → (FF (x_mm_73.toInt + 1 ≤ j155_fmm_73.toInt ∧ j155_fmm_73.toInt ≤ x_mm_73.toInt + 7)) → lv_has ls 9 [(0, .ref mm), (5, .int j24_s0), (6, .int r30_1)] → va_P D vwCl [(mm, .inr (16, j155_amm)), (uwd, .inl (ct 1, 60000, .inl j155_cuwd))] H → va_D A [(mm, .inr (16, j155_amm)), (uwd, .inl (ct 1, 60000, .inl j155_cuwd))] → va_S A s.heap H locs → W p l e ({ frames := 5, cells := 0, slots := 0, locals := 114 }) s m [.ref mm, .long v0].toArray below meth c H locs 0 0 Q (F0 m 155 ls []) := by
        intro j155_amm j155_fmm_73 j155_cuwd H locs ls hs155_1001 r155_1002 hf155_1003 ho155_1004 hl hP hD hS
        refine lv_iload hx hb dX16_arithmeticWords_155 (lv_at hl 1 rfl) ?_
        refine lv_if_ne (tgt := 166) hx hb dX16_arithmeticWords_157 (by decide) (fun c157_1 => ?_) (fun c157_1 => ?_)
        · have t157_2 := FF.mk (i_ne c157_1)
          have r157_3 : rg j24_s0 1 1 := rg_neAl t157_2 r24_1001 (show rg (0 : Int32) 0 0 from rg_l (by decide)) (by decide)
          exact endq_v hQ hx hb hr hlocks dX16_arithmeticWords_166 (j155_amm, j155_fmm_73, j155_cuwd) ⟨hs155_1001, r155_1002, hf155_1003, (show x_mm_73.toInt + 1 ≤ j155_fmm_73.toInt ∧ j155_fmm_73.toInt ≤ x_mm_73.toInt + 9 by have q0 := FF.out ho155_1004; omega)⟩ hP hD hS [0, 1] rfl (by decide) rfl (Nat.le_of_ble_eq_true rfl) (Nat.le_of_ble_eq_true rfl)
        · have t157_2 := FF.mk (i_eq c157_1)
          have r157_3 : rg j24_s0 0 0 := rg_eqA t157_2 r24_1001 (show rg (0 : Int32) 0 0 from rg_l (by decide)) (by decide)
          refine lv_aload_n hx hb dX16_arithmeticWords_160 rfl (lv_at hl 0 rfl) ?_
          refine lv_iload hx hb dX16_arithmeticWords_161 (lv_at hl 2 rfl) ?_
          refine go_v (k1 := 0) (n1 := 0) (wr := []) [0, 1] [] (rn_V (As := [.int r30_1]) (rest := []) (c_X16_zeroHigh l D ct mm r30_1 j155_amm uwd j155_fmm_73 j155_cuwd (hs155_1001.1.trans hlen_mm) (SB.get hs155_1001 (by decide) hf_mm_72) (rg_of (show 0 ≤ j155_fmm_73.toInt ∧ j155_fmm_73.toInt ≤ 59998 by have q0 := r155_1002.1; have q1 := h_x_mm_73.2; have q2 := FF.out ho155_1004; omega)) hf155_1003 _) (cb_of (n := 1) hn mw_2617 mw_13 mw_2614 mhX16_zeroHigh ⟨(Nat.le_of_ble_eq_true rfl), (Nat.le_of_ble_eq_true rfl)⟩) hx hb hml hown hn hK hSK hZ hS mw_2616 mw_s266 (ci := 16) (q0 := 0) rfl rfl rfl rfl hl.1 (Nat.le_of_ble_eq_true rfl) dX16_arithmeticWords_163 ⟨(Nat.le_of_ble_eq_true rfl), (Nat.le_of_ble_eq_true rfl)⟩) hP hD hS hA rfl rfl (by decide) (by decide) (by decide) (Nat.le_of_ble_eq_true rfl) (Nat.le_of_ble_eq_true rfl) (fun u163_2 H locs hp163_3 hP hD hS => ?_)
          obtain ⟨fs2_mm163_4, y_mm_73163_5, k_uwd163_6⟩ := u163_2
          obtain ⟨hp163_7, hp163_8, hp163_9, hp163_10⟩ := hp163_3
          have hs163_11 : SB fs_mm fs2_mm163_4 [73] := SB.trans hs155_1001 hp163_7 (by decide)
          have hp163_8 : rg y_mm_73163_5 1 60000 := hp163_8
          replace hp163_10 : FF (j155_fmm_73.toInt + 1 ≤ y_mm_73163_5.toInt ∧ y_mm_73163_5.toInt ≤ j155_fmm_73.toInt + 2) := hp163_10
          have hP : va_P D vwCl [(mm, .inr (16, fs2_mm163_4)), (uwd, .inl (ct 1, 60000, .inl k_uwd163_6))] _ := hP
          have hD : va_D A [(mm, .inr (16, fs2_mm163_4)), (uwd, .inl (ct 1, 60000, .inl k_uwd163_6))] := hD
          exact endq_v hQ hx hb hr hlocks dX16_arithmeticWords_166 (fs2_mm163_4, y_mm_73163_5, k_uwd163_6) ⟨hs163_11, hp163_8, hp163_9, (show x_mm_73.toInt + 1 ≤ y_mm_73163_5.toInt ∧ y_mm_73163_5.toInt ≤ x_mm_73.toInt + 9 by have q0 := FF.out ho155_1004; have q1 := FF.out hp163_10; omega)⟩ hP hD hS [0, 1] rfl (by decide) rfl (Nat.le_of_ble_eq_true rfl) (Nat.le_of_ble_eq_true rfl)
      have b84 : ∀  (H : Heap) (locs : List Loc) (ls : Array Slot), lv_has ls 9 [(0, .ref mm), (1, .long v0), (4, .int z7_1), (5, .int j24_s0), (6, .int r30_1), (7, .int r36_1), (8, .int j57_s0)] → va_P D vwCl [(mm, .inr (16, fs_mm)), (uwd, .inl (ct 1, 60000, .inl g_uwd))] H → va_D A [(mm, .inr (16, fs_mm)), (uwd, .inl (ct 1, 60000, .inl g_uwd))] → va_S A s.heap H locs → W p l e ({ frames := 5, cells := 0, slots := 0, locals := 114 }) s m [.ref mm, .long v0].toArray below meth c H locs 0 0 Q (F0 m 84 ls []) := by
        intro  H locs ls  hl hP hD hS
        refine lv_iload hx hb dX16_arithmeticWords_84 (lv_at hl 2 rfl) ?_
        refine lv_bipush (v := 11) hx hb dX16_arithmeticWords_86 (by decide) ?_
        refine lv_icmp_ne (tgt := 103) hx hb dX16_arithmeticWords_88 (by decide) (fun c88_1 => ?_) (fun c88_1 => ?_)
        · have t88_2 := FF.mk (i_ne c88_1)
          refine lv_iload hx hb dX16_arithmeticWords_103 (lv_at hl 5 rfl) ?_
          have b124 : ∀ (j124_amm : List Value) (j124_fmm_73 : Int32) (j124_cuwd : Nat → Int32) (H : Heap) (locs : List Loc) (ls : Array Slot), (SB fs_mm j124_amm [73]) → (rg j124_fmm_73 0 60000) → (j124_amm[73]? = some (.int j124_fmm_73)) → (FF (x_mm_73.toInt ≤ j124_fmm_73.toInt ∧ j124_fmm_73.toInt ≤ x_mm_73.toInt + 2)) → lv_has ls 9 [(0, .ref mm), (4, .int z7_1), (5, .int j24_s0), (6, .int r30_1), (8, .int j57_s0)] → va_P D vwCl [(mm, .inr (16, j124_amm)), (uwd, .inl (ct 1, 60000, .inl j124_cuwd))] H → va_D A [(mm, .inr (16, j124_amm)), (uwd, .inl (ct 1, 60000, .inl j124_cuwd))] → va_S A s.heap H locs → W p l e ({ frames := 5, cells := 0, slots := 0, locals := 114 }) s m [.ref mm, .long v0].toArray below meth c H locs 0 0 Q (F0 m 124 ls []) := by
            intro j124_amm j124_fmm_73 j124_cuwd H locs ls hs124_1001 r124_1002 hf124_1003 ho124_1004 hl hP hD hS
            refine lv_iload hx hb dX16_arithmeticWords_124 (lv_at hl 1 rfl) ?_
            refine lv_iconst (v := 3) hx hb dX16_arithmeticWords_126 (by decide) ?_
            refine lv_icmp_ne (tgt := 143) hx hb dX16_arithmeticWords_127 (by decide) (fun c127_1 => ?_) (fun c127_1 => ?_)
            · have t127_2 := FF.mk (i_ne c127_1)
              refine lv_aload_n hx hb dX16_arithmeticWords_143 rfl (lv_at hl 0 rfl) ?_
              refine lv_iload hx hb dX16_arithmeticWords_144 (lv_at hl 1 rfl) ?_
              refine lv_iload hx hb dX16_arithmeticWords_146 (lv_at hl 2 rfl) ?_
              refine lv_iload hx hb dX16_arithmeticWords_148 (lv_at hl 3 rfl) ?_
              refine lv_iload hx hb dX16_arithmeticWords_150 (lv_at hl 4 rfl) ?_
              refine go_v (k1 := 0) (n1 := 0) (wr := []) [0, 1] [] (rn_V (As := [.int z7_1, .int j24_s0, .int r30_1, .int j57_s0]) (rest := []) (c_X16_sumWord l D ct mm z7_1 j24_s0 r30_1 j57_s0 j124_amm uwd j124_fmm_73 j124_cuwd r24_1001 (hs124_1001.1.trans hlen_mm) (SB.get hs124_1001 (by decide) hf_mm_72) (rg_of (show 0 ≤ j124_fmm_73.toInt ∧ j124_fmm_73.toInt ≤ 59999 by have q0 := r124_1002.1; have q1 := h_x_mm_73.2; have q2 := FF.out ho124_1004; omega)) hf124_1003 _) (cb_of (n := 4) hn mw_2613 mw_13 mw_2610 mhX16_sumWord ⟨(Nat.le_of_ble_eq_true rfl), (Nat.le_of_ble_eq_true rfl)⟩) hx hb hml hown hn hK hSK hZ hS mw_2612 mw_s265 (ci := 16) (q0 := 0) rfl rfl rfl rfl hl.1 (Nat.le_of_ble_eq_true rfl) dX16_arithmeticWords_152 ⟨(Nat.le_of_ble_eq_true rfl), (Nat.le_of_ble_eq_true rfl)⟩) hP hD hS hA rfl rfl (by decide) (by decide) (by decide) (Nat.le_of_ble_eq_true rfl) (Nat.le_of_ble_eq_true rfl) (fun u152_2 H locs hp152_3 hP hD hS => ?_)
              obtain ⟨fs2_mm152_4, y_mm_73152_5, k_uwd152_6⟩ := u152_2
              obtain ⟨hp152_7, hp152_8, hp152_9, hp152_10⟩ := hp152_3
              have hs152_11 : SB fs_mm fs2_mm152_4 [73] := SB.trans hs124_1001 hp152_7 (by decide)
              have hp152_8 : rg y_mm_73152_5 1 60000 := hp152_8
              replace hp152_10 : FF (y_mm_73152_5.toInt = j124_fmm_73.toInt + 1) := hp152_10
              have hP : va_P D vwCl [(mm, .inr (16, fs2_mm152_4)), (uwd, .inl (ct 1, 60000, .inl k_uwd152_6))] _ := hP
              have hD : va_D A [(mm, .inr (16, fs2_mm152_4)), (uwd, .inl (ct 1, 60000, .inl k_uwd152_6))] := hD
              exact b155 fs2_mm152_4 y_mm_73152_5 k_uwd152_6 H locs ls hs152_11 hp152_8 hp152_9 (show x_mm_73.toInt + 1 ≤ y_mm_73152_5.toInt ∧ y_mm_73152_5.toInt ≤ x_mm_73.toInt + 7 by have q0 := FF.out ho124_1004; have q1 := FF.out hp152_10; omega) (lv_sub hl [0, 2, 3] rfl) hP hD hS
            · have t127_2 := FF.mk (i_eq c127_1)
              have r127_3 : rg z7_1 3 3 := rg_eqA t127_2 r7_2 (show rg (3 : Int32) 3 3 from rg_l (by decide)) (by decide)
              refine lv_aload_n hx hb dX16_arithmeticWords_130 rfl (lv_at hl 0 rfl) ?_
              refine lv_iload hx hb dX16_arithmeticWords_131 (lv_at hl 2 rfl) ?_
              refine lv_iload hx hb dX16_arithmeticWords_133 (lv_at hl 3 rfl) ?_
              refine lv_iload hx hb dX16_arithmeticWords_135 (lv_at hl 4 rfl) ?_
              refine go_v (k1 := 0) (n1 := 0) (wr := []) [0, 1] [] (rn_V (As := [.int j24_s0, .int r30_1, .int j57_s0]) (rest := []) (c_X16_divideWords l D ct mm j24_s0 r30_1 j57_s0 j124_amm uwd j124_fmm_73 j124_cuwd r24_1001 (hs124_1001.1.trans hlen_mm) (SB.get hs124_1001 (by decide) hf_mm_72) (rg_of (show 0 ≤ j124_fmm_73.toInt ∧ j124_fmm_73.toInt ≤ 59995 by have q0 := r124_1002.1; have q1 := h_x_mm_73.2; have q2 := FF.out ho124_1004; omega)) hf124_1003 _) (cb_of (n := 3) hn mw_2597 mw_13 mw_2594 mhX16_divideWords ⟨(Nat.le_of_ble_eq_true rfl), (Nat.le_of_ble_eq_true rfl)⟩) hx hb hml hown hn hK hSK hZ hS mw_2596 mw_s262 (ci := 16) (q0 := 0) rfl rfl rfl rfl hl.1 (Nat.le_of_ble_eq_true rfl) dX16_arithmeticWords_137 ⟨(Nat.le_of_ble_eq_true rfl), (Nat.le_of_ble_eq_true rfl)⟩) hP hD hS hA rfl rfl (by decide) (by decide) (by decide) (Nat.le_of_ble_eq_true rfl) (Nat.le_of_ble_eq_true rfl) (fun u137_2 H locs hp137_3 hP hD hS => ?_)
              obtain ⟨fs2_mm137_4, y_mm_73137_5, k_uwd137_6⟩ := u137_2
              obtain ⟨hp137_7, hp137_8, hp137_9, hp137_10⟩ := hp137_3
              have hs137_11 : SB fs_mm fs2_mm137_4 [73] := SB.trans hs124_1001 hp137_7 (by decide)
              have hp137_8 : rg y_mm_73137_5 1 60000 := hp137_8
              replace hp137_10 : FF (j124_fmm_73.toInt + 1 ≤ y_mm_73137_5.toInt ∧ y_mm_73137_5.toInt ≤ j124_fmm_73.toInt + 5) := hp137_10
              have hP : va_P D vwCl [(mm, .inr (16, fs2_mm137_4)), (uwd, .inl (ct 1, 60000, .inl k_uwd137_6))] _ := hP
              have hD : va_D A [(mm, .inr (16, fs2_mm137_4)), (uwd, .inl (ct 1, 60000, .inl k_uwd137_6))] := hD
              refine lv_goto (tgt := 155) hx hb dX16_arithmeticWords_140 (by decide) ?_
              exact b155 fs2_mm137_4 y_mm_73137_5 k_uwd137_6 H locs ls hs137_11 hp137_8 hp137_9 (show x_mm_73.toInt + 1 ≤ y_mm_73137_5.toInt ∧ y_mm_73137_5.toInt ≤ x_mm_73.toInt + 7 by have q0 := FF.out ho124_1004; have q1 := FF.out hp137_10; omega) (lv_sub hl [0, 2, 3] rfl) hP hD hS
          refine lv_if_ne (tgt := 124) hx hb dX16_arithmeticWords_105 (by decide) (fun c105_1 => ?_) (fun c105_1 => ?_)
          · have t105_2 := FF.mk (i_ne c105_1)
            have r105_3 : rg r36_1 1 1 := rg_neAl t105_2 hp36_4 (show rg (0 : Int32) 0 0 from rg_l (by decide)) (by decide)
            exact b124 fs_mm x_mm_73 g_uwd H locs ls (SB.rf _ _) (rg_w h_x_mm_73 (by decide)) hf_mm_73 (show x_mm_73.toInt ≤ x_mm_73.toInt ∧ x_mm_73.toInt ≤ x_mm_73.toInt + 2 by omega) (lv_sub hl [0, 2, 3, 4, 6] rfl) hP hD hS
          · have t105_2 := FF.mk (i_eq c105_1)
            have r105_3 : rg r36_1 0 0 := rg_eqA t105_2 hp36_4 (show rg (0 : Int32) 0 0 from rg_l (by decide)) (by decide)
            refine lv_iload hx hb dX16_arithmeticWords_108 (lv_at hl 2 rfl) ?_
            refine lv_bipush (v := 8) hx hb dX16_arithmeticWords_110 (by decide) ?_
            refine lv_icmp_eq (tgt := 124) hx hb dX16_arithmeticWords_112 (by decide) (fun c112_1 => ?_) (fun c112_1 => ?_)
            · have t112_2 := FF.mk (i_eq c112_1)
              have r112_3 : rg z7_1 8 8 := rg_eqA t112_2 r7_2 (show rg (8 : Int32) 8 8 from rg_l (by decide)) (by decide)
              exact b124 fs_mm x_mm_73 g_uwd H locs ls (SB.rf _ _) (rg_w h_x_mm_73 (by decide)) hf_mm_73 (show x_mm_73.toInt ≤ x_mm_73.toInt ∧ x_mm_73.toInt ≤ x_mm_73.toInt + 2 by omega) (lv_sub hl [0, 2, 3, 4, 6] rfl) hP hD hS
            · have t112_2 := FF.mk (i_ne c112_1)
              refine lv_aload_n hx hb dX16_arithmeticWords_115 rfl (lv_at hl 0 rfl) ?_
              refine lv_iconst (v := 5) hx hb dX16_arithmeticWords_116 (by decide) ?_
              refine lv_lload_n hx hb dX16_arithmeticWords_117 rfl (lv_at hl 1 rfl) ?_
              refine go_i (k1 := 0) (n1 := 0) (wr := [(mm, .inr (16, fs_mm)), (uwd, .inl (ct 1, 60000, .inl g_uwd))]) [] [0, 1] (rn_S (As := [.long v0]) (rest := [.int 5, .ref mm]) (c_X16_kOf l D ct v0  _) (cb_of (n := 1) hn mw_2346 mw_13 mw_2344 mhX16_kOf ⟨(Nat.le_of_ble_eq_true rfl), (Nat.le_of_ble_eq_true rfl)⟩) hx hb hml hown hn hK hSK hZ hS mw_2345 rfl hl.1 (Nat.le_of_ble_eq_true rfl) dX16_arithmeticWords_118 ⟨(Nat.le_of_ble_eq_true rfl), (Nat.le_of_ble_eq_true rfl)⟩) hP hD hS hA rfl rfl (by decide) (by decide) (by decide) (Nat.le_of_ble_eq_true rfl) (Nat.le_of_ble_eq_true rfl) (fun r118_1 u118_2 H locs hp118_3 hP hD hS => ?_)
              have hP : va_P D vwCl [(mm, .inr (16, fs_mm)), (uwd, .inl (ct 1, 60000, .inl g_uwd))] _ := hP
              have hD : va_D A [(mm, .inr (16, fs_mm)), (uwd, .inl (ct 1, 60000, .inl g_uwd))] := hD
              refine go_v (k1 := 0) (n1 := 0) (wr := []) [0, 1] [] (rn_V (As := [.int 5, .int r118_1]) (rest := []) (c_X16_number__ l D ct mm (5 : Int32) r118_1 fs_mm uwd x_mm_73 g_uwd hlen_mm hf_mm_72 (rg_w h_x_mm_73 (by decide)) hf_mm_73 _) (cb_of (n := 2) hn mw_2575 mw_13 mw_2572 mhX16_number__ ⟨(Nat.le_of_ble_eq_true rfl), (Nat.le_of_ble_eq_true rfl)⟩) hx hb hml hown hn hK hSK hZ hS mw_2574 mw_s257 (ci := 16) (q0 := 0) rfl rfl rfl rfl hl.1 (Nat.le_of_ble_eq_true rfl) dX16_arithmeticWords_121 ⟨(Nat.le_of_ble_eq_true rfl), (Nat.le_of_ble_eq_true rfl)⟩) hP hD hS hA rfl rfl (by decide) (by decide) (by decide) (Nat.le_of_ble_eq_true rfl) (Nat.le_of_ble_eq_true rfl) (fun u121_2 H locs hp121_3 hP hD hS => ?_)
              obtain ⟨fs2_mm121_4, y_mm_73121_5, k_uwd121_6⟩ := u121_2
              obtain ⟨hp121_7, hp121_8, hp121_9, hp121_10⟩ := hp121_3
              have hs121_11 : SB fs_mm fs2_mm121_4 [73] := SB.trans (SB.rf _ _) hp121_7 (by decide)
              have hp121_8 : rg y_mm_73121_5 1 60000 := hp121_8
              replace hp121_10 : FF (x_mm_73.toInt + 1 ≤ y_mm_73121_5.toInt ∧ y_mm_73121_5.toInt ≤ x_mm_73.toInt + 2) := hp121_10
              have hP : va_P D vwCl [(mm, .inr (16, fs2_mm121_4)), (uwd, .inl (ct 1, 60000, .inl k_uwd121_6))] _ := hP
              have hD : va_D A [(mm, .inr (16, fs2_mm121_4)), (uwd, .inl (ct 1, 60000, .inl k_uwd121_6))] := hD
              exact b124 fs2_mm121_4 y_mm_73121_5 k_uwd121_6 H locs ls hs121_11 (rg_w hp121_8 (by decide)) hp121_9 (show x_mm_73.toInt ≤ y_mm_73121_5.toInt ∧ y_mm_73121_5.toInt ≤ x_mm_73.toInt + 2 by have q0 := FF.out hp121_10; omega) (lv_sub hl [0, 2, 3, 4, 6] rfl) hP hD hS
        · have t88_2 := FF.mk (i_eq c88_1)
          have r88_3 : rg z7_1 11 11 := rg_eqA t88_2 r7_2 (show rg (11 : Int32) 11 11 from rg_l (by decide)) (by decide)
          refine lv_aload_n hx hb dX16_arithmeticWords_91 rfl (lv_at hl 0 rfl) ?_
          refine lv_iload hx hb dX16_arithmeticWords_92 (lv_at hl 4 rfl) ?_
          refine lv_iload hx hb dX16_arithmeticWords_94 (lv_at hl 6 rfl) ?_
          refine lv_iconst (v := 0) hx hb dX16_arithmeticWords_96 (by decide) ?_
          refine go_v (k1 := 0) (n1 := 0) (wr := []) [0, 1] [] (rn_V (As := [.int r30_1, .int j57_s0, .int 0]) (rest := []) (c_X16_addNumber l D ct mm r30_1 j57_s0 (0 : Int32) fs_mm uwd x_mm_73 g_uwd hlen_mm hf_mm_72 (rg_w h_x_mm_73 (by decide)) hf_mm_73 _) (cb_of (n := 3) hn mw_2579 mw_13 mw_2576 mhX16_addNumber ⟨(Nat.le_of_ble_eq_true rfl), (Nat.le_of_ble_eq_true rfl)⟩) hx hb hml hown hn hK hSK hZ hS mw_2578 mw_s258 (ci := 16) (q0 := 0) rfl rfl rfl rfl hl.1 (Nat.le_of_ble_eq_true rfl) dX16_arithmeticWords_97 ⟨(Nat.le_of_ble_eq_true rfl), (Nat.le_of_ble_eq_true rfl)⟩) hP hD hS hA rfl rfl (by decide) (by decide) (by decide) (Nat.le_of_ble_eq_true rfl) (Nat.le_of_ble_eq_true rfl) (fun u97_2 H locs hp97_3 hP hD hS => ?_)
          obtain ⟨fs2_mm97_4, y_mm_7397_5, k_uwd97_6⟩ := u97_2
          obtain ⟨hp97_7, hp97_8, hp97_9, hp97_10⟩ := hp97_3
          have hs97_11 : SB fs_mm fs2_mm97_4 [73] := SB.trans (SB.rf _ _) hp97_7 (by decide)
          have hp97_8 : rg y_mm_7397_5 1 60000 := hp97_8
          replace hp97_10 : FF (y_mm_7397_5.toInt = x_mm_73.toInt + 1) := hp97_10
          have hP : va_P D vwCl [(mm, .inr (16, fs2_mm97_4)), (uwd, .inl (ct 1, 60000, .inl k_uwd97_6))] _ := hP
          have hD : va_D A [(mm, .inr (16, fs2_mm97_4)), (uwd, .inl (ct 1, 60000, .inl k_uwd97_6))] := hD
          refine lv_goto (tgt := 155) hx hb dX16_arithmeticWords_100 (by decide) ?_
          exact b155 fs2_mm97_4 y_mm_7397_5 k_uwd97_6 H locs ls hs97_11 hp97_8 hp97_9 (show x_mm_73.toInt + 1 ≤ y_mm_7397_5.toInt ∧ y_mm_7397_5.toInt ≤ x_mm_73.toInt + 7 by have q0 := FF.out hp97_10; omega) (lv_sub hl [0, 3, 4] rfl) hP hD hS
      refine lv_icmp_ne (tgt := 84) hx hb dX16_arithmeticWords_63 (by decide) (fun c63_1 => ?_) (fun c63_1 => ?_)
      · have t63_2 := FF.mk (i_ne c63_1)
        exact b84  H locs ls  (lv_sub hl [1, 2, 3, 4, 5, 6, 0] rfl) hP hD hS
      · have t63_2 := FF.mk (i_eq c63_1)
        have r63_3 : rg z7_1 11 11 := rg_eqA t63_2 r7_2 (show rg (11 : Int32) 11 11 from rg_l (by decide)) (by decide)
        refine lv_iload hx hb dX16_arithmeticWords_66 (lv_at hl 6 rfl) ?_
        refine lv_if_ne (tgt := 84) hx hb dX16_arithmeticWords_68 (by decide) (fun c68_1 => ?_) (fun c68_1 => ?_)
        · have t68_2 := FF.mk (i_ne c68_1)
          have r68_3 : rg r36_1 1 1 := rg_neAl t68_2 hp36_4 (show rg (0 : Int32) 0 0 from rg_l (by decide)) (by decide)
          exact b84  H locs ls  (lv_sub hl [1, 2, 3, 4, 5, 6, 0] rfl) hP hD hS
        · have t68_2 := FF.mk (i_eq c68_1)
          have r68_3 : rg r36_1 0 0 := rg_eqA t68_2 hp36_4 (show rg (0 : Int32) 0 0 from rg_l (by decide)) (by decide)
          refine lv_aload_n hx hb dX16_arithmeticWords_71 rfl (lv_at hl 1 rfl) ?_
          refine lv_iload hx hb dX16_arithmeticWords_72 (lv_at hl 5 rfl) ?_
          refine lv_lload_n hx hb dX16_arithmeticWords_74 rfl (lv_at hl 2 rfl) ?_
          refine go_i (k1 := 0) (n1 := 0) (wr := [(mm, .inr (16, fs_mm)), (uwd, .inl (ct 1, 60000, .inl g_uwd))]) [] [0, 1] (rn_S (As := [.long v0]) (rest := [.int r30_1, .ref mm]) (c_X16_kOf l D ct v0  _) (cb_of (n := 1) hn mw_2346 mw_13 mw_2344 mhX16_kOf ⟨(Nat.le_of_ble_eq_true rfl), (Nat.le_of_ble_eq_true rfl)⟩) hx hb hml hown hn hK hSK hZ hS mw_2345 rfl hl.1 (Nat.le_of_ble_eq_true rfl) dX16_arithmeticWords_75 ⟨(Nat.le_of_ble_eq_true rfl), (Nat.le_of_ble_eq_true rfl)⟩) hP hD hS hA rfl rfl (by decide) (by decide) (by decide) (Nat.le_of_ble_eq_true rfl) (Nat.le_of_ble_eq_true rfl) (fun r75_1 u75_2 H locs hp75_3 hP hD hS => ?_)
          have hP : va_P D vwCl [(mm, .inr (16, fs_mm)), (uwd, .inl (ct 1, 60000, .inl g_uwd))] _ := hP
          have hD : va_D A [(mm, .inr (16, fs_mm)), (uwd, .inl (ct 1, 60000, .inl g_uwd))] := hD
          refine go_v (k1 := 0) (n1 := 0) (wr := []) [0, 1] [] (rn_V (As := [.int r30_1, .int r75_1]) (rest := []) (c_X16_number__ l D ct mm r30_1 r75_1 fs_mm uwd x_mm_73 g_uwd hlen_mm hf_mm_72 (rg_w h_x_mm_73 (by decide)) hf_mm_73 _) (cb_of (n := 2) hn mw_2575 mw_13 mw_2572 mhX16_number__ ⟨(Nat.le_of_ble_eq_true rfl), (Nat.le_of_ble_eq_true rfl)⟩) hx hb hml hown hn hK hSK hZ hS mw_2574 mw_s257 (ci := 16) (q0 := 0) rfl rfl rfl rfl hl.1 (Nat.le_of_ble_eq_true rfl) dX16_arithmeticWords_78 ⟨(Nat.le_of_ble_eq_true rfl), (Nat.le_of_ble_eq_true rfl)⟩) hP hD hS hA rfl rfl (by decide) (by decide) (by decide) (Nat.le_of_ble_eq_true rfl) (Nat.le_of_ble_eq_true rfl) (fun u78_2 H locs hp78_3 hP hD hS => ?_)
          obtain ⟨fs2_mm78_4, y_mm_7378_5, k_uwd78_6⟩ := u78_2
          obtain ⟨hp78_7, hp78_8, hp78_9, hp78_10⟩ := hp78_3
          have hs78_11 : SB fs_mm fs2_mm78_4 [73] := SB.trans (SB.rf _ _) hp78_7 (by decide)
          have hp78_8 : rg y_mm_7378_5 1 60000 := hp78_8
          replace hp78_10 : FF (x_mm_73.toInt + 1 ≤ y_mm_7378_5.toInt ∧ y_mm_7378_5.toInt ≤ x_mm_73.toInt + 2) := hp78_10
          have hP : va_P D vwCl [(mm, .inr (16, fs2_mm78_4)), (uwd, .inl (ct 1, 60000, .inl k_uwd78_6))] _ := hP
          have hD : va_D A [(mm, .inr (16, fs2_mm78_4)), (uwd, .inl (ct 1, 60000, .inl k_uwd78_6))] := hD
          refine lv_goto (tgt := 155) hx hb dX16_arithmeticWords_81 (by decide) ?_
          exact b155 fs2_mm78_4 y_mm_7378_5 k_uwd78_6 H locs ls hs78_11 hp78_8 hp78_9 (show x_mm_73.toInt + 1 ≤ y_mm_7378_5.toInt ∧ y_mm_7378_5.toInt ≤ x_mm_73.toInt + 7 by have q0 := FF.out hp78_10; omega) (lv_sub hl [1, 4, 5] rfl) hP hD hS
    refine lv_if_eq (tgt := 56) hx hb dX16_arithmeticWords_43 (by decide) (fun c43_1 => ?_) (fun c43_1 => ?_)
    · have t43_2 := FF.mk (i_eq c43_1)
      have r43_3 : rg r36_1 0 0 := rg_eqA t43_2 hp36_4 (show rg (0 : Int32) 0 0 from rg_l (by decide)) (by decide)
      refine lv_iconst (v := 5) hx hb dX16_arithmeticWords_56 (by decide) ?_
      exact b57 (5 : Int32) H locs ls  (lv_sub hl [3, 4, 6, 2, 1, 0] rfl) hP hD hS
    · have t43_2 := FF.mk (i_ne c43_1)
      have r43_3 : rg r36_1 1 1 := rg_neAl t43_2 hp36_4 (show rg (0 : Int32) 0 0 from rg_l (by decide)) (by decide)
      refine lv_lload_n hx hb dX16_arithmeticWords_46 rfl (lv_at hl 4 rfl) ?_
      refine go_i (k1 := 0) (n1 := 0) (wr := [(mm, .inr (16, fs_mm)), (uwd, .inl (ct 1, 60000, .inl g_uwd))]) [] [0, 1] (rn_S (As := [.long v0]) (rest := []) (c_X16_sOf l D ct v0  _) (cb_of (n := 1) hn mw_2331 mw_13 mw_2329 mhX16_sOf ⟨(Nat.le_of_ble_eq_true rfl), (Nat.le_of_ble_eq_true rfl)⟩) hx hb hml hown hn hK hSK hZ hS mw_2330 rfl hl.1 (Nat.le_of_ble_eq_true rfl) dX16_arithmeticWords_47 ⟨(Nat.le_of_ble_eq_true rfl), (Nat.le_of_ble_eq_true rfl)⟩) hP hD hS hA rfl rfl (by decide) (by decide) (by decide) (Nat.le_of_ble_eq_true rfl) (Nat.le_of_ble_eq_true rfl) (fun r47_1 u47_2 H locs hp47_3 hP hD hS => ?_)
      obtain ⟨hp47_4, hp47_5⟩ := hp47_3
      have hp47_4 : rg r47_1 0 15 := hp47_4
      replace hp47_5 : FF (r47_1.toInt = (v0.toInt / 4096) % 16) := hp47_5
      have hP : va_P D vwCl [(mm, .inr (16, fs_mm)), (uwd, .inl (ct 1, 60000, .inl g_uwd))] _ := hP
      have hD : va_D A [(mm, .inr (16, fs_mm)), (uwd, .inl (ct 1, 60000, .inl g_uwd))] := hD
      refine go_i (k1 := 0) (n1 := 0) (wr := [(mm, .inr (16, fs_mm)), (uwd, .inl (ct 1, 60000, .inl g_uwd))]) [] [0, 1] (rn_S (As := [.int r47_1]) (rest := []) (c_X16_registerOf l D ct r47_1  _) (cb_of (n := 1) hn mw_2571 mw_13 mw_2569 mhX16_registerOf ⟨(Nat.le_of_ble_eq_true rfl), (Nat.le_of_ble_eq_true rfl)⟩) hx hb hml hown hn hK hSK hZ hS mw_2570 rfl hl.1 (Nat.le_of_ble_eq_true rfl) dX16_arithmeticWords_50 ⟨(Nat.le_of_ble_eq_true rfl), (Nat.le_of_ble_eq_true rfl)⟩) hP hD hS hA rfl rfl (by decide) (by decide) (by decide) (Nat.le_of_ble_eq_true rfl) (Nat.le_of_ble_eq_true rfl) (fun r50_1 u50_2 H locs hp50_3 hP hD hS => ?_)
      have hP : va_P D vwCl [(mm, .inr (16, fs_mm)), (uwd, .inl (ct 1, 60000, .inl g_uwd))] _ := hP
      have hD : va_D A [(mm, .inr (16, fs_mm)), (uwd, .inl (ct 1, 60000, .inl g_uwd))] := hD
      refine lv_goto (tgt := 57) hx hb dX16_arithmeticWords_53 (by decide) ?_
      exact b57 r50_1 H locs ls  (lv_sub hl [3, 4, 6, 2, 1, 0] rfl) hP hD hS
  refine lv_icmp_ne (tgt := 23) hx hb dX16_arithmeticWords_16 (by decide) (fun c16_1 => ?_) (fun c16_1 => ?_)
  · have t16_2 := FF.mk (i_ne c16_1)
    have r16_3 : rg z13_1 0 6 := rg_neAh t16_2 r13_2 (show rg (7 : Int32) 7 7 from rg_l (by decide)) (by decide)
    refine lv_iconst (v := 0) hx hb dX16_arithmeticWords_23 (by decide) ?_
    exact b24 (0 : Int32) H locs ls (rg_w (show rg (0 : Int32) 0 0 from rg_l (by decide)) (by decide)) (lv_sub hl [2, 3, 1, 0] rfl) hP hD hS
  · have t16_2 := FF.mk (i_eq c16_1)
    have r16_3 : rg z13_1 7 7 := rg_eqA t16_2 r13_2 (show rg (7 : Int32) 7 7 from rg_l (by decide)) (by decide)
    refine lv_iconst (v := 1) hx hb dX16_arithmeticWords_19 (by decide) ?_
    refine lv_goto (tgt := 24) hx hb dX16_arithmeticWords_20 (by decide) ?_
    exact b24 (1 : Int32) H locs ls (rg_w (show rg (1 : Int32) 1 1 from rg_l (by decide)) (by decide)) (lv_sub hl [2, 3, 1, 0] rfl) hP hD hS
set_option maxHeartbeats 2000000 in
theorem c_X16_notWord (l : Launch) (D : va_G) (ct : Nat → ClassId) (mm : Nat) (v0 : Int32) (v1 : Int32) (v2 : Int32) (fs_mm : List Value) (uwd : Nat) (x_mm_73 : Int32) (g_uwd : Nat → Int32) (hlen_mm : fs_mm.length = 78) (hf_mm_72 : fs_mm[72]? = some (.ref uwd)) (h_x_mm_73 : rg x_mm_73 0 59998) (hf_mm_73 : fs_mm[73]? = some (.int x_mm_73)) : KV (S := List Value × Int32 × (Nat → Int32)) l yX16_notWord cX16_notWord 4 none 3 68 D ct [.ref mm, .int v0, .int v1, .int v2] [(mm, .inr (16, fs_mm)), (uwd, .inl (ct 1, 60000, .inl g_uwd))] 0 0 (fun (u : List Value × Int32 × (Nat → Int32)) => match u with | (fs2_mm, y_mm_73, k_uwd) => SB fs_mm fs2_mm [73] ∧ rg y_mm_73 1 60000 ∧ fs2_mm[73]? = some (.int y_mm_73) ∧ (x_mm_73.toInt + 1 ≤ y_mm_73.toInt ∧ y_mm_73.toInt ≤ x_mm_73.toInt + 2)) (fun (u : List Value × Int32 × (Nat → Int32)) => match u with | (fs2_mm, y_mm_73, k_uwd) => [(mm, .inr (16, fs2_mm)), (uwd, .inl (ct 1, 60000, .inl k_uwd))]) := by
  refine KVq_of (by decide) (Nat.le_of_ble_eq_true rfl) (fun p e s m below meth c A Q C0 hA H locs hS hP hD hQ ls hl => ?_)
  obtain ⟨hx, hb, hr, hown, hin, hml, hlocks, hn, hK, hZ, hSK⟩ := C0
  have hl : lv_has ls 4 [(0, .ref mm), (1, .int v0), (2, .int v1), (3, .int v2)] := hl
  refine lv_iload_n hx hb dX16_notWord_0 rfl (lv_at hl 1 rfl) ?_
  have b202 : ∀  (H : Heap) (locs : List Loc) (ls : Array Slot), lv_has ls 4 [(0, .ref mm), (2, .int v1), (3, .int v2)] → va_P D vwCl [(mm, .inr (16, fs_mm)), (uwd, .inl (ct 1, 60000, .inl g_uwd))] H → va_D A [(mm, .inr (16, fs_mm)), (uwd, .inl (ct 1, 60000, .inl g_uwd))] → va_S A s.heap H locs → W p l e ({ frames := 3, cells := 0, slots := 0, locals := 68 }) s m [.ref mm, .int v0, .int v1, .int v2].toArray below meth c H locs 0 0 Q (F0 m 202 ls []) := by
    intro  H locs ls  hl hP hD hS
    refine lv_aload_n hx hb dX16_notWord_202 rfl (lv_at hl 0 rfl) ?_
    refine lv_iconst (v := 4) hx hb dX16_notWord_203 (by decide) ?_
    refine lv_iload_n hx hb dX16_notWord_204 rfl (lv_at hl 2 rfl) ?_
    refine lv_iload_n hx hb dX16_notWord_205 rfl (lv_at hl 1 rfl) ?_
    refine lv_bipush (v := 8) hx hb dX16_notWord_206 (by decide) ?_
    refine go_v (k1 := 0) (n1 := 0) (wr := []) [0, 1] [] (rn_V (As := [.int 4, .int v2, .int v1, .int 8]) (rest := []) (c_X16_branch l D ct mm (4 : Int32) v2 v1 (8 : Int32) fs_mm uwd x_mm_73 g_uwd hlen_mm hf_mm_72 (rg_w h_x_mm_73 (by decide)) hf_mm_73 _) (cb_of (n := 4) hn mw_2601 mw_13 mw_2598 mhX16_branch ⟨(Nat.le_of_ble_eq_true rfl), (Nat.le_of_ble_eq_true rfl)⟩) hx hb hml hown hn hK hSK hZ hS mw_2600 mw_s263 (ci := 16) (q0 := 0) rfl rfl rfl rfl hl.1 (Nat.le_of_ble_eq_true rfl) dX16_notWord_208 ⟨(Nat.le_of_ble_eq_true rfl), (Nat.le_of_ble_eq_true rfl)⟩) hP hD hS hA rfl rfl (by decide) (by decide) (by decide) (Nat.le_of_ble_eq_true rfl) (Nat.le_of_ble_eq_true rfl) (fun u208_2 H locs hp208_3 hP hD hS => ?_)
    obtain ⟨fs2_mm208_4, y_mm_73208_5, k_uwd208_6⟩ := u208_2
    obtain ⟨hp208_7, hp208_8, hp208_9, hp208_10⟩ := hp208_3
    have hs208_11 : SB fs_mm fs2_mm208_4 [73] := SB.trans (SB.rf _ _) hp208_7 (by decide)
    have hp208_8 : rg y_mm_73208_5 1 60000 := hp208_8
    replace hp208_10 : FF (y_mm_73208_5.toInt = x_mm_73.toInt + 1) := hp208_10
    have hP : va_P D vwCl [(mm, .inr (16, fs2_mm208_4)), (uwd, .inl (ct 1, 60000, .inl k_uwd208_6))] _ := hP
    have hD : va_D A [(mm, .inr (16, fs2_mm208_4)), (uwd, .inl (ct 1, 60000, .inl k_uwd208_6))] := hD
    exact endq_v hQ hx hb hr hlocks dX16_notWord_211 (fs2_mm208_4, y_mm_73208_5, k_uwd208_6) ⟨hs208_11, hp208_8, hp208_9, (show x_mm_73.toInt + 1 ≤ y_mm_73208_5.toInt ∧ y_mm_73208_5.toInt ≤ x_mm_73.toInt + 2 by have q0 := FF.out hp208_10; omega)⟩ hP hD hS [0, 1] rfl (by decide) rfl (Nat.le_of_ble_eq_true rfl) (Nat.le_of_ble_eq_true rfl)
  by_cases h1_101 : v0.toInt = 1
  · have r1_102 : rg v0 1 1 := rg_at h1_101
    refine lv_tableIn (off := 63) (tgt := 64) hx hb dX16_notWord_1 (by rw [h1_101]; decide) (by rw [h1_101]; decide) (by rw [h1_101]; rfl) (by decide) ?_
    refine lv_aload_n hx hb dX16_notWord_64 rfl (lv_at hl 0 rfl) ?_
    refine lv_iconst (v := 1) hx hb dX16_notWord_65 (by decide) ?_
    refine lv_iload_n hx hb dX16_notWord_66 rfl (lv_at hl 2 rfl) ?_
    refine lv_iload_n hx hb dX16_notWord_67 rfl (lv_at hl 3 rfl) ?_
    refine lv_bipush (v := 8) hx hb dX16_notWord_68 (by decide) ?_
    refine go_v (k1 := 0) (n1 := 0) (wr := []) [0, 1] [] (rn_V (As := [.int 1, .int v1, .int v2, .int 8]) (rest := []) (c_X16_branch l D ct mm (1 : Int32) v1 v2 (8 : Int32) fs_mm uwd x_mm_73 g_uwd hlen_mm hf_mm_72 (rg_w h_x_mm_73 (by decide)) hf_mm_73 _) (cb_of (n := 4) hn mw_2601 mw_13 mw_2598 mhX16_branch ⟨(Nat.le_of_ble_eq_true rfl), (Nat.le_of_ble_eq_true rfl)⟩) hx hb hml hown hn hK hSK hZ hS mw_2600 mw_s263 (ci := 16) (q0 := 0) rfl rfl rfl rfl hl.1 (Nat.le_of_ble_eq_true rfl) dX16_notWord_70 ⟨(Nat.le_of_ble_eq_true rfl), (Nat.le_of_ble_eq_true rfl)⟩) hP hD hS hA rfl rfl (by decide) (by decide) (by decide) (Nat.le_of_ble_eq_true rfl) (Nat.le_of_ble_eq_true rfl) (fun u70_2 H locs hp70_3 hP hD hS => ?_)
    obtain ⟨fs2_mm70_4, y_mm_7370_5, k_uwd70_6⟩ := u70_2
    obtain ⟨hp70_7, hp70_8, hp70_9, hp70_10⟩ := hp70_3
    have hs70_11 : SB fs_mm fs2_mm70_4 [73] := SB.trans (SB.rf _ _) hp70_7 (by decide)
    have hp70_8 : rg y_mm_7370_5 1 60000 := hp70_8
    replace hp70_10 : FF (y_mm_7370_5.toInt = x_mm_73.toInt + 1) := hp70_10
    have hP : va_P D vwCl [(mm, .inr (16, fs2_mm70_4)), (uwd, .inl (ct 1, 60000, .inl k_uwd70_6))] _ := hP
    have hD : va_D A [(mm, .inr (16, fs2_mm70_4)), (uwd, .inl (ct 1, 60000, .inl k_uwd70_6))] := hD
    refine lv_goto (tgt := 211) hx hb dX16_notWord_73 (by decide) ?_
    exact endq_v hQ hx hb hr hlocks dX16_notWord_211 (fs2_mm70_4, y_mm_7370_5, k_uwd70_6) ⟨hs70_11, hp70_8, hp70_9, (show x_mm_73.toInt + 1 ≤ y_mm_7370_5.toInt ∧ y_mm_7370_5.toInt ≤ x_mm_73.toInt + 2 by have q0 := FF.out hp70_10; omega)⟩ hP hD hS [0, 1] rfl (by decide) rfl (Nat.le_of_ble_eq_true rfl) (Nat.le_of_ble_eq_true rfl)
  by_cases h1_111 : v0.toInt = 2
  · have r1_112 : rg v0 2 2 := rg_at h1_111
    refine lv_tableIn (off := 75) (tgt := 76) hx hb dX16_notWord_1 (by rw [h1_111]; decide) (by rw [h1_111]; decide) (by rw [h1_111]; rfl) (by decide) ?_
    refine lv_aload_n hx hb dX16_notWord_76 rfl (lv_at hl 0 rfl) ?_
    refine lv_bipush (v := 7) hx hb dX16_notWord_77 (by decide) ?_
    refine lv_iload_n hx hb dX16_notWord_79 rfl (lv_at hl 3 rfl) ?_
    refine lv_iload_n hx hb dX16_notWord_80 rfl (lv_at hl 2 rfl) ?_
    refine lv_bipush (v := 8) hx hb dX16_notWord_81 (by decide) ?_
    refine go_v (k1 := 0) (n1 := 0) (wr := []) [0, 1] [] (rn_V (As := [.int 7, .int v2, .int v1, .int 8]) (rest := []) (c_X16_branch l D ct mm (7 : Int32) v2 v1 (8 : Int32) fs_mm uwd x_mm_73 g_uwd hlen_mm hf_mm_72 (rg_w h_x_mm_73 (by decide)) hf_mm_73 _) (cb_of (n := 4) hn mw_2601 mw_13 mw_2598 mhX16_branch ⟨(Nat.le_of_ble_eq_true rfl), (Nat.le_of_ble_eq_true rfl)⟩) hx hb hml hown hn hK hSK hZ hS mw_2600 mw_s263 (ci := 16) (q0 := 0) rfl rfl rfl rfl hl.1 (Nat.le_of_ble_eq_true rfl) dX16_notWord_83 ⟨(Nat.le_of_ble_eq_true rfl), (Nat.le_of_ble_eq_true rfl)⟩) hP hD hS hA rfl rfl (by decide) (by decide) (by decide) (Nat.le_of_ble_eq_true rfl) (Nat.le_of_ble_eq_true rfl) (fun u83_2 H locs hp83_3 hP hD hS => ?_)
    obtain ⟨fs2_mm83_4, y_mm_7383_5, k_uwd83_6⟩ := u83_2
    obtain ⟨hp83_7, hp83_8, hp83_9, hp83_10⟩ := hp83_3
    have hs83_11 : SB fs_mm fs2_mm83_4 [73] := SB.trans (SB.rf _ _) hp83_7 (by decide)
    have hp83_8 : rg y_mm_7383_5 1 60000 := hp83_8
    replace hp83_10 : FF (y_mm_7383_5.toInt = x_mm_73.toInt + 1) := hp83_10
    have hP : va_P D vwCl [(mm, .inr (16, fs2_mm83_4)), (uwd, .inl (ct 1, 60000, .inl k_uwd83_6))] _ := hP
    have hD : va_D A [(mm, .inr (16, fs2_mm83_4)), (uwd, .inl (ct 1, 60000, .inl k_uwd83_6))] := hD
    refine lv_goto (tgt := 211) hx hb dX16_notWord_86 (by decide) ?_
    exact endq_v hQ hx hb hr hlocks dX16_notWord_211 (fs2_mm83_4, y_mm_7383_5, k_uwd83_6) ⟨hs83_11, hp83_8, hp83_9, (show x_mm_73.toInt + 1 ≤ y_mm_7383_5.toInt ∧ y_mm_7383_5.toInt ≤ x_mm_73.toInt + 2 by have q0 := FF.out hp83_10; omega)⟩ hP hD hS [0, 1] rfl (by decide) rfl (Nat.le_of_ble_eq_true rfl) (Nat.le_of_ble_eq_true rfl)
  by_cases h1_121 : v0.toInt = 3
  · have r1_122 : rg v0 3 3 := rg_at h1_121
    refine lv_tableIn (off := 88) (tgt := 89) hx hb dX16_notWord_1 (by rw [h1_121]; decide) (by rw [h1_121]; decide) (by rw [h1_121]; rfl) (by decide) ?_
    refine lv_aload_n hx hb dX16_notWord_89 rfl (lv_at hl 0 rfl) ?_
    refine lv_bipush (v := 6) hx hb dX16_notWord_90 (by decide) ?_
    refine lv_iload_n hx hb dX16_notWord_92 rfl (lv_at hl 2 rfl) ?_
    refine lv_iload_n hx hb dX16_notWord_93 rfl (lv_at hl 3 rfl) ?_
    refine lv_bipush (v := 8) hx hb dX16_notWord_94 (by decide) ?_
    refine go_v (k1 := 0) (n1 := 0) (wr := []) [0, 1] [] (rn_V (As := [.int 6, .int v1, .int v2, .int 8]) (rest := []) (c_X16_branch l D ct mm (6 : Int32) v1 v2 (8 : Int32) fs_mm uwd x_mm_73 g_uwd hlen_mm hf_mm_72 (rg_w h_x_mm_73 (by decide)) hf_mm_73 _) (cb_of (n := 4) hn mw_2601 mw_13 mw_2598 mhX16_branch ⟨(Nat.le_of_ble_eq_true rfl), (Nat.le_of_ble_eq_true rfl)⟩) hx hb hml hown hn hK hSK hZ hS mw_2600 mw_s263 (ci := 16) (q0 := 0) rfl rfl rfl rfl hl.1 (Nat.le_of_ble_eq_true rfl) dX16_notWord_96 ⟨(Nat.le_of_ble_eq_true rfl), (Nat.le_of_ble_eq_true rfl)⟩) hP hD hS hA rfl rfl (by decide) (by decide) (by decide) (Nat.le_of_ble_eq_true rfl) (Nat.le_of_ble_eq_true rfl) (fun u96_2 H locs hp96_3 hP hD hS => ?_)
    obtain ⟨fs2_mm96_4, y_mm_7396_5, k_uwd96_6⟩ := u96_2
    obtain ⟨hp96_7, hp96_8, hp96_9, hp96_10⟩ := hp96_3
    have hs96_11 : SB fs_mm fs2_mm96_4 [73] := SB.trans (SB.rf _ _) hp96_7 (by decide)
    have hp96_8 : rg y_mm_7396_5 1 60000 := hp96_8
    replace hp96_10 : FF (y_mm_7396_5.toInt = x_mm_73.toInt + 1) := hp96_10
    have hP : va_P D vwCl [(mm, .inr (16, fs2_mm96_4)), (uwd, .inl (ct 1, 60000, .inl k_uwd96_6))] _ := hP
    have hD : va_D A [(mm, .inr (16, fs2_mm96_4)), (uwd, .inl (ct 1, 60000, .inl k_uwd96_6))] := hD
    refine lv_goto (tgt := 211) hx hb dX16_notWord_99 (by decide) ?_
    exact endq_v hQ hx hb hr hlocks dX16_notWord_211 (fs2_mm96_4, y_mm_7396_5, k_uwd96_6) ⟨hs96_11, hp96_8, hp96_9, (show x_mm_73.toInt + 1 ≤ y_mm_7396_5.toInt ∧ y_mm_7396_5.toInt ≤ x_mm_73.toInt + 2 by have q0 := FF.out hp96_10; omega)⟩ hP hD hS [0, 1] rfl (by decide) rfl (Nat.le_of_ble_eq_true rfl) (Nat.le_of_ble_eq_true rfl)
  by_cases h1_131 : v0.toInt = 4
  · have r1_132 : rg v0 4 4 := rg_at h1_131
    refine lv_tableIn (off := 101) (tgt := 102) hx hb dX16_notWord_1 (by rw [h1_131]; decide) (by rw [h1_131]; decide) (by rw [h1_131]; rfl) (by decide) ?_
    refine lv_aload_n hx hb dX16_notWord_102 rfl (lv_at hl 0 rfl) ?_
    refine lv_bipush (v := 51) hx hb dX16_notWord_103 (by decide) ?_
    refine lv_bipush (v := 7) hx hb dX16_notWord_105 (by decide) ?_
    refine lv_iconst (v := 0) hx hb dX16_notWord_107 (by decide) ?_
    refine lv_bipush (v := 6) hx hb dX16_notWord_108 (by decide) ?_
    refine lv_iload_n hx hb dX16_notWord_110 rfl (lv_at hl 2 rfl) ?_
    refine lv_iload_n hx hb dX16_notWord_111 rfl (lv_at hl 3 rfl) ?_
    refine go_v (k1 := 0) (n1 := 0) (wr := []) [0, 1] [] (rn_V (As := [.int 51, .int 7, .int 0, .int 6, .int v1, .int v2]) (rest := []) (c_X16_three l D ct mm (51 : Int32) (7 : Int32) (0 : Int32) (6 : Int32) v1 v2 fs_mm uwd x_mm_73 g_uwd hlen_mm hf_mm_72 (rg_w h_x_mm_73 (by decide)) hf_mm_73 _) (cb_of (n := 6) hn mw_2606 mw_13 mw_2603 mhX16_three ⟨(Nat.le_of_ble_eq_true rfl), (Nat.le_of_ble_eq_true rfl)⟩) hx hb hml hown hn hK hSK hZ hS mw_2605 mw_s264 (ci := 16) (q0 := 0) rfl rfl rfl rfl hl.1 (Nat.le_of_ble_eq_true rfl) dX16_notWord_112 ⟨(Nat.le_of_ble_eq_true rfl), (Nat.le_of_ble_eq_true rfl)⟩) hP hD hS hA rfl rfl (by decide) (by decide) (by decide) (Nat.le_of_ble_eq_true rfl) (Nat.le_of_ble_eq_true rfl) (fun u112_2 H locs hp112_3 hP hD hS => ?_)
    obtain ⟨fs2_mm112_4, y_mm_73112_5, k_uwd112_6⟩ := u112_2
    obtain ⟨hp112_7, hp112_8, hp112_9, hp112_10⟩ := hp112_3
    have hs112_11 : SB fs_mm fs2_mm112_4 [73] := SB.trans (SB.rf _ _) hp112_7 (by decide)
    have hp112_8 : rg y_mm_73112_5 1 60000 := hp112_8
    replace hp112_10 : FF (y_mm_73112_5.toInt = x_mm_73.toInt + 1) := hp112_10
    have hP : va_P D vwCl [(mm, .inr (16, fs2_mm112_4)), (uwd, .inl (ct 1, 60000, .inl k_uwd112_6))] _ := hP
    have hD : va_D A [(mm, .inr (16, fs2_mm112_4)), (uwd, .inl (ct 1, 60000, .inl k_uwd112_6))] := hD
    refine lv_aload_n hx hb dX16_notWord_115 rfl (lv_at hl 0 rfl) ?_
    refine lv_iconst (v := 0) hx hb dX16_notWord_116 (by decide) ?_
    refine lv_bipush (v := 6) hx hb dX16_notWord_117 (by decide) ?_
    refine lv_iconst (v := 0) hx hb dX16_notWord_119 (by decide) ?_
    refine lv_bipush (v := 8) hx hb dX16_notWord_120 (by decide) ?_
    refine go_v (k1 := 0) (n1 := 0) (wr := []) [0, 1] [] (rn_V (As := [.int 0, .int 6, .int 0, .int 8]) (rest := []) (c_X16_branch l D ct mm (0 : Int32) (6 : Int32) (0 : Int32) (8 : Int32) fs2_mm112_4 uwd y_mm_73112_5 k_uwd112_6 (hs112_11.1.trans hlen_mm) (SB.get hs112_11 (by decide) hf_mm_72) (rg_of (show 0 ≤ y_mm_73112_5.toInt ∧ y_mm_73112_5.toInt ≤ 59999 by have q0 := hp112_8.1; have q1 := h_x_mm_73.2; have q2 := FF.out hp112_10; omega)) hp112_9 _) (cb_of (n := 4) hn mw_2601 mw_13 mw_2598 mhX16_branch ⟨(Nat.le_of_ble_eq_true rfl), (Nat.le_of_ble_eq_true rfl)⟩) hx hb hml hown hn hK hSK hZ hS mw_2600 mw_s263 (ci := 16) (q0 := 0) rfl rfl rfl rfl hl.1 (Nat.le_of_ble_eq_true rfl) dX16_notWord_122 ⟨(Nat.le_of_ble_eq_true rfl), (Nat.le_of_ble_eq_true rfl)⟩) hP hD hS hA rfl rfl (by decide) (by decide) (by decide) (Nat.le_of_ble_eq_true rfl) (Nat.le_of_ble_eq_true rfl) (fun u122_2 H locs hp122_3 hP hD hS => ?_)
    obtain ⟨fs2_mm122_4, y_mm_73122_5, k_uwd122_6⟩ := u122_2
    obtain ⟨hp122_7, hp122_8, hp122_9, hp122_10⟩ := hp122_3
    have hs122_11 : SB fs_mm fs2_mm122_4 [73] := SB.trans hs112_11 hp122_7 (by decide)
    have hp122_8 : rg y_mm_73122_5 1 60000 := hp122_8
    replace hp122_10 : FF (y_mm_73122_5.toInt = y_mm_73112_5.toInt + 1) := hp122_10
    have hP : va_P D vwCl [(mm, .inr (16, fs2_mm122_4)), (uwd, .inl (ct 1, 60000, .inl k_uwd122_6))] _ := hP
    have hD : va_D A [(mm, .inr (16, fs2_mm122_4)), (uwd, .inl (ct 1, 60000, .inl k_uwd122_6))] := hD
    refine lv_goto (tgt := 211) hx hb dX16_notWord_125 (by decide) ?_
    exact endq_v hQ hx hb hr hlocks dX16_notWord_211 (fs2_mm122_4, y_mm_73122_5, k_uwd122_6) ⟨hs122_11, hp122_8, hp122_9, (show x_mm_73.toInt + 1 ≤ y_mm_73122_5.toInt ∧ y_mm_73122_5.toInt ≤ x_mm_73.toInt + 2 by have q0 := FF.out hp112_10; have q1 := FF.out hp122_10; omega)⟩ hP hD hS [0, 1] rfl (by decide) rfl (Nat.le_of_ble_eq_true rfl) (Nat.le_of_ble_eq_true rfl)
  by_cases h1_141 : v0.toInt = 5
  · have r1_142 : rg v0 5 5 := rg_at h1_141
    refine lv_tableIn (off := 127) (tgt := 128) hx hb dX16_notWord_1 (by rw [h1_141]; decide) (by rw [h1_141]; decide) (by rw [h1_141]; rfl) (by decide) ?_
    refine lv_aload_n hx hb dX16_notWord_128 rfl (lv_at hl 0 rfl) ?_
    refine lv_iconst (v := 0) hx hb dX16_notWord_129 (by decide) ?_
    refine lv_iload_n hx hb dX16_notWord_130 rfl (lv_at hl 2 rfl) ?_
    refine lv_iload_n hx hb dX16_notWord_131 rfl (lv_at hl 3 rfl) ?_
    refine lv_bipush (v := 8) hx hb dX16_notWord_132 (by decide) ?_
    refine go_v (k1 := 0) (n1 := 0) (wr := []) [0, 1] [] (rn_V (As := [.int 0, .int v1, .int v2, .int 8]) (rest := []) (c_X16_branch l D ct mm (0 : Int32) v1 v2 (8 : Int32) fs_mm uwd x_mm_73 g_uwd hlen_mm hf_mm_72 (rg_w h_x_mm_73 (by decide)) hf_mm_73 _) (cb_of (n := 4) hn mw_2601 mw_13 mw_2598 mhX16_branch ⟨(Nat.le_of_ble_eq_true rfl), (Nat.le_of_ble_eq_true rfl)⟩) hx hb hml hown hn hK hSK hZ hS mw_2600 mw_s263 (ci := 16) (q0 := 0) rfl rfl rfl rfl hl.1 (Nat.le_of_ble_eq_true rfl) dX16_notWord_134 ⟨(Nat.le_of_ble_eq_true rfl), (Nat.le_of_ble_eq_true rfl)⟩) hP hD hS hA rfl rfl (by decide) (by decide) (by decide) (Nat.le_of_ble_eq_true rfl) (Nat.le_of_ble_eq_true rfl) (fun u134_2 H locs hp134_3 hP hD hS => ?_)
    obtain ⟨fs2_mm134_4, y_mm_73134_5, k_uwd134_6⟩ := u134_2
    obtain ⟨hp134_7, hp134_8, hp134_9, hp134_10⟩ := hp134_3
    have hs134_11 : SB fs_mm fs2_mm134_4 [73] := SB.trans (SB.rf _ _) hp134_7 (by decide)
    have hp134_8 : rg y_mm_73134_5 1 60000 := hp134_8
    replace hp134_10 : FF (y_mm_73134_5.toInt = x_mm_73.toInt + 1) := hp134_10
    have hP : va_P D vwCl [(mm, .inr (16, fs2_mm134_4)), (uwd, .inl (ct 1, 60000, .inl k_uwd134_6))] _ := hP
    have hD : va_D A [(mm, .inr (16, fs2_mm134_4)), (uwd, .inl (ct 1, 60000, .inl k_uwd134_6))] := hD
    refine lv_goto (tgt := 211) hx hb dX16_notWord_137 (by decide) ?_
    exact endq_v hQ hx hb hr hlocks dX16_notWord_211 (fs2_mm134_4, y_mm_73134_5, k_uwd134_6) ⟨hs134_11, hp134_8, hp134_9, (show x_mm_73.toInt + 1 ≤ y_mm_73134_5.toInt ∧ y_mm_73134_5.toInt ≤ x_mm_73.toInt + 2 by have q0 := FF.out hp134_10; omega)⟩ hP hD hS [0, 1] rfl (by decide) rfl (Nat.le_of_ble_eq_true rfl) (Nat.le_of_ble_eq_true rfl)
  by_cases h1_151 : v0.toInt = 6
  · have r1_152 : rg v0 6 6 := rg_at h1_151
    refine lv_tableIn (off := 139) (tgt := 140) hx hb dX16_notWord_1 (by rw [h1_151]; decide) (by rw [h1_151]; decide) (by rw [h1_151]; rfl) (by decide) ?_
    refine lv_aload_n hx hb dX16_notWord_140 rfl (lv_at hl 0 rfl) ?_
    refine lv_iconst (v := 5) hx hb dX16_notWord_141 (by decide) ?_
    refine lv_iload_n hx hb dX16_notWord_142 rfl (lv_at hl 3 rfl) ?_
    refine lv_iload_n hx hb dX16_notWord_143 rfl (lv_at hl 2 rfl) ?_
    refine lv_bipush (v := 8) hx hb dX16_notWord_144 (by decide) ?_
    refine go_v (k1 := 0) (n1 := 0) (wr := []) [0, 1] [] (rn_V (As := [.int 5, .int v2, .int v1, .int 8]) (rest := []) (c_X16_branch l D ct mm (5 : Int32) v2 v1 (8 : Int32) fs_mm uwd x_mm_73 g_uwd hlen_mm hf_mm_72 (rg_w h_x_mm_73 (by decide)) hf_mm_73 _) (cb_of (n := 4) hn mw_2601 mw_13 mw_2598 mhX16_branch ⟨(Nat.le_of_ble_eq_true rfl), (Nat.le_of_ble_eq_true rfl)⟩) hx hb hml hown hn hK hSK hZ hS mw_2600 mw_s263 (ci := 16) (q0 := 0) rfl rfl rfl rfl hl.1 (Nat.le_of_ble_eq_true rfl) dX16_notWord_146 ⟨(Nat.le_of_ble_eq_true rfl), (Nat.le_of_ble_eq_true rfl)⟩) hP hD hS hA rfl rfl (by decide) (by decide) (by decide) (Nat.le_of_ble_eq_true rfl) (Nat.le_of_ble_eq_true rfl) (fun u146_2 H locs hp146_3 hP hD hS => ?_)
    obtain ⟨fs2_mm146_4, y_mm_73146_5, k_uwd146_6⟩ := u146_2
    obtain ⟨hp146_7, hp146_8, hp146_9, hp146_10⟩ := hp146_3
    have hs146_11 : SB fs_mm fs2_mm146_4 [73] := SB.trans (SB.rf _ _) hp146_7 (by decide)
    have hp146_8 : rg y_mm_73146_5 1 60000 := hp146_8
    replace hp146_10 : FF (y_mm_73146_5.toInt = x_mm_73.toInt + 1) := hp146_10
    have hP : va_P D vwCl [(mm, .inr (16, fs2_mm146_4)), (uwd, .inl (ct 1, 60000, .inl k_uwd146_6))] _ := hP
    have hD : va_D A [(mm, .inr (16, fs2_mm146_4)), (uwd, .inl (ct 1, 60000, .inl k_uwd146_6))] := hD
    refine lv_goto (tgt := 211) hx hb dX16_notWord_149 (by decide) ?_
    exact endq_v hQ hx hb hr hlocks dX16_notWord_211 (fs2_mm146_4, y_mm_73146_5, k_uwd146_6) ⟨hs146_11, hp146_8, hp146_9, (show x_mm_73.toInt + 1 ≤ y_mm_73146_5.toInt ∧ y_mm_73146_5.toInt ≤ x_mm_73.toInt + 2 by have q0 := FF.out hp146_10; omega)⟩ hP hD hS [0, 1] rfl (by decide) rfl (Nat.le_of_ble_eq_true rfl) (Nat.le_of_ble_eq_true rfl)
  by_cases h1_161 : v0.toInt = 7
  · have r1_162 : rg v0 7 7 := rg_at h1_161
    refine lv_tableIn (off := 151) (tgt := 152) hx hb dX16_notWord_1 (by rw [h1_161]; decide) (by rw [h1_161]; decide) (by rw [h1_161]; rfl) (by decide) ?_
    refine lv_aload_n hx hb dX16_notWord_152 rfl (lv_at hl 0 rfl) ?_
    refine lv_iconst (v := 4) hx hb dX16_notWord_153 (by decide) ?_
    refine lv_iload_n hx hb dX16_notWord_154 rfl (lv_at hl 2 rfl) ?_
    refine lv_iload_n hx hb dX16_notWord_155 rfl (lv_at hl 3 rfl) ?_
    refine lv_bipush (v := 8) hx hb dX16_notWord_156 (by decide) ?_
    refine go_v (k1 := 0) (n1 := 0) (wr := []) [0, 1] [] (rn_V (As := [.int 4, .int v1, .int v2, .int 8]) (rest := []) (c_X16_branch l D ct mm (4 : Int32) v1 v2 (8 : Int32) fs_mm uwd x_mm_73 g_uwd hlen_mm hf_mm_72 (rg_w h_x_mm_73 (by decide)) hf_mm_73 _) (cb_of (n := 4) hn mw_2601 mw_13 mw_2598 mhX16_branch ⟨(Nat.le_of_ble_eq_true rfl), (Nat.le_of_ble_eq_true rfl)⟩) hx hb hml hown hn hK hSK hZ hS mw_2600 mw_s263 (ci := 16) (q0 := 0) rfl rfl rfl rfl hl.1 (Nat.le_of_ble_eq_true rfl) dX16_notWord_158 ⟨(Nat.le_of_ble_eq_true rfl), (Nat.le_of_ble_eq_true rfl)⟩) hP hD hS hA rfl rfl (by decide) (by decide) (by decide) (Nat.le_of_ble_eq_true rfl) (Nat.le_of_ble_eq_true rfl) (fun u158_2 H locs hp158_3 hP hD hS => ?_)
    obtain ⟨fs2_mm158_4, y_mm_73158_5, k_uwd158_6⟩ := u158_2
    obtain ⟨hp158_7, hp158_8, hp158_9, hp158_10⟩ := hp158_3
    have hs158_11 : SB fs_mm fs2_mm158_4 [73] := SB.trans (SB.rf _ _) hp158_7 (by decide)
    have hp158_8 : rg y_mm_73158_5 1 60000 := hp158_8
    replace hp158_10 : FF (y_mm_73158_5.toInt = x_mm_73.toInt + 1) := hp158_10
    have hP : va_P D vwCl [(mm, .inr (16, fs2_mm158_4)), (uwd, .inl (ct 1, 60000, .inl k_uwd158_6))] _ := hP
    have hD : va_D A [(mm, .inr (16, fs2_mm158_4)), (uwd, .inl (ct 1, 60000, .inl k_uwd158_6))] := hD
    refine lv_goto (tgt := 211) hx hb dX16_notWord_161 (by decide) ?_
    exact endq_v hQ hx hb hr hlocks dX16_notWord_211 (fs2_mm158_4, y_mm_73158_5, k_uwd158_6) ⟨hs158_11, hp158_8, hp158_9, (show x_mm_73.toInt + 1 ≤ y_mm_73158_5.toInt ∧ y_mm_73158_5.toInt ≤ x_mm_73.toInt + 2 by have q0 := FF.out hp158_10; omega)⟩ hP hD hS [0, 1] rfl (by decide) rfl (Nat.le_of_ble_eq_true rfl) (Nat.le_of_ble_eq_true rfl)
  by_cases h1_171 : v0.toInt = 8
  · have r1_172 : rg v0 8 8 := rg_at h1_171
    refine lv_tableIn (off := 201) (tgt := 202) hx hb dX16_notWord_1 (by rw [h1_171]; decide) (by rw [h1_171]; decide) (by rw [h1_171]; rfl) (by decide) ?_
    exact b202  H locs ls  (lv_sub hl [0, 2, 3] rfl) hP hD hS
  by_cases h1_181 : v0.toInt = 9
  · have r1_182 : rg v0 9 9 := rg_at h1_181
    refine lv_tableIn (off := 201) (tgt := 202) hx hb dX16_notWord_1 (by rw [h1_181]; decide) (by rw [h1_181]; decide) (by rw [h1_181]; rfl) (by decide) ?_
    exact b202  H locs ls  (lv_sub hl [0, 2, 3] rfl) hP hD hS
  by_cases h1_191 : v0.toInt = 10
  · have r1_192 : rg v0 10 10 := rg_at h1_191
    refine lv_tableIn (off := 163) (tgt := 164) hx hb dX16_notWord_1 (by rw [h1_191]; decide) (by rw [h1_191]; decide) (by rw [h1_191]; rfl) (by decide) ?_
    refine lv_aload_n hx hb dX16_notWord_164 rfl (lv_at hl 0 rfl) ?_
    refine lv_bipush (v := 7) hx hb dX16_notWord_165 (by decide) ?_
    refine lv_iload_n hx hb dX16_notWord_167 rfl (lv_at hl 2 rfl) ?_
    refine lv_iload_n hx hb dX16_notWord_168 rfl (lv_at hl 3 rfl) ?_
    refine lv_bipush (v := 8) hx hb dX16_notWord_169 (by decide) ?_
    refine go_v (k1 := 0) (n1 := 0) (wr := []) [0, 1] [] (rn_V (As := [.int 7, .int v1, .int v2, .int 8]) (rest := []) (c_X16_branch l D ct mm (7 : Int32) v1 v2 (8 : Int32) fs_mm uwd x_mm_73 g_uwd hlen_mm hf_mm_72 (rg_w h_x_mm_73 (by decide)) hf_mm_73 _) (cb_of (n := 4) hn mw_2601 mw_13 mw_2598 mhX16_branch ⟨(Nat.le_of_ble_eq_true rfl), (Nat.le_of_ble_eq_true rfl)⟩) hx hb hml hown hn hK hSK hZ hS mw_2600 mw_s263 (ci := 16) (q0 := 0) rfl rfl rfl rfl hl.1 (Nat.le_of_ble_eq_true rfl) dX16_notWord_171 ⟨(Nat.le_of_ble_eq_true rfl), (Nat.le_of_ble_eq_true rfl)⟩) hP hD hS hA rfl rfl (by decide) (by decide) (by decide) (Nat.le_of_ble_eq_true rfl) (Nat.le_of_ble_eq_true rfl) (fun u171_2 H locs hp171_3 hP hD hS => ?_)
    obtain ⟨fs2_mm171_4, y_mm_73171_5, k_uwd171_6⟩ := u171_2
    obtain ⟨hp171_7, hp171_8, hp171_9, hp171_10⟩ := hp171_3
    have hs171_11 : SB fs_mm fs2_mm171_4 [73] := SB.trans (SB.rf _ _) hp171_7 (by decide)
    have hp171_8 : rg y_mm_73171_5 1 60000 := hp171_8
    replace hp171_10 : FF (y_mm_73171_5.toInt = x_mm_73.toInt + 1) := hp171_10
    have hP : va_P D vwCl [(mm, .inr (16, fs2_mm171_4)), (uwd, .inl (ct 1, 60000, .inl k_uwd171_6))] _ := hP
    have hD : va_D A [(mm, .inr (16, fs2_mm171_4)), (uwd, .inl (ct 1, 60000, .inl k_uwd171_6))] := hD
    refine lv_goto (tgt := 211) hx hb dX16_notWord_174 (by decide) ?_
    exact endq_v hQ hx hb hr hlocks dX16_notWord_211 (fs2_mm171_4, y_mm_73171_5, k_uwd171_6) ⟨hs171_11, hp171_8, hp171_9, (show x_mm_73.toInt + 1 ≤ y_mm_73171_5.toInt ∧ y_mm_73171_5.toInt ≤ x_mm_73.toInt + 2 by have q0 := FF.out hp171_10; omega)⟩ hP hD hS [0, 1] rfl (by decide) rfl (Nat.le_of_ble_eq_true rfl) (Nat.le_of_ble_eq_true rfl)
  by_cases h1_201 : v0.toInt = 11
  · have r1_202 : rg v0 11 11 := rg_at h1_201
    refine lv_tableIn (off := 176) (tgt := 177) hx hb dX16_notWord_1 (by rw [h1_201]; decide) (by rw [h1_201]; decide) (by rw [h1_201]; rfl) (by decide) ?_
    refine lv_aload_n hx hb dX16_notWord_177 rfl (lv_at hl 0 rfl) ?_
    refine lv_bipush (v := 6) hx hb dX16_notWord_178 (by decide) ?_
    refine lv_iload_n hx hb dX16_notWord_180 rfl (lv_at hl 3 rfl) ?_
    refine lv_iload_n hx hb dX16_notWord_181 rfl (lv_at hl 2 rfl) ?_
    refine lv_bipush (v := 8) hx hb dX16_notWord_182 (by decide) ?_
    refine go_v (k1 := 0) (n1 := 0) (wr := []) [0, 1] [] (rn_V (As := [.int 6, .int v2, .int v1, .int 8]) (rest := []) (c_X16_branch l D ct mm (6 : Int32) v2 v1 (8 : Int32) fs_mm uwd x_mm_73 g_uwd hlen_mm hf_mm_72 (rg_w h_x_mm_73 (by decide)) hf_mm_73 _) (cb_of (n := 4) hn mw_2601 mw_13 mw_2598 mhX16_branch ⟨(Nat.le_of_ble_eq_true rfl), (Nat.le_of_ble_eq_true rfl)⟩) hx hb hml hown hn hK hSK hZ hS mw_2600 mw_s263 (ci := 16) (q0 := 0) rfl rfl rfl rfl hl.1 (Nat.le_of_ble_eq_true rfl) dX16_notWord_184 ⟨(Nat.le_of_ble_eq_true rfl), (Nat.le_of_ble_eq_true rfl)⟩) hP hD hS hA rfl rfl (by decide) (by decide) (by decide) (Nat.le_of_ble_eq_true rfl) (Nat.le_of_ble_eq_true rfl) (fun u184_2 H locs hp184_3 hP hD hS => ?_)
    obtain ⟨fs2_mm184_4, y_mm_73184_5, k_uwd184_6⟩ := u184_2
    obtain ⟨hp184_7, hp184_8, hp184_9, hp184_10⟩ := hp184_3
    have hs184_11 : SB fs_mm fs2_mm184_4 [73] := SB.trans (SB.rf _ _) hp184_7 (by decide)
    have hp184_8 : rg y_mm_73184_5 1 60000 := hp184_8
    replace hp184_10 : FF (y_mm_73184_5.toInt = x_mm_73.toInt + 1) := hp184_10
    have hP : va_P D vwCl [(mm, .inr (16, fs2_mm184_4)), (uwd, .inl (ct 1, 60000, .inl k_uwd184_6))] _ := hP
    have hD : va_D A [(mm, .inr (16, fs2_mm184_4)), (uwd, .inl (ct 1, 60000, .inl k_uwd184_6))] := hD
    refine lv_goto (tgt := 211) hx hb dX16_notWord_187 (by decide) ?_
    exact endq_v hQ hx hb hr hlocks dX16_notWord_211 (fs2_mm184_4, y_mm_73184_5, k_uwd184_6) ⟨hs184_11, hp184_8, hp184_9, (show x_mm_73.toInt + 1 ≤ y_mm_73184_5.toInt ∧ y_mm_73184_5.toInt ≤ x_mm_73.toInt + 2 by have q0 := FF.out hp184_10; omega)⟩ hP hD hS [0, 1] rfl (by decide) rfl (Nat.le_of_ble_eq_true rfl) (Nat.le_of_ble_eq_true rfl)
  by_cases h1_211 : v0.toInt = 12
  · have r1_212 : rg v0 12 12 := rg_at h1_211
    refine lv_tableIn (off := 189) (tgt := 190) hx hb dX16_notWord_1 (by rw [h1_211]; decide) (by rw [h1_211]; decide) (by rw [h1_211]; rfl) (by decide) ?_
    refine lv_aload_n hx hb dX16_notWord_190 rfl (lv_at hl 0 rfl) ?_
    refine lv_iconst (v := 5) hx hb dX16_notWord_191 (by decide) ?_
    refine lv_iload_n hx hb dX16_notWord_192 rfl (lv_at hl 2 rfl) ?_
    refine lv_iload_n hx hb dX16_notWord_193 rfl (lv_at hl 3 rfl) ?_
    refine lv_bipush (v := 8) hx hb dX16_notWord_194 (by decide) ?_
    refine go_v (k1 := 0) (n1 := 0) (wr := []) [0, 1] [] (rn_V (As := [.int 5, .int v1, .int v2, .int 8]) (rest := []) (c_X16_branch l D ct mm (5 : Int32) v1 v2 (8 : Int32) fs_mm uwd x_mm_73 g_uwd hlen_mm hf_mm_72 (rg_w h_x_mm_73 (by decide)) hf_mm_73 _) (cb_of (n := 4) hn mw_2601 mw_13 mw_2598 mhX16_branch ⟨(Nat.le_of_ble_eq_true rfl), (Nat.le_of_ble_eq_true rfl)⟩) hx hb hml hown hn hK hSK hZ hS mw_2600 mw_s263 (ci := 16) (q0 := 0) rfl rfl rfl rfl hl.1 (Nat.le_of_ble_eq_true rfl) dX16_notWord_196 ⟨(Nat.le_of_ble_eq_true rfl), (Nat.le_of_ble_eq_true rfl)⟩) hP hD hS hA rfl rfl (by decide) (by decide) (by decide) (Nat.le_of_ble_eq_true rfl) (Nat.le_of_ble_eq_true rfl) (fun u196_2 H locs hp196_3 hP hD hS => ?_)
    obtain ⟨fs2_mm196_4, y_mm_73196_5, k_uwd196_6⟩ := u196_2
    obtain ⟨hp196_7, hp196_8, hp196_9, hp196_10⟩ := hp196_3
    have hs196_11 : SB fs_mm fs2_mm196_4 [73] := SB.trans (SB.rf _ _) hp196_7 (by decide)
    have hp196_8 : rg y_mm_73196_5 1 60000 := hp196_8
    replace hp196_10 : FF (y_mm_73196_5.toInt = x_mm_73.toInt + 1) := hp196_10
    have hP : va_P D vwCl [(mm, .inr (16, fs2_mm196_4)), (uwd, .inl (ct 1, 60000, .inl k_uwd196_6))] _ := hP
    have hD : va_D A [(mm, .inr (16, fs2_mm196_4)), (uwd, .inl (ct 1, 60000, .inl k_uwd196_6))] := hD
    refine lv_goto (tgt := 211) hx hb dX16_notWord_199 (by decide) ?_
    exact endq_v hQ hx hb hr hlocks dX16_notWord_211 (fs2_mm196_4, y_mm_73196_5, k_uwd196_6) ⟨hs196_11, hp196_8, hp196_9, (show x_mm_73.toInt + 1 ≤ y_mm_73196_5.toInt ∧ y_mm_73196_5.toInt ≤ x_mm_73.toInt + 2 by have q0 := FF.out hp196_10; omega)⟩ hP hD hS [0, 1] rfl (by decide) rfl (Nat.le_of_ble_eq_true rfl) (Nat.le_of_ble_eq_true rfl)
  refine lv_tableOut (tgt := 202) hx hb dX16_notWord_1 (by have q0 := (rg_any v0); have q1 := q0.1; have q2 := q0.2; omega) (by decide) ?_
  have hl1_5001 := FF.mk h1_101
  have hl1_5002 := FF.mk h1_111
  have hl1_5003 := FF.mk h1_121
  have hl1_5004 := FF.mk h1_131
  have hl1_5005 := FF.mk h1_141
  have hl1_5006 := FF.mk h1_151
  have hl1_5007 := FF.mk h1_161
  have hl1_5008 := FF.mk h1_171
  have hl1_5009 := FF.mk h1_181
  have hl1_5010 := FF.mk h1_191
  have hl1_5011 := FF.mk h1_201
  have hl1_5012 := FF.mk h1_211
  exact b202  H locs ls  (lv_sub hl [0, 2, 3] rfl) hP hD hS
set_option maxHeartbeats 2000000 in
theorem c_X16_wayWords (l : Launch) (D : va_G) (ct : Nat → ClassId) (mm : Nat) (v0 : Int64) (fs_mm : List Value) (uwd : Nat) (x_mm_73 : Int32) (g_uwd : Nat → Int32) (hlen_mm : fs_mm.length = 78) (hf_mm_72 : fs_mm[72]? = some (.ref uwd)) (h_x_mm_73 : rg x_mm_73 0 59993) (hf_mm_73 : fs_mm[73]? = some (.int x_mm_73)) : KV (S := List Value × Int32 × (Nat → Int32)) l yX16_wayWords cX16_wayWords 6 none 5 112 D ct [.ref mm, .long v0] [(mm, .inr (16, fs_mm)), (uwd, .inl (ct 1, 60000, .inl g_uwd))] 0 0 (fun (u : List Value × Int32 × (Nat → Int32)) => match u with | (fs2_mm, y_mm_73, k_uwd) => SB fs_mm fs2_mm [73] ∧ rg y_mm_73 1 60000 ∧ fs2_mm[73]? = some (.int y_mm_73) ∧ (x_mm_73.toInt + 1 ≤ y_mm_73.toInt ∧ y_mm_73.toInt ≤ x_mm_73.toInt + 7)) (fun (u : List Value × Int32 × (Nat → Int32)) => match u with | (fs2_mm, y_mm_73, k_uwd) => [(mm, .inr (16, fs2_mm)), (uwd, .inl (ct 1, 60000, .inl k_uwd))]) := by
  refine KVq_of (by decide) (Nat.le_of_ble_eq_true rfl) (fun p e s m below meth c A Q C0 hA H locs hS hP hD hQ ls hl => ?_)
  obtain ⟨hx, hb, hr, hown, hin, hml, hlocks, hn, hK, hZ, hSK⟩ := C0
  have hl : lv_has ls 6 [(0, .ref mm), (1, .long v0)] := hl
  refine lv_lload_n hx hb dX16_wayWords_0 rfl (lv_at hl 1 rfl) ?_
  refine go_i (k1 := 0) (n1 := 0) (wr := [(mm, .inr (16, fs_mm)), (uwd, .inl (ct 1, 60000, .inl g_uwd))]) [] [0, 1] (rn_S (As := [.long v0]) (rest := []) (c_X16_codeOf l D ct v0  _) (cb_of (n := 1) hn mw_2322 mw_13 mw_2320 mhX16_codeOf ⟨(Nat.le_of_ble_eq_true rfl), (Nat.le_of_ble_eq_true rfl)⟩) hx hb hml hown hn hK hSK hZ hS mw_2321 rfl hl.1 (Nat.le_of_ble_eq_true rfl) dX16_wayWords_1 ⟨(Nat.le_of_ble_eq_true rfl), (Nat.le_of_ble_eq_true rfl)⟩) hP hD hS hA rfl rfl (by decide) (by decide) (by decide) (Nat.le_of_ble_eq_true rfl) (Nat.le_of_ble_eq_true rfl) (fun r1_1 u1_2 H locs hp1_3 hP hD hS => ?_)
  obtain ⟨hp1_4, hp1_5⟩ := hp1_3
  have hp1_4 : rg r1_1 0 255 := hp1_4
  replace hp1_5 : FF (r1_1.toInt = v0.toInt % 256) := hp1_5
  have hP : va_P D vwCl [(mm, .inr (16, fs_mm)), (uwd, .inl (ct 1, 60000, .inl g_uwd))] _ := hP
  have hD : va_D A [(mm, .inr (16, fs_mm)), (uwd, .inl (ct 1, 60000, .inl g_uwd))] := hD
  refine lv_istore_n (lv' := [(3, .int r1_1), (0, .ref mm), (1, .long v0)]) hx hb dX16_wayWords_4 rfl hl (by decide) rfl (fun ls hl => ?_)
  refine lv_iload_n hx hb dX16_wayWords_5 rfl (lv_at hl 0 rfl) ?_
  refine go_i (k1 := 0) (n1 := 0) (wr := [(mm, .inr (16, fs_mm)), (uwd, .inl (ct 1, 60000, .inl g_uwd))]) [] [0, 1] (rn_S (As := [.int r1_1]) (rest := []) (c_X16_isEnd l D ct r1_1  _) (cb_of (n := 1) hn mw_2334 mw_13 mw_2332 mhX16_isEnd ⟨(Nat.le_of_ble_eq_true rfl), (Nat.le_of_ble_eq_true rfl)⟩) hx hb hml hown hn hK hSK hZ hS mw_2333 rfl hl.1 (Nat.le_of_ble_eq_true rfl) dX16_wayWords_6 ⟨(Nat.le_of_ble_eq_true rfl), (Nat.le_of_ble_eq_true rfl)⟩) hP hD hS hA rfl rfl (by decide) (by decide) (by decide) (Nat.le_of_ble_eq_true rfl) (Nat.le_of_ble_eq_true rfl) (fun r6_1 u6_2 H locs hp6_3 hP hD hS => ?_)
  obtain ⟨hp6_4, hp6_5, hp6_6⟩ := hp6_3
  have hp6_4 : rg r6_1 0 1 := hp6_4
  replace hp6_5 : FF (r6_1.toInt = 1 → r1_1.toInt = 149) := hp6_5
  replace hp6_6 : FF (r6_1.toInt = 0 → r1_1.toInt ≠ 149) := hp6_6
  have hP : va_P D vwCl [(mm, .inr (16, fs_mm)), (uwd, .inl (ct 1, 60000, .inl g_uwd))] _ := hP
  have hD : va_D A [(mm, .inr (16, fs_mm)), (uwd, .inl (ct 1, 60000, .inl g_uwd))] := hD
  refine lv_if_eq (tgt := 20) hx hb dX16_wayWords_9 (by decide) (fun c9_1 => ?_) (fun c9_1 => ?_)
  · have t9_2 := FF.mk (i_eq c9_1)
    have r9_3 : rg r6_1 0 0 := rg_eqA t9_2 hp6_4 (show rg (0 : Int32) 0 0 from rg_l (by decide)) (by decide)
    refine lv_iload_n hx hb dX16_wayWords_20 rfl (lv_at hl 0 rfl) ?_
    refine go_i (k1 := 0) (n1 := 0) (wr := [(mm, .inr (16, fs_mm)), (uwd, .inl (ct 1, 60000, .inl g_uwd))]) [] [0, 1] (rn_S (As := [.int r1_1]) (rest := []) (c_X16_isAlways l D ct r1_1  _) (cb_of (n := 1) hn mw_2337 mw_13 mw_2335 mhX16_isAlways ⟨(Nat.le_of_ble_eq_true rfl), (Nat.le_of_ble_eq_true rfl)⟩) hx hb hml hown hn hK hSK hZ hS mw_2336 rfl hl.1 (Nat.le_of_ble_eq_true rfl) dX16_wayWords_21 ⟨(Nat.le_of_ble_eq_true rfl), (Nat.le_of_ble_eq_true rfl)⟩) hP hD hS hA rfl rfl (by decide) (by decide) (by decide) (Nat.le_of_ble_eq_true rfl) (Nat.le_of_ble_eq_true rfl) (fun r21_1 u21_2 H locs hp21_3 hP hD hS => ?_)
    obtain ⟨hp21_4, hp21_5, hp21_6⟩ := hp21_3
    have hp21_4 : rg r21_1 0 1 := hp21_4
    replace hp21_5 : FF (r21_1.toInt = 1 → r1_1.toInt = 5) := hp21_5
    replace hp21_6 : FF (r21_1.toInt = 0 → r1_1.toInt ≠ 5) := hp21_6
    have hP : va_P D vwCl [(mm, .inr (16, fs_mm)), (uwd, .inl (ct 1, 60000, .inl g_uwd))] _ := hP
    have hD : va_D A [(mm, .inr (16, fs_mm)), (uwd, .inl (ct 1, 60000, .inl g_uwd))] := hD
    have b118 : ∀ (j118_amm : List Value) (j118_fmm_73 : Int32) (j118_cuwd : Nat → Int32) (H : Heap) (locs : List Loc) (ls : Array Slot), (SB fs_mm j118_amm [73]) → (rg j118_fmm_73 0 60000) → (j118_amm[73]? = some (.int j118_fmm_73)) → (FF (x_mm_73.toInt ≤ j118_fmm_73.toInt ∧ j118_fmm_73.toInt ≤ x_mm_73.toInt + 6)) → lv_has ls 6 [(0, .ref mm)] → va_P D vwCl [(mm, .inr (16, j118_amm)), (uwd, .inl (ct 1, 60000, .inl j118_cuwd))] H → va_D A [(mm, .inr (16, j118_amm)), (uwd, .inl (ct 1, 60000, .inl j118_cuwd))] → va_S A s.heap H locs → W p l e ({ frames := 5, cells := 0, slots := 0, locals := 112 }) s m [.ref mm, .long v0].toArray below meth c H locs 0 0 Q (F0 m 118 ls []) := by
      intro j118_amm j118_fmm_73 j118_cuwd H locs ls hs118_1001 r118_1002 hf118_1003 ho118_1004 hl hP hD hS
      refine lv_aload_n hx hb dX16_wayWords_118 rfl (lv_at hl 0 rfl) ?_
      refine lv_ldc2 (v := 111) hx hb hown (hn.get mw_2631 rfl) dX16_wayWords_119 ?_
      refine go_v (k1 := 0) (n1 := 0) (wr := []) [0, 1] [] (rn_V (As := [.long 111]) (rest := []) (c_X16_emitWord l D ct mm (111 : Int64) j118_amm uwd j118_fmm_73 j118_cuwd (hs118_1001.1.trans hlen_mm) (SB.get hs118_1001 (by decide) hf_mm_72) (rg_of (show 0 ≤ j118_fmm_73.toInt ∧ j118_fmm_73.toInt ≤ 59999 by have q0 := r118_1002.1; have q1 := h_x_mm_73.2; have q2 := FF.out ho118_1004; omega)) hf118_1003 _) (cb_of (n := 1) hn mw_2587 mw_13 mw_2584 mhX16_emitWord ⟨(Nat.le_of_ble_eq_true rfl), (Nat.le_of_ble_eq_true rfl)⟩) hx hb hml hown hn hK hSK hZ hS mw_2586 mw_s260 (ci := 16) (q0 := 0) rfl rfl rfl rfl hl.1 (Nat.le_of_ble_eq_true rfl) dX16_wayWords_122 ⟨(Nat.le_of_ble_eq_true rfl), (Nat.le_of_ble_eq_true rfl)⟩) hP hD hS hA rfl rfl (by decide) (by decide) (by decide) (Nat.le_of_ble_eq_true rfl) (Nat.le_of_ble_eq_true rfl) (fun u122_2 H locs hp122_3 hP hD hS => ?_)
      obtain ⟨fs2_mm122_4, y_mm_73122_5, k_uwd122_6⟩ := u122_2
      obtain ⟨hp122_7, hp122_8, hp122_9, hp122_10⟩ := hp122_3
      have hs122_11 : SB fs_mm fs2_mm122_4 [73] := SB.trans hs118_1001 hp122_7 (by decide)
      have hp122_8 : rg y_mm_73122_5 1 60000 := hp122_8
      replace hp122_10 : FF (y_mm_73122_5.toInt = j118_fmm_73.toInt + 1) := hp122_10
      have hP : va_P D vwCl [(mm, .inr (16, fs2_mm122_4)), (uwd, .inl (ct 1, 60000, .inl k_uwd122_6))] _ := hP
      have hD : va_D A [(mm, .inr (16, fs2_mm122_4)), (uwd, .inl (ct 1, 60000, .inl k_uwd122_6))] := hD
      exact endq_v hQ hx hb hr hlocks dX16_wayWords_125 (fs2_mm122_4, y_mm_73122_5, k_uwd122_6) ⟨hs122_11, hp122_8, hp122_9, (show x_mm_73.toInt + 1 ≤ y_mm_73122_5.toInt ∧ y_mm_73122_5.toInt ≤ x_mm_73.toInt + 7 by have q0 := FF.out ho118_1004; have q1 := FF.out hp122_10; omega)⟩ hP hD hS [0, 1] rfl (by decide) rfl (Nat.le_of_ble_eq_true rfl) (Nat.le_of_ble_eq_true rfl)
    refine lv_if_ne (tgt := 118) hx hb dX16_wayWords_24 (by decide) (fun c24_1 => ?_) (fun c24_1 => ?_)
    · have t24_2 := FF.mk (i_ne c24_1)
      have r24_3 : rg r21_1 1 1 := rg_neAl t24_2 hp21_4 (show rg (0 : Int32) 0 0 from rg_l (by decide)) (by decide)
      exact b118 fs_mm x_mm_73 g_uwd H locs ls (SB.rf _ _) (rg_w h_x_mm_73 (by decide)) hf_mm_73 (show x_mm_73.toInt ≤ x_mm_73.toInt ∧ x_mm_73.toInt ≤ x_mm_73.toInt + 6 by omega) (lv_sub hl [1] rfl) hP hD hS
    · have t24_2 := FF.mk (i_eq c24_1)
      have r24_3 : rg r21_1 0 0 := rg_eqA t24_2 hp21_4 (show rg (0 : Int32) 0 0 from rg_l (by decide)) (by decide)
      refine lv_lload_n hx hb dX16_wayWords_27 rfl (lv_at hl 2 rfl) ?_
      refine go_i (k1 := 0) (n1 := 0) (wr := [(mm, .inr (16, fs_mm)), (uwd, .inl (ct 1, 60000, .inl g_uwd))]) [] [0, 1] (rn_S (As := [.long v0]) (rest := []) (c_X16_dOf l D ct v0  _) (cb_of (n := 1) hn mw_2328 mw_13 mw_2326 mhX16_dOf ⟨(Nat.le_of_ble_eq_true rfl), (Nat.le_of_ble_eq_true rfl)⟩) hx hb hml hown hn hK hSK hZ hS mw_2327 rfl hl.1 (Nat.le_of_ble_eq_true rfl) dX16_wayWords_28 ⟨(Nat.le_of_ble_eq_true rfl), (Nat.le_of_ble_eq_true rfl)⟩) hP hD hS hA rfl rfl (by decide) (by decide) (by decide) (Nat.le_of_ble_eq_true rfl) (Nat.le_of_ble_eq_true rfl) (fun r28_1 u28_2 H locs hp28_3 hP hD hS => ?_)
      obtain ⟨hp28_4, hp28_5⟩ := hp28_3
      have hp28_4 : rg r28_1 0 15 := hp28_4
      replace hp28_5 : FF (r28_1.toInt = (v0.toInt / 256) % 16) := hp28_5
      have hP : va_P D vwCl [(mm, .inr (16, fs_mm)), (uwd, .inl (ct 1, 60000, .inl g_uwd))] _ := hP
      have hD : va_D A [(mm, .inr (16, fs_mm)), (uwd, .inl (ct 1, 60000, .inl g_uwd))] := hD
      refine go_i (k1 := 0) (n1 := 0) (wr := [(mm, .inr (16, fs_mm)), (uwd, .inl (ct 1, 60000, .inl g_uwd))]) [] [0, 1] (rn_S (As := [.int r28_1]) (rest := []) (c_X16_registerOf l D ct r28_1  _) (cb_of (n := 1) hn mw_2571 mw_13 mw_2569 mhX16_registerOf ⟨(Nat.le_of_ble_eq_true rfl), (Nat.le_of_ble_eq_true rfl)⟩) hx hb hml hown hn hK hSK hZ hS mw_2570 rfl hl.1 (Nat.le_of_ble_eq_true rfl) dX16_wayWords_31 ⟨(Nat.le_of_ble_eq_true rfl), (Nat.le_of_ble_eq_true rfl)⟩) hP hD hS hA rfl rfl (by decide) (by decide) (by decide) (Nat.le_of_ble_eq_true rfl) (Nat.le_of_ble_eq_true rfl) (fun r31_1 u31_2 H locs hp31_3 hP hD hS => ?_)
      have hP : va_P D vwCl [(mm, .inr (16, fs_mm)), (uwd, .inl (ct 1, 60000, .inl g_uwd))] _ := hP
      have hD : va_D A [(mm, .inr (16, fs_mm)), (uwd, .inl (ct 1, 60000, .inl g_uwd))] := hD
      refine lv_istore (lv' := [(4, .int r31_1), (3, .int r1_1), (0, .ref mm), (1, .long v0)]) hx hb dX16_wayWords_34 hl (by decide) rfl (fun ls hl => ?_)
      refine lv_iload_n hx hb dX16_wayWords_36 rfl (lv_at hl 1 rfl) ?_
      refine go_i (k1 := 0) (n1 := 0) (wr := [(mm, .inr (16, fs_mm)), (uwd, .inl (ct 1, 60000, .inl g_uwd))]) [] [0, 1] (rn_S (As := [.int r1_1]) (rest := []) (c_X16_bySource l D ct r1_1  _) (cb_of (n := 1) hn mw_2340 mw_13 mw_2338 mhX16_bySource ⟨(Nat.le_of_ble_eq_true rfl), (Nat.le_of_ble_eq_true rfl)⟩) hx hb hml hown hn hK hSK hZ hS mw_2339 rfl hl.1 (Nat.le_of_ble_eq_true rfl) dX16_wayWords_37 ⟨(Nat.le_of_ble_eq_true rfl), (Nat.le_of_ble_eq_true rfl)⟩) hP hD hS hA rfl rfl (by decide) (by decide) (by decide) (Nat.le_of_ble_eq_true rfl) (Nat.le_of_ble_eq_true rfl) (fun r37_1 u37_2 H locs hp37_3 hP hD hS => ?_)
      have hp37_4 := hp37_3
      have hp37_4 : rg r37_1 0 1 := hp37_4
      have hP : va_P D vwCl [(mm, .inr (16, fs_mm)), (uwd, .inl (ct 1, 60000, .inl g_uwd))] _ := hP
      have hD : va_D A [(mm, .inr (16, fs_mm)), (uwd, .inl (ct 1, 60000, .inl g_uwd))] := hD
      have b54 : ∀ (j54_s0 : Int32) (H : Heap) (locs : List Loc) (ls : Array Slot), lv_has ls 6 [(0, .ref mm), (1, .long v0), (3, .int r1_1), (4, .int r31_1)] → va_P D vwCl [(mm, .inr (16, fs_mm)), (uwd, .inl (ct 1, 60000, .inl g_uwd))] H → va_D A [(mm, .inr (16, fs_mm)), (uwd, .inl (ct 1, 60000, .inl g_uwd))] → va_S A s.heap H locs → W p l e ({ frames := 5, cells := 0, slots := 0, locals := 112 }) s m [.ref mm, .long v0].toArray below meth c H locs 0 0 Q (F0 m 54 ls [.int j54_s0]) := by
        intro j54_s0 H locs ls  hl hP hD hS
        refine lv_istore (lv' := [(5, .int j54_s0), (0, .ref mm), (1, .long v0), (3, .int r1_1), (4, .int r31_1)]) hx hb dX16_wayWords_54 hl (by decide) rfl (fun ls hl => ?_)
        refine lv_iload_n hx hb dX16_wayWords_56 rfl (lv_at hl 3 rfl) ?_
        refine go_i (k1 := 0) (n1 := 0) (wr := [(mm, .inr (16, fs_mm)), (uwd, .inl (ct 1, 60000, .inl g_uwd))]) [] [0, 1] (rn_S (As := [.int r1_1]) (rest := []) (c_X16_bySource l D ct r1_1  _) (cb_of (n := 1) hn mw_2340 mw_13 mw_2338 mhX16_bySource ⟨(Nat.le_of_ble_eq_true rfl), (Nat.le_of_ble_eq_true rfl)⟩) hx hb hml hown hn hK hSK hZ hS mw_2339 rfl hl.1 (Nat.le_of_ble_eq_true rfl) dX16_wayWords_57 ⟨(Nat.le_of_ble_eq_true rfl), (Nat.le_of_ble_eq_true rfl)⟩) hP hD hS hA rfl rfl (by decide) (by decide) (by decide) (Nat.le_of_ble_eq_true rfl) (Nat.le_of_ble_eq_true rfl) (fun r57_1 u57_2 H locs hp57_3 hP hD hS => ?_)
        have hp57_4 := hp57_3
        have hp57_4 : rg r57_1 0 1 := hp57_4
        have hP : va_P D vwCl [(mm, .inr (16, fs_mm)), (uwd, .inl (ct 1, 60000, .inl g_uwd))] _ := hP
        have hD : va_D A [(mm, .inr (16, fs_mm)), (uwd, .inl (ct 1, 60000, .inl g_uwd))] := hD
        have b72 : ∀ (j72_amm : List Value) (j72_fmm_73 : Int32) (j72_cuwd : Nat → Int32) (H : Heap) (locs : List Loc) (ls : Array Slot), (SB fs_mm j72_amm [73]) → (rg j72_fmm_73 0 60000) → (j72_amm[73]? = some (.int j72_fmm_73)) → (FF (x_mm_73.toInt ≤ j72_fmm_73.toInt ∧ j72_fmm_73.toInt ≤ x_mm_73.toInt + 2)) → lv_has ls 6 [(0, .ref mm), (3, .int r1_1), (4, .int r31_1), (5, .int j54_s0)] → va_P D vwCl [(mm, .inr (16, j72_amm)), (uwd, .inl (ct 1, 60000, .inl j72_cuwd))] H → va_D A [(mm, .inr (16, j72_amm)), (uwd, .inl (ct 1, 60000, .inl j72_cuwd))] → va_S A s.heap H locs → W p l e ({ frames := 5, cells := 0, slots := 0, locals := 112 }) s m [.ref mm, .long v0].toArray below meth c H locs 0 0 Q (F0 m 72 ls []) := by
          intro j72_amm j72_fmm_73 j72_cuwd H locs ls hs72_1001 r72_1002 hf72_1003 ho72_1004 hl hP hD hS
          refine lv_iload_n hx hb dX16_wayWords_72 rfl (lv_at hl 1 rfl) ?_
          refine lv_bipush (v := 7) hx hb dX16_wayWords_73 (by decide) ?_
          refine lv_iand hx hb dX16_wayWords_75 ?_
          refine lv_topi (fun z75_1 ez75_1 => ?_)
          have r75_2 : rg z75_1 0 7 := rg_andr ez75_1 (show rg (7 : Int32) 7 7 from rg_l (by decide)) (by decide)
          refine lv_bipush (v := 6) hx hb dX16_wayWords_76 (by decide) ?_
          have b107 : ∀ (j107_l4 : Int32) (j107_l5 : Int32) (j107_amm : List Value) (j107_fmm_73 : Int32) (j107_cuwd : Nat → Int32) (H : Heap) (locs : List Loc) (ls : Array Slot), (SB fs_mm j107_amm [73]) → (rg j107_fmm_73 0 60000) → (j107_amm[73]? = some (.int j107_fmm_73)) → (FF (x_mm_73.toInt ≤ j107_fmm_73.toInt ∧ j107_fmm_73.toInt ≤ x_mm_73.toInt + 4)) → lv_has ls 6 [(0, .ref mm), (3, .int r1_1), (4, .int j107_l4), (5, .int j107_l5)] → va_P D vwCl [(mm, .inr (16, j107_amm)), (uwd, .inl (ct 1, 60000, .inl j107_cuwd))] H → va_D A [(mm, .inr (16, j107_amm)), (uwd, .inl (ct 1, 60000, .inl j107_cuwd))] → va_S A s.heap H locs → W p l e ({ frames := 5, cells := 0, slots := 0, locals := 112 }) s m [.ref mm, .long v0].toArray below meth c H locs 0 0 Q (F0 m 107 ls []) := by
            intro j107_l4 j107_l5 j107_amm j107_fmm_73 j107_cuwd H locs ls hs107_1001 r107_1002 hf107_1003 ho107_1004 hl hP hD hS
            refine lv_aload_n hx hb dX16_wayWords_107 rfl (lv_at hl 0 rfl) ?_
            refine lv_iload_n hx hb dX16_wayWords_108 rfl (lv_at hl 1 rfl) ?_
            refine lv_iconst (v := 4) hx hb dX16_wayWords_109 (by decide) ?_
            refine lv_ishr hx hb dX16_wayWords_110 ?_
            refine lv_topi (fun z110_1 ez110_1 => ?_)
            have r110_2 : rg z110_1 0 15 := rg_shr (k := 4) ez110_1 (by decide) hp1_4 (by decide)
            refine lv_iload hx hb dX16_wayWords_111 (lv_at hl 2 rfl) ?_
            refine lv_iload hx hb dX16_wayWords_113 (lv_at hl 3 rfl) ?_
            refine go_v (k1 := 0) (n1 := 0) (wr := []) [0, 1] [] (rn_V (As := [.int z110_1, .int j107_l4, .int j107_l5]) (rest := []) (c_X16_notWord l D ct mm z110_1 j107_l4 j107_l5 j107_amm uwd j107_fmm_73 j107_cuwd (hs107_1001.1.trans hlen_mm) (SB.get hs107_1001 (by decide) hf_mm_72) (rg_of (show 0 ≤ j107_fmm_73.toInt ∧ j107_fmm_73.toInt ≤ 59998 by have q0 := r107_1002.1; have q1 := h_x_mm_73.2; have q2 := FF.out ho107_1004; omega)) hf107_1003 _) (cb_of (n := 3) hn mw_2630 mw_13 mw_2627 mhX16_notWord ⟨(Nat.le_of_ble_eq_true rfl), (Nat.le_of_ble_eq_true rfl)⟩) hx hb hml hown hn hK hSK hZ hS mw_2629 mw_s269 (ci := 16) (q0 := 0) rfl rfl rfl rfl hl.1 (Nat.le_of_ble_eq_true rfl) dX16_wayWords_115 ⟨(Nat.le_of_ble_eq_true rfl), (Nat.le_of_ble_eq_true rfl)⟩) hP hD hS hA rfl rfl (by decide) (by decide) (by decide) (Nat.le_of_ble_eq_true rfl) (Nat.le_of_ble_eq_true rfl) (fun u115_2 H locs hp115_3 hP hD hS => ?_)
            obtain ⟨fs2_mm115_4, y_mm_73115_5, k_uwd115_6⟩ := u115_2
            obtain ⟨hp115_7, hp115_8, hp115_9, hp115_10⟩ := hp115_3
            have hs115_11 : SB fs_mm fs2_mm115_4 [73] := SB.trans hs107_1001 hp115_7 (by decide)
            have hp115_8 : rg y_mm_73115_5 1 60000 := hp115_8
            replace hp115_10 : FF (j107_fmm_73.toInt + 1 ≤ y_mm_73115_5.toInt ∧ y_mm_73115_5.toInt ≤ j107_fmm_73.toInt + 2) := hp115_10
            have hP : va_P D vwCl [(mm, .inr (16, fs2_mm115_4)), (uwd, .inl (ct 1, 60000, .inl k_uwd115_6))] _ := hP
            have hD : va_D A [(mm, .inr (16, fs2_mm115_4)), (uwd, .inl (ct 1, 60000, .inl k_uwd115_6))] := hD
            exact b118 fs2_mm115_4 y_mm_73115_5 k_uwd115_6 H locs ls hs115_11 (rg_w hp115_8 (by decide)) hp115_9 (show x_mm_73.toInt ≤ y_mm_73115_5.toInt ∧ y_mm_73115_5.toInt ≤ x_mm_73.toInt + 6 by have q0 := FF.out ho107_1004; have q1 := FF.out hp115_10; omega) (lv_sub hl [0] rfl) hP hD hS
          refine lv_icmp_ne (tgt := 107) hx hb dX16_wayWords_78 (by decide) (fun c78_1 => ?_) (fun c78_1 => ?_)
          · have t78_2 := FF.mk (i_ne c78_1)
            exact b107 r31_1 j54_s0 j72_amm j72_fmm_73 j72_cuwd H locs ls hs72_1001 r72_1002 hf72_1003 (show x_mm_73.toInt ≤ j72_fmm_73.toInt ∧ j72_fmm_73.toInt ≤ x_mm_73.toInt + 4 by have q0 := FF.out ho72_1004; omega) (lv_sub hl [0, 1, 2, 3] rfl) hP hD hS
          · have t78_2 := FF.mk (i_eq c78_1)
            have r78_3 : rg z75_1 6 6 := rg_eqA t78_2 r75_2 (show rg (6 : Int32) 6 6 from rg_l (by decide)) (by decide)
            refine lv_aload_n hx hb dX16_wayWords_81 rfl (lv_at hl 0 rfl) ?_
            refine lv_bipush (v := 6) hx hb dX16_wayWords_82 (by decide) ?_
            refine lv_iload hx hb dX16_wayWords_84 (lv_at hl 2 rfl) ?_
            refine lv_iconst (v := 0) hx hb dX16_wayWords_86 (by decide) ?_
            refine go_v (k1 := 0) (n1 := 0) (wr := []) [0, 1] [] (rn_V (As := [.int 6, .int r31_1, .int 0]) (rest := []) (c_X16_addNumberWord l D ct mm (6 : Int32) r31_1 (0 : Int32) j72_amm uwd j72_fmm_73 j72_cuwd (hs72_1001.1.trans hlen_mm) (SB.get hs72_1001 (by decide) hf_mm_72) (rg_of (show 0 ≤ j72_fmm_73.toInt ∧ j72_fmm_73.toInt ≤ 59999 by have q0 := r72_1002.1; have q1 := h_x_mm_73.2; have q2 := FF.out ho72_1004; omega)) hf72_1003 _) (cb_of (n := 3) hn mw_2593 mw_13 mw_2590 mhX16_addNumberWord ⟨(Nat.le_of_ble_eq_true rfl), (Nat.le_of_ble_eq_true rfl)⟩) hx hb hml hown hn hK hSK hZ hS mw_2592 mw_s261 (ci := 16) (q0 := 0) rfl rfl rfl rfl hl.1 (Nat.le_of_ble_eq_true rfl) dX16_wayWords_87 ⟨(Nat.le_of_ble_eq_true rfl), (Nat.le_of_ble_eq_true rfl)⟩) hP hD hS hA rfl rfl (by decide) (by decide) (by decide) (Nat.le_of_ble_eq_true rfl) (Nat.le_of_ble_eq_true rfl) (fun u87_2 H locs hp87_3 hP hD hS => ?_)
            obtain ⟨fs2_mm87_4, y_mm_7387_5, k_uwd87_6⟩ := u87_2
            obtain ⟨hp87_7, hp87_8, hp87_9, hp87_10⟩ := hp87_3
            have hs87_11 : SB fs_mm fs2_mm87_4 [73] := SB.trans hs72_1001 hp87_7 (by decide)
            have hp87_8 : rg y_mm_7387_5 1 60000 := hp87_8
            replace hp87_10 : FF (y_mm_7387_5.toInt = j72_fmm_73.toInt + 1) := hp87_10
            have hP : va_P D vwCl [(mm, .inr (16, fs2_mm87_4)), (uwd, .inl (ct 1, 60000, .inl k_uwd87_6))] _ := hP
            have hD : va_D A [(mm, .inr (16, fs2_mm87_4)), (uwd, .inl (ct 1, 60000, .inl k_uwd87_6))] := hD
            refine lv_aload_n hx hb dX16_wayWords_90 rfl (lv_at hl 0 rfl) ?_
            refine lv_bipush (v := 7) hx hb dX16_wayWords_91 (by decide) ?_
            refine lv_iload hx hb dX16_wayWords_93 (lv_at hl 3 rfl) ?_
            refine lv_iconst (v := 0) hx hb dX16_wayWords_95 (by decide) ?_
            refine go_v (k1 := 0) (n1 := 0) (wr := []) [0, 1] [] (rn_V (As := [.int 7, .int j54_s0, .int 0]) (rest := []) (c_X16_addNumberWord l D ct mm (7 : Int32) j54_s0 (0 : Int32) fs2_mm87_4 uwd y_mm_7387_5 k_uwd87_6 (hs87_11.1.trans hlen_mm) (SB.get hs87_11 (by decide) hf_mm_72) (rg_of (show 0 ≤ y_mm_7387_5.toInt ∧ y_mm_7387_5.toInt ≤ 59999 by have q0 := hp87_8.1; have q1 := h_x_mm_73.2; have q2 := FF.out ho72_1004; have q3 := FF.out hp87_10; omega)) hp87_9 _) (cb_of (n := 3) hn mw_2593 mw_13 mw_2590 mhX16_addNumberWord ⟨(Nat.le_of_ble_eq_true rfl), (Nat.le_of_ble_eq_true rfl)⟩) hx hb hml hown hn hK hSK hZ hS mw_2592 mw_s261 (ci := 16) (q0 := 0) rfl rfl rfl rfl hl.1 (Nat.le_of_ble_eq_true rfl) dX16_wayWords_96 ⟨(Nat.le_of_ble_eq_true rfl), (Nat.le_of_ble_eq_true rfl)⟩) hP hD hS hA rfl rfl (by decide) (by decide) (by decide) (Nat.le_of_ble_eq_true rfl) (Nat.le_of_ble_eq_true rfl) (fun u96_2 H locs hp96_3 hP hD hS => ?_)
            obtain ⟨fs2_mm96_4, y_mm_7396_5, k_uwd96_6⟩ := u96_2
            obtain ⟨hp96_7, hp96_8, hp96_9, hp96_10⟩ := hp96_3
            have hs96_11 : SB fs_mm fs2_mm96_4 [73] := SB.trans hs87_11 hp96_7 (by decide)
            have hp96_8 : rg y_mm_7396_5 1 60000 := hp96_8
            replace hp96_10 : FF (y_mm_7396_5.toInt = y_mm_7387_5.toInt + 1) := hp96_10
            have hP : va_P D vwCl [(mm, .inr (16, fs2_mm96_4)), (uwd, .inl (ct 1, 60000, .inl k_uwd96_6))] _ := hP
            have hD : va_D A [(mm, .inr (16, fs2_mm96_4)), (uwd, .inl (ct 1, 60000, .inl k_uwd96_6))] := hD
            refine lv_bipush (v := 6) hx hb dX16_wayWords_99 (by decide) ?_
            refine lv_istore (lv' := [(4, .int 6), (0, .ref mm), (3, .int r1_1), (5, .int j54_s0)]) hx hb dX16_wayWords_101 hl (by decide) rfl (fun ls hl => ?_)
            refine lv_bipush (v := 7) hx hb dX16_wayWords_103 (by decide) ?_
            refine lv_istore (lv' := [(5, .int 7), (4, .int 6), (0, .ref mm), (3, .int r1_1)]) hx hb dX16_wayWords_105 hl (by decide) rfl (fun ls hl => ?_)
            exact b107 (6 : Int32) (7 : Int32) fs2_mm96_4 y_mm_7396_5 k_uwd96_6 H locs ls hs96_11 (rg_w hp96_8 (by decide)) hp96_9 (show x_mm_73.toInt ≤ y_mm_7396_5.toInt ∧ y_mm_7396_5.toInt ≤ x_mm_73.toInt + 4 by have q0 := FF.out ho72_1004; have q1 := FF.out hp87_10; have q2 := FF.out hp96_10; omega) (lv_sub hl [2, 3, 1, 0] rfl) hP hD hS
        refine lv_if_ne (tgt := 72) hx hb dX16_wayWords_60 (by decide) (fun c60_1 => ?_) (fun c60_1 => ?_)
        · have t60_2 := FF.mk (i_ne c60_1)
          have r60_3 : rg r57_1 1 1 := rg_neAl t60_2 hp57_4 (show rg (0 : Int32) 0 0 from rg_l (by decide)) (by decide)
          exact b72 fs_mm x_mm_73 g_uwd H locs ls (SB.rf _ _) (rg_w h_x_mm_73 (by decide)) hf_mm_73 (show x_mm_73.toInt ≤ x_mm_73.toInt ∧ x_mm_73.toInt ≤ x_mm_73.toInt + 2 by omega) (lv_sub hl [1, 3, 4, 0] rfl) hP hD hS
        · have t60_2 := FF.mk (i_eq c60_1)
          have r60_3 : rg r57_1 0 0 := rg_eqA t60_2 hp57_4 (show rg (0 : Int32) 0 0 from rg_l (by decide)) (by decide)
          refine lv_aload_n hx hb dX16_wayWords_63 rfl (lv_at hl 1 rfl) ?_
          refine lv_iconst (v := 5) hx hb dX16_wayWords_64 (by decide) ?_
          refine lv_lload_n hx hb dX16_wayWords_65 rfl (lv_at hl 2 rfl) ?_
          refine go_i (k1 := 0) (n1 := 0) (wr := [(mm, .inr (16, fs_mm)), (uwd, .inl (ct 1, 60000, .inl g_uwd))]) [] [0, 1] (rn_S (As := [.long v0]) (rest := [.int 5, .ref mm]) (c_X16_kOf l D ct v0  _) (cb_of (n := 1) hn mw_2346 mw_13 mw_2344 mhX16_kOf ⟨(Nat.le_of_ble_eq_true rfl), (Nat.le_of_ble_eq_true rfl)⟩) hx hb hml hown hn hK hSK hZ hS mw_2345 rfl hl.1 (Nat.le_of_ble_eq_true rfl) dX16_wayWords_66 ⟨(Nat.le_of_ble_eq_true rfl), (Nat.le_of_ble_eq_true rfl)⟩) hP hD hS hA rfl rfl (by decide) (by decide) (by decide) (Nat.le_of_ble_eq_true rfl) (Nat.le_of_ble_eq_true rfl) (fun r66_1 u66_2 H locs hp66_3 hP hD hS => ?_)
          have hP : va_P D vwCl [(mm, .inr (16, fs_mm)), (uwd, .inl (ct 1, 60000, .inl g_uwd))] _ := hP
          have hD : va_D A [(mm, .inr (16, fs_mm)), (uwd, .inl (ct 1, 60000, .inl g_uwd))] := hD
          refine go_v (k1 := 0) (n1 := 0) (wr := []) [0, 1] [] (rn_V (As := [.int 5, .int r66_1]) (rest := []) (c_X16_number__ l D ct mm (5 : Int32) r66_1 fs_mm uwd x_mm_73 g_uwd hlen_mm hf_mm_72 (rg_w h_x_mm_73 (by decide)) hf_mm_73 _) (cb_of (n := 2) hn mw_2575 mw_13 mw_2572 mhX16_number__ ⟨(Nat.le_of_ble_eq_true rfl), (Nat.le_of_ble_eq_true rfl)⟩) hx hb hml hown hn hK hSK hZ hS mw_2574 mw_s257 (ci := 16) (q0 := 0) rfl rfl rfl rfl hl.1 (Nat.le_of_ble_eq_true rfl) dX16_wayWords_69 ⟨(Nat.le_of_ble_eq_true rfl), (Nat.le_of_ble_eq_true rfl)⟩) hP hD hS hA rfl rfl (by decide) (by decide) (by decide) (Nat.le_of_ble_eq_true rfl) (Nat.le_of_ble_eq_true rfl) (fun u69_2 H locs hp69_3 hP hD hS => ?_)
          obtain ⟨fs2_mm69_4, y_mm_7369_5, k_uwd69_6⟩ := u69_2
          obtain ⟨hp69_7, hp69_8, hp69_9, hp69_10⟩ := hp69_3
          have hs69_11 : SB fs_mm fs2_mm69_4 [73] := SB.trans (SB.rf _ _) hp69_7 (by decide)
          have hp69_8 : rg y_mm_7369_5 1 60000 := hp69_8
          replace hp69_10 : FF (x_mm_73.toInt + 1 ≤ y_mm_7369_5.toInt ∧ y_mm_7369_5.toInt ≤ x_mm_73.toInt + 2) := hp69_10
          have hP : va_P D vwCl [(mm, .inr (16, fs2_mm69_4)), (uwd, .inl (ct 1, 60000, .inl k_uwd69_6))] _ := hP
          have hD : va_D A [(mm, .inr (16, fs2_mm69_4)), (uwd, .inl (ct 1, 60000, .inl k_uwd69_6))] := hD
          exact b72 fs2_mm69_4 y_mm_7369_5 k_uwd69_6 H locs ls hs69_11 (rg_w hp69_8 (by decide)) hp69_9 (show x_mm_73.toInt ≤ y_mm_7369_5.toInt ∧ y_mm_7369_5.toInt ≤ x_mm_73.toInt + 2 by have q0 := FF.out hp69_10; omega) (lv_sub hl [1, 3, 4, 0] rfl) hP hD hS
      refine lv_if_eq (tgt := 53) hx hb dX16_wayWords_40 (by decide) (fun c40_1 => ?_) (fun c40_1 => ?_)
      · have t40_2 := FF.mk (i_eq c40_1)
        have r40_3 : rg r37_1 0 0 := rg_eqA t40_2 hp37_4 (show rg (0 : Int32) 0 0 from rg_l (by decide)) (by decide)
        refine lv_iconst (v := 5) hx hb dX16_wayWords_53 (by decide) ?_
        exact b54 (5 : Int32) H locs ls  (lv_sub hl [2, 3, 1, 0] rfl) hP hD hS
      · have t40_2 := FF.mk (i_ne c40_1)
        have r40_3 : rg r37_1 1 1 := rg_neAl t40_2 hp37_4 (show rg (0 : Int32) 0 0 from rg_l (by decide)) (by decide)
        refine lv_lload_n hx hb dX16_wayWords_43 rfl (lv_at hl 3 rfl) ?_
        refine go_i (k1 := 0) (n1 := 0) (wr := [(mm, .inr (16, fs_mm)), (uwd, .inl (ct 1, 60000, .inl g_uwd))]) [] [0, 1] (rn_S (As := [.long v0]) (rest := []) (c_X16_sOf l D ct v0  _) (cb_of (n := 1) hn mw_2331 mw_13 mw_2329 mhX16_sOf ⟨(Nat.le_of_ble_eq_true rfl), (Nat.le_of_ble_eq_true rfl)⟩) hx hb hml hown hn hK hSK hZ hS mw_2330 rfl hl.1 (Nat.le_of_ble_eq_true rfl) dX16_wayWords_44 ⟨(Nat.le_of_ble_eq_true rfl), (Nat.le_of_ble_eq_true rfl)⟩) hP hD hS hA rfl rfl (by decide) (by decide) (by decide) (Nat.le_of_ble_eq_true rfl) (Nat.le_of_ble_eq_true rfl) (fun r44_1 u44_2 H locs hp44_3 hP hD hS => ?_)
        obtain ⟨hp44_4, hp44_5⟩ := hp44_3
        have hp44_4 : rg r44_1 0 15 := hp44_4
        replace hp44_5 : FF (r44_1.toInt = (v0.toInt / 4096) % 16) := hp44_5
        have hP : va_P D vwCl [(mm, .inr (16, fs_mm)), (uwd, .inl (ct 1, 60000, .inl g_uwd))] _ := hP
        have hD : va_D A [(mm, .inr (16, fs_mm)), (uwd, .inl (ct 1, 60000, .inl g_uwd))] := hD
        refine go_i (k1 := 0) (n1 := 0) (wr := [(mm, .inr (16, fs_mm)), (uwd, .inl (ct 1, 60000, .inl g_uwd))]) [] [0, 1] (rn_S (As := [.int r44_1]) (rest := []) (c_X16_registerOf l D ct r44_1  _) (cb_of (n := 1) hn mw_2571 mw_13 mw_2569 mhX16_registerOf ⟨(Nat.le_of_ble_eq_true rfl), (Nat.le_of_ble_eq_true rfl)⟩) hx hb hml hown hn hK hSK hZ hS mw_2570 rfl hl.1 (Nat.le_of_ble_eq_true rfl) dX16_wayWords_47 ⟨(Nat.le_of_ble_eq_true rfl), (Nat.le_of_ble_eq_true rfl)⟩) hP hD hS hA rfl rfl (by decide) (by decide) (by decide) (Nat.le_of_ble_eq_true rfl) (Nat.le_of_ble_eq_true rfl) (fun r47_1 u47_2 H locs hp47_3 hP hD hS => ?_)
        have hP : va_P D vwCl [(mm, .inr (16, fs_mm)), (uwd, .inl (ct 1, 60000, .inl g_uwd))] _ := hP
        have hD : va_D A [(mm, .inr (16, fs_mm)), (uwd, .inl (ct 1, 60000, .inl g_uwd))] := hD
        refine lv_goto (tgt := 54) hx hb dX16_wayWords_50 (by decide) ?_
        exact b54 r47_1 H locs ls  (lv_sub hl [2, 3, 1, 0] rfl) hP hD hS
  · have t9_2 := FF.mk (i_ne c9_1)
    have r9_3 : rg r6_1 1 1 := rg_neAl t9_2 hp6_4 (show rg (0 : Int32) 0 0 from rg_l (by decide)) (by decide)
    refine lv_aload_n hx hb dX16_wayWords_12 rfl (lv_at hl 1 rfl) ?_
    refine lv_ldc2 (v := 115) hx hb hown (hn.get mw_2626 rfl) dX16_wayWords_13 ?_
    refine go_v (k1 := 0) (n1 := 0) (wr := []) [0, 1] [] (rn_V (As := [.long 115]) (rest := []) (c_X16_emitWord l D ct mm (115 : Int64) fs_mm uwd x_mm_73 g_uwd hlen_mm hf_mm_72 (rg_w h_x_mm_73 (by decide)) hf_mm_73 _) (cb_of (n := 1) hn mw_2587 mw_13 mw_2584 mhX16_emitWord ⟨(Nat.le_of_ble_eq_true rfl), (Nat.le_of_ble_eq_true rfl)⟩) hx hb hml hown hn hK hSK hZ hS mw_2586 mw_s260 (ci := 16) (q0 := 0) rfl rfl rfl rfl hl.1 (Nat.le_of_ble_eq_true rfl) dX16_wayWords_16 ⟨(Nat.le_of_ble_eq_true rfl), (Nat.le_of_ble_eq_true rfl)⟩) hP hD hS hA rfl rfl (by decide) (by decide) (by decide) (Nat.le_of_ble_eq_true rfl) (Nat.le_of_ble_eq_true rfl) (fun u16_2 H locs hp16_3 hP hD hS => ?_)
    obtain ⟨fs2_mm16_4, y_mm_7316_5, k_uwd16_6⟩ := u16_2
    obtain ⟨hp16_7, hp16_8, hp16_9, hp16_10⟩ := hp16_3
    have hs16_11 : SB fs_mm fs2_mm16_4 [73] := SB.trans (SB.rf _ _) hp16_7 (by decide)
    have hp16_8 : rg y_mm_7316_5 1 60000 := hp16_8
    replace hp16_10 : FF (y_mm_7316_5.toInt = x_mm_73.toInt + 1) := hp16_10
    have hP : va_P D vwCl [(mm, .inr (16, fs2_mm16_4)), (uwd, .inl (ct 1, 60000, .inl k_uwd16_6))] _ := hP
    have hD : va_D A [(mm, .inr (16, fs2_mm16_4)), (uwd, .inl (ct 1, 60000, .inl k_uwd16_6))] := hD
    exact endq_v hQ hx hb hr hlocks dX16_wayWords_19 (fs2_mm16_4, y_mm_7316_5, k_uwd16_6) ⟨hs16_11, hp16_8, hp16_9, (show x_mm_73.toInt + 1 ≤ y_mm_7316_5.toInt ∧ y_mm_7316_5.toInt ≤ x_mm_73.toInt + 7 by have q0 := FF.out hp16_10; omega)⟩ hP hD hS [0, 1] rfl (by decide) rfl (Nat.le_of_ble_eq_true rfl) (Nat.le_of_ble_eq_true rfl)
set_option maxHeartbeats 2000000 in
theorem c_X16_memoryWords (l : Launch) (D : va_G) (ct : Nat → ClassId) (mm : Nat) (v0 : Int64) (fs_mm : List Value) (uwd : Nat) (x_mm_73 : Int32) (g_uwd : Nat → Int32) (hlen_mm : fs_mm.length = 78) (hf_mm_72 : fs_mm[72]? = some (.ref uwd)) (h_x_mm_73 : rg x_mm_73 0 59994) (hf_mm_73 : fs_mm[73]? = some (.int x_mm_73)) : KV (S := List Value × Int32 × (Nat → Int32)) l yX16_memoryWords cX16_memoryWords 8 none 5 112 D ct [.ref mm, .long v0] [(mm, .inr (16, fs_mm)), (uwd, .inl (ct 1, 60000, .inl g_uwd))] 0 0 (fun (u : List Value × Int32 × (Nat → Int32)) => match u with | (fs2_mm, y_mm_73, k_uwd) => SB fs_mm fs2_mm [73] ∧ rg y_mm_73 1 60000 ∧ fs2_mm[73]? = some (.int y_mm_73) ∧ (x_mm_73.toInt + 1 ≤ y_mm_73.toInt ∧ y_mm_73.toInt ≤ x_mm_73.toInt + 6)) (fun (u : List Value × Int32 × (Nat → Int32)) => match u with | (fs2_mm, y_mm_73, k_uwd) => [(mm, .inr (16, fs2_mm)), (uwd, .inl (ct 1, 60000, .inl k_uwd))]) := by
  refine KVq_of (by decide) (Nat.le_of_ble_eq_true rfl) (fun p e s m below meth c A Q C0 hA H locs hS hP hD hQ ls hl => ?_)
  obtain ⟨hx, hb, hr, hown, hin, hml, hlocks, hn, hK, hZ, hSK⟩ := C0
  have hl : lv_has ls 8 [(0, .ref mm), (1, .long v0)] := hl
  refine lv_lload_n hx hb dX16_memoryWords_0 rfl (lv_at hl 1 rfl) ?_
  refine go_i (k1 := 0) (n1 := 0) (wr := [(mm, .inr (16, fs_mm)), (uwd, .inl (ct 1, 60000, .inl g_uwd))]) [] [0, 1] (rn_S (As := [.long v0]) (rest := []) (c_X16_codeOf l D ct v0  _) (cb_of (n := 1) hn mw_2322 mw_13 mw_2320 mhX16_codeOf ⟨(Nat.le_of_ble_eq_true rfl), (Nat.le_of_ble_eq_true rfl)⟩) hx hb hml hown hn hK hSK hZ hS mw_2321 rfl hl.1 (Nat.le_of_ble_eq_true rfl) dX16_memoryWords_1 ⟨(Nat.le_of_ble_eq_true rfl), (Nat.le_of_ble_eq_true rfl)⟩) hP hD hS hA rfl rfl (by decide) (by decide) (by decide) (Nat.le_of_ble_eq_true rfl) (Nat.le_of_ble_eq_true rfl) (fun r1_1 u1_2 H locs hp1_3 hP hD hS => ?_)
  obtain ⟨hp1_4, hp1_5⟩ := hp1_3
  have hp1_4 : rg r1_1 0 255 := hp1_4
  replace hp1_5 : FF (r1_1.toInt = v0.toInt % 256) := hp1_5
  have hP : va_P D vwCl [(mm, .inr (16, fs_mm)), (uwd, .inl (ct 1, 60000, .inl g_uwd))] _ := hP
  have hD : va_D A [(mm, .inr (16, fs_mm)), (uwd, .inl (ct 1, 60000, .inl g_uwd))] := hD
  refine lv_istore_n (lv' := [(3, .int r1_1), (0, .ref mm), (1, .long v0)]) hx hb dX16_memoryWords_4 rfl hl (by decide) rfl (fun ls hl => ?_)
  refine lv_iload_n hx hb dX16_memoryWords_5 rfl (lv_at hl 0 rfl) ?_
  refine go_i (k1 := 0) (n1 := 0) (wr := [(mm, .inr (16, fs_mm)), (uwd, .inl (ct 1, 60000, .inl g_uwd))]) [] [0, 1] (rn_S (As := [.int r1_1]) (rest := []) (c_X16_sortOf l D ct r1_1 hp1_4 _) (cb_of (n := 1) hn mw_2325 mw_13 mw_2323 mhX16_sortOf ⟨(Nat.le_of_ble_eq_true rfl), (Nat.le_of_ble_eq_true rfl)⟩) hx hb hml hown hn hK hSK hZ hS mw_2324 rfl hl.1 (Nat.le_of_ble_eq_true rfl) dX16_memoryWords_6 ⟨(Nat.le_of_ble_eq_true rfl), (Nat.le_of_ble_eq_true rfl)⟩) hP hD hS hA rfl rfl (by decide) (by decide) (by decide) (Nat.le_of_ble_eq_true rfl) (Nat.le_of_ble_eq_true rfl) (fun r6_1 u6_2 H locs hp6_3 hP hD hS => ?_)
  obtain ⟨hp6_4, hp6_5, hp6_6, hp6_7⟩ := hp6_3
  have hp6_4 : rg r6_1 (-1) 6 := hp6_4
  replace hp6_5 : FF (r6_1.toInt = srt r1_1.toInt) := hp6_5
  replace hp6_6 : FF (r6_1.toInt = 5 ∨ r6_1.toInt = 6 → (r1_1.toInt = 32 ∨ r1_1.toInt = 40 ∨ r1_1.toInt = 48 ∨ r1_1.toInt = 64 ∨ r1_1.toInt = 72 ∨ r1_1.toInt = 80)) := hp6_6
  replace hp6_7 : FF (r1_1.toInt = 149 → r6_1.toInt = 1) := hp6_7
  have hP : va_P D vwCl [(mm, .inr (16, fs_mm)), (uwd, .inl (ct 1, 60000, .inl g_uwd))] _ := hP
  have hD : va_D A [(mm, .inr (16, fs_mm)), (uwd, .inl (ct 1, 60000, .inl g_uwd))] := hD
  refine lv_istore (lv' := [(4, .int r6_1), (3, .int r1_1), (0, .ref mm), (1, .long v0)]) hx hb dX16_memoryWords_9 hl (by decide) rfl (fun ls hl => ?_)
  refine lv_iload_n hx hb dX16_memoryWords_11 rfl (lv_at hl 1 rfl) ?_
  refine go_i (k1 := 0) (n1 := 0) (wr := [(mm, .inr (16, fs_mm)), (uwd, .inl (ct 1, 60000, .inl g_uwd))]) [] [0, 1] (rn_S (As := [.int r1_1]) (rest := []) (c_X16_sizeOf l D ct r1_1  _) (cb_of (n := 1) hn mw_2381 mw_13 mw_2379 mhX16_sizeOf ⟨(Nat.le_of_ble_eq_true rfl), (Nat.le_of_ble_eq_true rfl)⟩) hx hb hml hown hn hK hSK hZ hS mw_2380 rfl hl.1 (Nat.le_of_ble_eq_true rfl) dX16_memoryWords_12 ⟨(Nat.le_of_ble_eq_true rfl), (Nat.le_of_ble_eq_true rfl)⟩) hP hD hS hA rfl rfl (by decide) (by decide) (by decide) (Nat.le_of_ble_eq_true rfl) (Nat.le_of_ble_eq_true rfl) (fun r12_1 u12_2 H locs hp12_3 hP hD hS => ?_)
  obtain ⟨hp12_4, hp12_5, hp12_6, hp12_7, hp12_8⟩ := hp12_3
  have hp12_4 : rg r12_1 1 8 := hp12_4
  replace hp12_5 : FF ((r1_1.toInt / 8) % 4 = 0 → r12_1.toInt = 4) := hp12_5
  replace hp12_6 : FF ((r1_1.toInt / 8) % 4 = 1 → r12_1.toInt = 2) := hp12_6
  replace hp12_7 : FF ((r1_1.toInt / 8) % 4 = 2 → r12_1.toInt = 1) := hp12_7
  replace hp12_8 : FF ((r1_1.toInt / 8) % 4 = 3 → r12_1.toInt = 8) := hp12_8
  have hP : va_P D vwCl [(mm, .inr (16, fs_mm)), (uwd, .inl (ct 1, 60000, .inl g_uwd))] _ := hP
  have hD : va_D A [(mm, .inr (16, fs_mm)), (uwd, .inl (ct 1, 60000, .inl g_uwd))] := hD
  refine lv_istore (lv' := [(5, .int r12_1), (4, .int r6_1), (3, .int r1_1), (0, .ref mm), (1, .long v0)]) hx hb dX16_memoryWords_15 hl (by decide) rfl (fun ls hl => ?_)
  refine lv_iload hx hb dX16_memoryWords_17 (lv_at hl 1 rfl) ?_
  refine lv_iconst (v := 2) hx hb dX16_memoryWords_19 (by decide) ?_
  have b34 : ∀ (j34_s0 : Int32) (H : Heap) (locs : List Loc) (ls : Array Slot), (rg j34_s0 0 15) → lv_has ls 8 [(0, .ref mm), (1, .long v0), (4, .int r6_1), (5, .int r12_1)] → va_P D vwCl [(mm, .inr (16, fs_mm)), (uwd, .inl (ct 1, 60000, .inl g_uwd))] H → va_D A [(mm, .inr (16, fs_mm)), (uwd, .inl (ct 1, 60000, .inl g_uwd))] → va_S A s.heap H locs → W p l e ({ frames := 5, cells := 0, slots := 0, locals := 112 }) s m [.ref mm, .long v0].toArray below meth c H locs 0 0 Q (F0 m 34 ls [.int j34_s0]) := by
    intro j34_s0 H locs ls r34_1001 hl hP hD hS
    refine go_i (k1 := 0) (n1 := 0) (wr := [(mm, .inr (16, fs_mm)), (uwd, .inl (ct 1, 60000, .inl g_uwd))]) [] [0, 1] (rn_S (As := [.int j34_s0]) (rest := []) (c_X16_registerOf l D ct j34_s0  _) (cb_of (n := 1) hn mw_2571 mw_13 mw_2569 mhX16_registerOf ⟨(Nat.le_of_ble_eq_true rfl), (Nat.le_of_ble_eq_true rfl)⟩) hx hb hml hown hn hK hSK hZ hS mw_2570 rfl hl.1 (Nat.le_of_ble_eq_true rfl) dX16_memoryWords_34 ⟨(Nat.le_of_ble_eq_true rfl), (Nat.le_of_ble_eq_true rfl)⟩) hP hD hS hA rfl rfl (by decide) (by decide) (by decide) (Nat.le_of_ble_eq_true rfl) (Nat.le_of_ble_eq_true rfl) (fun r34_1 u34_2 H locs hp34_3 hP hD hS => ?_)
    have hP : va_P D vwCl [(mm, .inr (16, fs_mm)), (uwd, .inl (ct 1, 60000, .inl g_uwd))] _ := hP
    have hD : va_D A [(mm, .inr (16, fs_mm)), (uwd, .inl (ct 1, 60000, .inl g_uwd))] := hD
    refine lv_istore (lv' := [(6, .int r34_1), (0, .ref mm), (1, .long v0), (4, .int r6_1), (5, .int r12_1)]) hx hb dX16_memoryWords_37 hl (by decide) rfl (fun ls hl => ?_)
    refine lv_aload_n hx hb dX16_memoryWords_39 rfl (lv_at hl 1 rfl) ?_
    refine lv_iconst (v := 5) hx hb dX16_memoryWords_40 (by decide) ?_
    refine lv_lload_n hx hb dX16_memoryWords_41 rfl (lv_at hl 2 rfl) ?_
    refine go_i (k1 := 0) (n1 := 0) (wr := [(mm, .inr (16, fs_mm)), (uwd, .inl (ct 1, 60000, .inl g_uwd))]) [] [0, 1] (rn_S (As := [.long v0]) (rest := [.int 5, .ref mm]) (c_X16_offOf l D ct v0  _) (cb_of (n := 1) hn mw_2343 mw_13 mw_2341 mhX16_offOf ⟨(Nat.le_of_ble_eq_true rfl), (Nat.le_of_ble_eq_true rfl)⟩) hx hb hml hown hn hK hSK hZ hS mw_2342 rfl hl.1 (Nat.le_of_ble_eq_true rfl) dX16_memoryWords_42 ⟨(Nat.le_of_ble_eq_true rfl), (Nat.le_of_ble_eq_true rfl)⟩) hP hD hS hA rfl rfl (by decide) (by decide) (by decide) (Nat.le_of_ble_eq_true rfl) (Nat.le_of_ble_eq_true rfl) (fun r42_1 u42_2 H locs hp42_3 hP hD hS => ?_)
    obtain ⟨hp42_4, hp42_5⟩ := hp42_3
    have hp42_4 : rg r42_1 (-32768) 32767 := hp42_4
    replace hp42_5 : FF (r42_1.toInt = (v0.toInt / 65536 + 32768) % 65536 - 32768) := hp42_5
    have hP : va_P D vwCl [(mm, .inr (16, fs_mm)), (uwd, .inl (ct 1, 60000, .inl g_uwd))] _ := hP
    have hD : va_D A [(mm, .inr (16, fs_mm)), (uwd, .inl (ct 1, 60000, .inl g_uwd))] := hD
    refine go_v (k1 := 0) (n1 := 0) (wr := []) [0, 1] [] (rn_V (As := [.int 5, .int r42_1]) (rest := []) (c_X16_number__ l D ct mm (5 : Int32) r42_1 fs_mm uwd x_mm_73 g_uwd hlen_mm hf_mm_72 (rg_w h_x_mm_73 (by decide)) hf_mm_73 _) (cb_of (n := 2) hn mw_2575 mw_13 mw_2572 mhX16_number__ ⟨(Nat.le_of_ble_eq_true rfl), (Nat.le_of_ble_eq_true rfl)⟩) hx hb hml hown hn hK hSK hZ hS mw_2574 mw_s257 (ci := 16) (q0 := 0) rfl rfl rfl rfl hl.1 (Nat.le_of_ble_eq_true rfl) dX16_memoryWords_45 ⟨(Nat.le_of_ble_eq_true rfl), (Nat.le_of_ble_eq_true rfl)⟩) hP hD hS hA rfl rfl (by decide) (by decide) (by decide) (Nat.le_of_ble_eq_true rfl) (Nat.le_of_ble_eq_true rfl) (fun u45_2 H locs hp45_3 hP hD hS => ?_)
    obtain ⟨fs2_mm45_4, y_mm_7345_5, k_uwd45_6⟩ := u45_2
    obtain ⟨hp45_7, hp45_8, hp45_9, hp45_10⟩ := hp45_3
    have hs45_11 : SB fs_mm fs2_mm45_4 [73] := SB.trans (SB.rf _ _) hp45_7 (by decide)
    have hp45_8 : rg y_mm_7345_5 1 60000 := hp45_8
    replace hp45_10 : FF (x_mm_73.toInt + 1 ≤ y_mm_7345_5.toInt ∧ y_mm_7345_5.toInt ≤ x_mm_73.toInt + 2) := hp45_10
    have hP : va_P D vwCl [(mm, .inr (16, fs2_mm45_4)), (uwd, .inl (ct 1, 60000, .inl k_uwd45_6))] _ := hP
    have hD : va_D A [(mm, .inr (16, fs2_mm45_4)), (uwd, .inl (ct 1, 60000, .inl k_uwd45_6))] := hD
    refine lv_aload_n hx hb dX16_memoryWords_48 rfl (lv_at hl 1 rfl) ?_
    refine lv_iconst (v := 5) hx hb dX16_memoryWords_49 (by decide) ?_
    refine lv_iconst (v := 5) hx hb dX16_memoryWords_50 (by decide) ?_
    refine lv_iload hx hb dX16_memoryWords_51 (lv_at hl 0 rfl) ?_
    refine go_v (k1 := 0) (n1 := 0) (wr := []) [0, 1] [] (rn_V (As := [.int 5, .int 5, .int r34_1]) (rest := []) (c_X16_add l D ct mm (5 : Int32) (5 : Int32) r34_1 fs2_mm45_4 uwd y_mm_7345_5 k_uwd45_6 (hs45_11.1.trans hlen_mm) (SB.get hs45_11 (by decide) hf_mm_72) (rg_of (show 0 ≤ y_mm_7345_5.toInt ∧ y_mm_7345_5.toInt ≤ 59999 by have q0 := hp45_8.1; have q1 := h_x_mm_73.2; have q2 := FF.out hp45_10; omega)) hp45_9 _) (cb_of (n := 3) hn mw_2639 mw_13 mw_2636 mhX16_add ⟨(Nat.le_of_ble_eq_true rfl), (Nat.le_of_ble_eq_true rfl)⟩) hx hb hml hown hn hK hSK hZ hS mw_2638 mw_s271 (ci := 16) (q0 := 0) rfl rfl rfl rfl hl.1 (Nat.le_of_ble_eq_true rfl) dX16_memoryWords_53 ⟨(Nat.le_of_ble_eq_true rfl), (Nat.le_of_ble_eq_true rfl)⟩) hP hD hS hA rfl rfl (by decide) (by decide) (by decide) (Nat.le_of_ble_eq_true rfl) (Nat.le_of_ble_eq_true rfl) (fun u53_2 H locs hp53_3 hP hD hS => ?_)
    obtain ⟨fs2_mm53_4, y_mm_7353_5, k_uwd53_6⟩ := u53_2
    obtain ⟨hp53_7, hp53_8, hp53_9, hp53_10⟩ := hp53_3
    have hs53_11 : SB fs_mm fs2_mm53_4 [73] := SB.trans hs45_11 hp53_7 (by decide)
    have hp53_8 : rg y_mm_7353_5 1 60000 := hp53_8
    replace hp53_10 : FF (y_mm_7353_5.toInt = y_mm_7345_5.toInt + 1) := hp53_10
    have hP : va_P D vwCl [(mm, .inr (16, fs2_mm53_4)), (uwd, .inl (ct 1, 60000, .inl k_uwd53_6))] _ := hP
    have hD : va_D A [(mm, .inr (16, fs2_mm53_4)), (uwd, .inl (ct 1, 60000, .inl k_uwd53_6))] := hD
    refine lv_iload hx hb dX16_memoryWords_56 (lv_at hl 3 rfl) ?_
    refine lv_iconst (v := 2) hx hb dX16_memoryWords_58 (by decide) ?_
    refine lv_icmp_ne (tgt := 109) hx hb dX16_memoryWords_59 (by decide) (fun c59_1 => ?_) (fun c59_1 => ?_)
    · have t59_2 := FF.mk (i_ne c59_1)
      refine lv_iload hx hb dX16_memoryWords_109 (lv_at hl 3 rfl) ?_
      refine lv_iconst (v := 3) hx hb dX16_memoryWords_111 (by decide) ?_
      have b127 : ∀ (j127_s0 : Int32) (H : Heap) (locs : List Loc) (ls : Array Slot), lv_has ls 8 [(0, .ref mm), (1, .long v0), (4, .int r6_1), (5, .int r12_1)] → va_P D vwCl [(mm, .inr (16, fs2_mm53_4)), (uwd, .inl (ct 1, 60000, .inl k_uwd53_6))] H → va_D A [(mm, .inr (16, fs2_mm53_4)), (uwd, .inl (ct 1, 60000, .inl k_uwd53_6))] → va_S A s.heap H locs → W p l e ({ frames := 5, cells := 0, slots := 0, locals := 112 }) s m [.ref mm, .long v0].toArray below meth c H locs 0 0 Q (F0 m 127 ls [.int j127_s0]) := by
        intro j127_s0 H locs ls  hl hP hD hS
        refine lv_istore (lv' := [(7, .int j127_s0), (0, .ref mm), (1, .long v0), (4, .int r6_1), (5, .int r12_1)]) hx hb dX16_memoryWords_127 hl (by decide) rfl (fun ls hl => ?_)
        refine lv_iload hx hb dX16_memoryWords_129 (lv_at hl 3 rfl) ?_
        refine lv_iconst (v := 4) hx hb dX16_memoryWords_131 (by decide) ?_
        have b145 : ∀ (j145_amm : List Value) (j145_fmm_73 : Int32) (j145_cuwd : Nat → Int32) (H : Heap) (locs : List Loc) (ls : Array Slot), (SB fs_mm j145_amm [73]) → (rg j145_fmm_73 1 60000) → (j145_amm[73]? = some (.int j145_fmm_73)) → (FF (x_mm_73.toInt + 2 ≤ j145_fmm_73.toInt ∧ j145_fmm_73.toInt ≤ x_mm_73.toInt + 5)) → lv_has ls 8 [(0, .ref mm), (5, .int r12_1), (7, .int j127_s0)] → va_P D vwCl [(mm, .inr (16, j145_amm)), (uwd, .inl (ct 1, 60000, .inl j145_cuwd))] H → va_D A [(mm, .inr (16, j145_amm)), (uwd, .inl (ct 1, 60000, .inl j145_cuwd))] → va_S A s.heap H locs → W p l e ({ frames := 5, cells := 0, slots := 0, locals := 112 }) s m [.ref mm, .long v0].toArray below meth c H locs 0 0 Q (F0 m 145 ls []) := by
          intro j145_amm j145_fmm_73 j145_cuwd H locs ls hs145_1001 r145_1002 hf145_1003 ho145_1004 hl hP hD hS
          refine lv_aload_n hx hb dX16_memoryWords_145 rfl (lv_at hl 0 rfl) ?_
          refine lv_iload hx hb dX16_memoryWords_146 (lv_at hl 1 rfl) ?_
          refine lv_iconst (v := 4) hx hb dX16_memoryWords_148 (by decide) ?_
          have b177 : ∀ (j177_s0 : Int32) (H : Heap) (locs : List Loc) (ls : Array Slot), (rg j177_s0 0 3) → lv_has ls 8 [(7, .int j127_s0)] → va_P D vwCl [(mm, .inr (16, j145_amm)), (uwd, .inl (ct 1, 60000, .inl j145_cuwd))] H → va_D A [(mm, .inr (16, j145_amm)), (uwd, .inl (ct 1, 60000, .inl j145_cuwd))] → va_S A s.heap H locs → W p l e ({ frames := 5, cells := 0, slots := 0, locals := 112 }) s m [.ref mm, .long v0].toArray below meth c H locs 0 0 Q (F0 m 177 ls [.int j177_s0, .ref mm]) := by
            intro j177_s0 H locs ls r177_1001 hl hP hD hS
            refine lv_iconst (v := 5) hx hb dX16_memoryWords_177 (by decide) ?_
            refine lv_iload hx hb dX16_memoryWords_178 (lv_at hl 0 rfl) ?_
            refine lv_iconst (v := 0) hx hb dX16_memoryWords_180 (by decide) ?_
            refine go_v (k1 := 0) (n1 := 0) (wr := []) [0, 1] [] (rn_V (As := [.int j177_s0, .int 5, .int j127_s0, .int 0]) (rest := []) (c_X16_storeWord l D ct mm j177_s0 (5 : Int32) j127_s0 (0 : Int32) j145_amm uwd j145_fmm_73 j145_cuwd (hs145_1001.1.trans hlen_mm) (SB.get hs145_1001 (by decide) hf_mm_72) (rg_of (show 0 ≤ j145_fmm_73.toInt ∧ j145_fmm_73.toInt ≤ 59999 by have q0 := h_x_mm_73.1; have q1 := h_x_mm_73.2; have q2 := FF.out ho145_1004; omega)) hf145_1003 _) (cb_of (n := 4) hn mw_2643 mw_13 mw_2640 mhX16_storeWord ⟨(Nat.le_of_ble_eq_true rfl), (Nat.le_of_ble_eq_true rfl)⟩) hx hb hml hown hn hK hSK hZ hS mw_2642 mw_s272 (ci := 16) (q0 := 0) rfl rfl rfl rfl hl.1 (Nat.le_of_ble_eq_true rfl) dX16_memoryWords_181 ⟨(Nat.le_of_ble_eq_true rfl), (Nat.le_of_ble_eq_true rfl)⟩) hP hD hS hA rfl rfl (by decide) (by decide) (by decide) (Nat.le_of_ble_eq_true rfl) (Nat.le_of_ble_eq_true rfl) (fun u181_2 H locs hp181_3 hP hD hS => ?_)
            obtain ⟨fs2_mm181_4, y_mm_73181_5, k_uwd181_6⟩ := u181_2
            obtain ⟨hp181_7, hp181_8, hp181_9, hp181_10⟩ := hp181_3
            have hs181_11 : SB fs_mm fs2_mm181_4 [73] := SB.trans hs145_1001 hp181_7 (by decide)
            have hp181_8 : rg y_mm_73181_5 1 60000 := hp181_8
            replace hp181_10 : FF (y_mm_73181_5.toInt = j145_fmm_73.toInt + 1) := hp181_10
            have hP : va_P D vwCl [(mm, .inr (16, fs2_mm181_4)), (uwd, .inl (ct 1, 60000, .inl k_uwd181_6))] _ := hP
            have hD : va_D A [(mm, .inr (16, fs2_mm181_4)), (uwd, .inl (ct 1, 60000, .inl k_uwd181_6))] := hD
            exact endq_v hQ hx hb hr hlocks dX16_memoryWords_184 (fs2_mm181_4, y_mm_73181_5, k_uwd181_6) ⟨hs181_11, hp181_8, hp181_9, (show x_mm_73.toInt + 1 ≤ y_mm_73181_5.toInt ∧ y_mm_73181_5.toInt ≤ x_mm_73.toInt + 6 by have q0 := FF.out ho145_1004; have q1 := FF.out hp181_10; omega)⟩ hP hD hS [0, 1] rfl (by decide) rfl (Nat.le_of_ble_eq_true rfl) (Nat.le_of_ble_eq_true rfl)
          refine lv_icmp_ne (tgt := 156) hx hb dX16_memoryWords_149 (by decide) (fun c149_1 => ?_) (fun c149_1 => ?_)
          · have t149_2 := FF.mk (i_ne c149_1)
            refine lv_iload hx hb dX16_memoryWords_156 (lv_at hl 1 rfl) ?_
            refine lv_iconst (v := 2) hx hb dX16_memoryWords_158 (by decide) ?_
            refine lv_icmp_ne (tgt := 166) hx hb dX16_memoryWords_159 (by decide) (fun c159_1 => ?_) (fun c159_1 => ?_)
            · have t159_2 := FF.mk (i_ne c159_1)
              refine lv_iload hx hb dX16_memoryWords_166 (lv_at hl 1 rfl) ?_
              refine lv_iconst (v := 1) hx hb dX16_memoryWords_168 (by decide) ?_
              refine lv_icmp_ne (tgt := 176) hx hb dX16_memoryWords_169 (by decide) (fun c169_1 => ?_) (fun c169_1 => ?_)
              · have t169_2 := FF.mk (i_ne c169_1)
                have r169_3 : rg r12_1 2 8 := rg_neAl t169_2 hp12_4 (show rg (1 : Int32) 1 1 from rg_l (by decide)) (by decide)
                refine lv_iconst (v := 3) hx hb dX16_memoryWords_176 (by decide) ?_
                exact b177 (3 : Int32) H locs ls (rg_w (show rg (3 : Int32) 3 3 from rg_l (by decide)) (by decide)) (lv_sub hl [2] rfl) hP hD hS
              · have t169_2 := FF.mk (i_eq c169_1)
                have r169_3 : rg r12_1 1 1 := rg_eqA t169_2 hp12_4 (show rg (1 : Int32) 1 1 from rg_l (by decide)) (by decide)
                refine lv_iconst (v := 0) hx hb dX16_memoryWords_172 (by decide) ?_
                refine lv_goto (tgt := 177) hx hb dX16_memoryWords_173 (by decide) ?_
                exact b177 (0 : Int32) H locs ls (rg_w (show rg (0 : Int32) 0 0 from rg_l (by decide)) (by decide)) (lv_sub hl [2] rfl) hP hD hS
            · have t159_2 := FF.mk (i_eq c159_1)
              have r159_3 : rg r12_1 2 2 := rg_eqA t159_2 hp12_4 (show rg (2 : Int32) 2 2 from rg_l (by decide)) (by decide)
              refine lv_iconst (v := 1) hx hb dX16_memoryWords_162 (by decide) ?_
              refine lv_goto (tgt := 177) hx hb dX16_memoryWords_163 (by decide) ?_
              exact b177 (1 : Int32) H locs ls (rg_w (show rg (1 : Int32) 1 1 from rg_l (by decide)) (by decide)) (lv_sub hl [2] rfl) hP hD hS
          · have t149_2 := FF.mk (i_eq c149_1)
            have r149_3 : rg r12_1 4 4 := rg_eqA t149_2 hp12_4 (show rg (4 : Int32) 4 4 from rg_l (by decide)) (by decide)
            refine lv_iconst (v := 2) hx hb dX16_memoryWords_152 (by decide) ?_
            refine lv_goto (tgt := 177) hx hb dX16_memoryWords_153 (by decide) ?_
            exact b177 (2 : Int32) H locs ls (rg_w (show rg (2 : Int32) 2 2 from rg_l (by decide)) (by decide)) (lv_sub hl [2] rfl) hP hD hS
        refine lv_icmp_ne (tgt := 145) hx hb dX16_memoryWords_132 (by decide) (fun c132_1 => ?_) (fun c132_1 => ?_)
        · have t132_2 := FF.mk (i_ne c132_1)
          exact b145 fs2_mm53_4 y_mm_7353_5 k_uwd53_6 H locs ls hs53_11 hp53_8 hp53_9 (show x_mm_73.toInt + 2 ≤ y_mm_7353_5.toInt ∧ y_mm_7353_5.toInt ≤ x_mm_73.toInt + 5 by have q0 := FF.out hp45_10; have q1 := FF.out hp53_10; omega) (lv_sub hl [1, 4, 0] rfl) hP hD hS
        · have t132_2 := FF.mk (i_eq c132_1)
          have r132_3 : rg r6_1 4 4 := rg_eqA t132_2 hp6_4 (show rg (4 : Int32) 4 4 from rg_l (by decide)) (by decide)
          refine lv_aload_n hx hb dX16_memoryWords_135 rfl (lv_at hl 1 rfl) ?_
          refine lv_bipush (v := 6) hx hb dX16_memoryWords_136 (by decide) ?_
          refine lv_lload_n hx hb dX16_memoryWords_138 rfl (lv_at hl 2 rfl) ?_
          refine go_i (k1 := 0) (n1 := 0) (wr := [(mm, .inr (16, fs2_mm53_4)), (uwd, .inl (ct 1, 60000, .inl k_uwd53_6))]) [] [0, 1] (rn_S (As := [.long v0]) (rest := [.int 6, .ref mm]) (c_X16_kOf l D ct v0  _) (cb_of (n := 1) hn mw_2346 mw_13 mw_2344 mhX16_kOf ⟨(Nat.le_of_ble_eq_true rfl), (Nat.le_of_ble_eq_true rfl)⟩) hx hb hml hown hn hK hSK hZ hS mw_2345 rfl hl.1 (Nat.le_of_ble_eq_true rfl) dX16_memoryWords_139 ⟨(Nat.le_of_ble_eq_true rfl), (Nat.le_of_ble_eq_true rfl)⟩) hP hD hS hA rfl rfl (by decide) (by decide) (by decide) (Nat.le_of_ble_eq_true rfl) (Nat.le_of_ble_eq_true rfl) (fun r139_1 u139_2 H locs hp139_3 hP hD hS => ?_)
          have hP : va_P D vwCl [(mm, .inr (16, fs2_mm53_4)), (uwd, .inl (ct 1, 60000, .inl k_uwd53_6))] _ := hP
          have hD : va_D A [(mm, .inr (16, fs2_mm53_4)), (uwd, .inl (ct 1, 60000, .inl k_uwd53_6))] := hD
          refine go_v (k1 := 0) (n1 := 0) (wr := []) [0, 1] [] (rn_V (As := [.int 6, .int r139_1]) (rest := []) (c_X16_number__ l D ct mm (6 : Int32) r139_1 fs2_mm53_4 uwd y_mm_7353_5 k_uwd53_6 (hs53_11.1.trans hlen_mm) (SB.get hs53_11 (by decide) hf_mm_72) (rg_of (show 0 ≤ y_mm_7353_5.toInt ∧ y_mm_7353_5.toInt ≤ 59998 by have q0 := hp45_8.1; have q1 := h_x_mm_73.2; have q2 := FF.out hp45_10; have q3 := FF.out hp53_10; omega)) hp53_9 _) (cb_of (n := 2) hn mw_2575 mw_13 mw_2572 mhX16_number__ ⟨(Nat.le_of_ble_eq_true rfl), (Nat.le_of_ble_eq_true rfl)⟩) hx hb hml hown hn hK hSK hZ hS mw_2574 mw_s257 (ci := 16) (q0 := 0) rfl rfl rfl rfl hl.1 (Nat.le_of_ble_eq_true rfl) dX16_memoryWords_142 ⟨(Nat.le_of_ble_eq_true rfl), (Nat.le_of_ble_eq_true rfl)⟩) hP hD hS hA rfl rfl (by decide) (by decide) (by decide) (Nat.le_of_ble_eq_true rfl) (Nat.le_of_ble_eq_true rfl) (fun u142_2 H locs hp142_3 hP hD hS => ?_)
          obtain ⟨fs2_mm142_4, y_mm_73142_5, k_uwd142_6⟩ := u142_2
          obtain ⟨hp142_7, hp142_8, hp142_9, hp142_10⟩ := hp142_3
          have hs142_11 : SB fs_mm fs2_mm142_4 [73] := SB.trans hs53_11 hp142_7 (by decide)
          have hp142_8 : rg y_mm_73142_5 1 60000 := hp142_8
          replace hp142_10 : FF (y_mm_7353_5.toInt + 1 ≤ y_mm_73142_5.toInt ∧ y_mm_73142_5.toInt ≤ y_mm_7353_5.toInt + 2) := hp142_10
          have hP : va_P D vwCl [(mm, .inr (16, fs2_mm142_4)), (uwd, .inl (ct 1, 60000, .inl k_uwd142_6))] _ := hP
          have hD : va_D A [(mm, .inr (16, fs2_mm142_4)), (uwd, .inl (ct 1, 60000, .inl k_uwd142_6))] := hD
          exact b145 fs2_mm142_4 y_mm_73142_5 k_uwd142_6 H locs ls hs142_11 hp142_8 hp142_9 (show x_mm_73.toInt + 2 ≤ y_mm_73142_5.toInt ∧ y_mm_73142_5.toInt ≤ x_mm_73.toInt + 5 by have q0 := FF.out hp45_10; have q1 := FF.out hp53_10; have q2 := FF.out hp142_10; omega) (lv_sub hl [1, 4, 0] rfl) hP hD hS
      refine lv_icmp_ne (tgt := 125) hx hb dX16_memoryWords_112 (by decide) (fun c112_1 => ?_) (fun c112_1 => ?_)
      · have t112_2 := FF.mk (i_ne c112_1)
        refine lv_bipush (v := 6) hx hb dX16_memoryWords_125 (by decide) ?_
        exact b127 (6 : Int32) H locs ls  (lv_sub hl [1, 2, 3, 4] rfl) hP hD hS
      · have t112_2 := FF.mk (i_eq c112_1)
        have r112_3 : rg r6_1 3 3 := rg_eqA t112_2 hp6_4 (show rg (3 : Int32) 3 3 from rg_l (by decide)) (by decide)
        refine lv_lload_n hx hb dX16_memoryWords_115 rfl (lv_at hl 2 rfl) ?_
        refine go_i (k1 := 0) (n1 := 0) (wr := [(mm, .inr (16, fs2_mm53_4)), (uwd, .inl (ct 1, 60000, .inl k_uwd53_6))]) [] [0, 1] (rn_S (As := [.long v0]) (rest := []) (c_X16_sOf l D ct v0  _) (cb_of (n := 1) hn mw_2331 mw_13 mw_2329 mhX16_sOf ⟨(Nat.le_of_ble_eq_true rfl), (Nat.le_of_ble_eq_true rfl)⟩) hx hb hml hown hn hK hSK hZ hS mw_2330 rfl hl.1 (Nat.le_of_ble_eq_true rfl) dX16_memoryWords_116 ⟨(Nat.le_of_ble_eq_true rfl), (Nat.le_of_ble_eq_true rfl)⟩) hP hD hS hA rfl rfl (by decide) (by decide) (by decide) (Nat.le_of_ble_eq_true rfl) (Nat.le_of_ble_eq_true rfl) (fun r116_1 u116_2 H locs hp116_3 hP hD hS => ?_)
        obtain ⟨hp116_4, hp116_5⟩ := hp116_3
        have hp116_4 : rg r116_1 0 15 := hp116_4
        replace hp116_5 : FF (r116_1.toInt = (v0.toInt / 4096) % 16) := hp116_5
        have hP : va_P D vwCl [(mm, .inr (16, fs2_mm53_4)), (uwd, .inl (ct 1, 60000, .inl k_uwd53_6))] _ := hP
        have hD : va_D A [(mm, .inr (16, fs2_mm53_4)), (uwd, .inl (ct 1, 60000, .inl k_uwd53_6))] := hD
        refine go_i (k1 := 0) (n1 := 0) (wr := [(mm, .inr (16, fs2_mm53_4)), (uwd, .inl (ct 1, 60000, .inl k_uwd53_6))]) [] [0, 1] (rn_S (As := [.int r116_1]) (rest := []) (c_X16_registerOf l D ct r116_1  _) (cb_of (n := 1) hn mw_2571 mw_13 mw_2569 mhX16_registerOf ⟨(Nat.le_of_ble_eq_true rfl), (Nat.le_of_ble_eq_true rfl)⟩) hx hb hml hown hn hK hSK hZ hS mw_2570 rfl hl.1 (Nat.le_of_ble_eq_true rfl) dX16_memoryWords_119 ⟨(Nat.le_of_ble_eq_true rfl), (Nat.le_of_ble_eq_true rfl)⟩) hP hD hS hA rfl rfl (by decide) (by decide) (by decide) (Nat.le_of_ble_eq_true rfl) (Nat.le_of_ble_eq_true rfl) (fun r119_1 u119_2 H locs hp119_3 hP hD hS => ?_)
        have hP : va_P D vwCl [(mm, .inr (16, fs2_mm53_4)), (uwd, .inl (ct 1, 60000, .inl k_uwd53_6))] _ := hP
        have hD : va_D A [(mm, .inr (16, fs2_mm53_4)), (uwd, .inl (ct 1, 60000, .inl k_uwd53_6))] := hD
        refine lv_goto (tgt := 127) hx hb dX16_memoryWords_122 (by decide) ?_
        exact b127 r119_1 H locs ls  (lv_sub hl [1, 2, 3, 4] rfl) hP hD hS
    · have t59_2 := FF.mk (i_eq c59_1)
      have r59_3 : rg r6_1 2 2 := rg_eqA t59_2 hp6_4 (show rg (2 : Int32) 2 2 from rg_l (by decide)) (by decide)
      refine lv_aload_n hx hb dX16_memoryWords_62 rfl (lv_at hl 1 rfl) ?_
      refine lv_iconst (v := 3) hx hb dX16_memoryWords_63 (by decide) ?_
      refine lv_iload hx hb dX16_memoryWords_64 (lv_at hl 4 rfl) ?_
      refine lv_iconst (v := 4) hx hb dX16_memoryWords_66 (by decide) ?_
      have b96 : ∀ (j96_s0 : Int32) (H : Heap) (locs : List Loc) (ls : Array Slot), (rg j96_s0 3 6) → lv_has ls 8 [(1, .long v0)] → va_P D vwCl [(mm, .inr (16, fs2_mm53_4)), (uwd, .inl (ct 1, 60000, .inl k_uwd53_6))] H → va_D A [(mm, .inr (16, fs2_mm53_4)), (uwd, .inl (ct 1, 60000, .inl k_uwd53_6))] → va_S A s.heap H locs → W p l e ({ frames := 5, cells := 0, slots := 0, locals := 112 }) s m [.ref mm, .long v0].toArray below meth c H locs 0 0 Q (F0 m 96 ls [.int j96_s0, .int 3, .ref mm]) := by
        intro j96_s0 H locs ls r96_1001 hl hP hD hS
        refine lv_lload_n hx hb dX16_memoryWords_96 rfl (lv_at hl 0 rfl) ?_
        refine go_i (k1 := 0) (n1 := 0) (wr := [(mm, .inr (16, fs2_mm53_4)), (uwd, .inl (ct 1, 60000, .inl k_uwd53_6))]) [] [0, 1] (rn_S (As := [.long v0]) (rest := [.int j96_s0, .int 3, .ref mm]) (c_X16_dOf l D ct v0  _) (cb_of (n := 1) hn mw_2328 mw_13 mw_2326 mhX16_dOf ⟨(Nat.le_of_ble_eq_true rfl), (Nat.le_of_ble_eq_true rfl)⟩) hx hb hml hown hn hK hSK hZ hS mw_2327 rfl hl.1 (Nat.le_of_ble_eq_true rfl) dX16_memoryWords_97 ⟨(Nat.le_of_ble_eq_true rfl), (Nat.le_of_ble_eq_true rfl)⟩) hP hD hS hA rfl rfl (by decide) (by decide) (by decide) (Nat.le_of_ble_eq_true rfl) (Nat.le_of_ble_eq_true rfl) (fun r97_1 u97_2 H locs hp97_3 hP hD hS => ?_)
        obtain ⟨hp97_4, hp97_5⟩ := hp97_3
        have hp97_4 : rg r97_1 0 15 := hp97_4
        replace hp97_5 : FF (r97_1.toInt = (v0.toInt / 256) % 16) := hp97_5
        have hP : va_P D vwCl [(mm, .inr (16, fs2_mm53_4)), (uwd, .inl (ct 1, 60000, .inl k_uwd53_6))] _ := hP
        have hD : va_D A [(mm, .inr (16, fs2_mm53_4)), (uwd, .inl (ct 1, 60000, .inl k_uwd53_6))] := hD
        refine go_i (k1 := 0) (n1 := 0) (wr := [(mm, .inr (16, fs2_mm53_4)), (uwd, .inl (ct 1, 60000, .inl k_uwd53_6))]) [] [0, 1] (rn_S (As := [.int r97_1]) (rest := [.int j96_s0, .int 3, .ref mm]) (c_X16_registerOf l D ct r97_1  _) (cb_of (n := 1) hn mw_2571 mw_13 mw_2569 mhX16_registerOf ⟨(Nat.le_of_ble_eq_true rfl), (Nat.le_of_ble_eq_true rfl)⟩) hx hb hml hown hn hK hSK hZ hS mw_2570 rfl hl.1 (Nat.le_of_ble_eq_true rfl) dX16_memoryWords_100 ⟨(Nat.le_of_ble_eq_true rfl), (Nat.le_of_ble_eq_true rfl)⟩) hP hD hS hA rfl rfl (by decide) (by decide) (by decide) (Nat.le_of_ble_eq_true rfl) (Nat.le_of_ble_eq_true rfl) (fun r100_1 u100_2 H locs hp100_3 hP hD hS => ?_)
        have hP : va_P D vwCl [(mm, .inr (16, fs2_mm53_4)), (uwd, .inl (ct 1, 60000, .inl k_uwd53_6))] _ := hP
        have hD : va_D A [(mm, .inr (16, fs2_mm53_4)), (uwd, .inl (ct 1, 60000, .inl k_uwd53_6))] := hD
        refine lv_iconst (v := 5) hx hb dX16_memoryWords_103 (by decide) ?_
        refine lv_iconst (v := 0) hx hb dX16_memoryWords_104 (by decide) ?_
        refine go_v (k1 := 0) (n1 := 0) (wr := []) [0, 1] [] (rn_V (As := [.int 3, .int j96_s0, .int r100_1, .int 5, .int 0]) (rest := []) (c_X16_immediate l D ct mm (3 : Int32) j96_s0 r100_1 (5 : Int32) (0 : Int32) fs2_mm53_4 uwd y_mm_7353_5 k_uwd53_6 (hs53_11.1.trans hlen_mm) (SB.get hs53_11 (by decide) hf_mm_72) (rg_of (show 0 ≤ y_mm_7353_5.toInt ∧ y_mm_7353_5.toInt ≤ 59999 by have q0 := hp45_8.1; have q1 := h_x_mm_73.2; have q2 := FF.out hp45_10; have q3 := FF.out hp53_10; omega)) hp53_9 _) (cb_of (n := 5) hn mw_2583 mw_13 mw_2580 mhX16_immediate ⟨(Nat.le_of_ble_eq_true rfl), (Nat.le_of_ble_eq_true rfl)⟩) hx hb hml hown hn hK hSK hZ hS mw_2582 mw_s259 (ci := 16) (q0 := 0) rfl rfl rfl rfl hl.1 (Nat.le_of_ble_eq_true rfl) dX16_memoryWords_105 ⟨(Nat.le_of_ble_eq_true rfl), (Nat.le_of_ble_eq_true rfl)⟩) hP hD hS hA rfl rfl (by decide) (by decide) (by decide) (Nat.le_of_ble_eq_true rfl) (Nat.le_of_ble_eq_true rfl) (fun u105_2 H locs hp105_3 hP hD hS => ?_)
        obtain ⟨fs2_mm105_4, y_mm_73105_5, k_uwd105_6⟩ := u105_2
        obtain ⟨hp105_7, hp105_8, hp105_9, hp105_10⟩ := hp105_3
        have hs105_11 : SB fs_mm fs2_mm105_4 [73] := SB.trans hs53_11 hp105_7 (by decide)
        have hp105_8 : rg y_mm_73105_5 1 60000 := hp105_8
        replace hp105_10 : FF (y_mm_73105_5.toInt = y_mm_7353_5.toInt + 1) := hp105_10
        have hP : va_P D vwCl [(mm, .inr (16, fs2_mm105_4)), (uwd, .inl (ct 1, 60000, .inl k_uwd105_6))] _ := hP
        have hD : va_D A [(mm, .inr (16, fs2_mm105_4)), (uwd, .inl (ct 1, 60000, .inl k_uwd105_6))] := hD
        exact endq_v hQ hx hb hr hlocks dX16_memoryWords_108 (fs2_mm105_4, y_mm_73105_5, k_uwd105_6) ⟨hs105_11, hp105_8, hp105_9, (show x_mm_73.toInt + 1 ≤ y_mm_73105_5.toInt ∧ y_mm_73105_5.toInt ≤ x_mm_73.toInt + 6 by have q0 := FF.out hp45_10; have q1 := FF.out hp53_10; have q2 := FF.out hp105_10; omega)⟩ hP hD hS [0, 1] rfl (by decide) rfl (Nat.le_of_ble_eq_true rfl) (Nat.le_of_ble_eq_true rfl)
      refine lv_icmp_ne (tgt := 75) hx hb dX16_memoryWords_67 (by decide) (fun c67_1 => ?_) (fun c67_1 => ?_)
      · have t67_2 := FF.mk (i_ne c67_1)
        refine lv_iload hx hb dX16_memoryWords_75 (lv_at hl 4 rfl) ?_
        refine lv_iconst (v := 2) hx hb dX16_memoryWords_77 (by decide) ?_
        refine lv_icmp_ne (tgt := 85) hx hb dX16_memoryWords_78 (by decide) (fun c78_1 => ?_) (fun c78_1 => ?_)
        · have t78_2 := FF.mk (i_ne c78_1)
          refine lv_iload hx hb dX16_memoryWords_85 (lv_at hl 4 rfl) ?_
          refine lv_iconst (v := 1) hx hb dX16_memoryWords_87 (by decide) ?_
          refine lv_icmp_ne (tgt := 95) hx hb dX16_memoryWords_88 (by decide) (fun c88_1 => ?_) (fun c88_1 => ?_)
          · have t88_2 := FF.mk (i_ne c88_1)
            have r88_3 : rg r12_1 2 8 := rg_neAl t88_2 hp12_4 (show rg (1 : Int32) 1 1 from rg_l (by decide)) (by decide)
            refine lv_iconst (v := 3) hx hb dX16_memoryWords_95 (by decide) ?_
            exact b96 (3 : Int32) H locs ls (rg_w (show rg (3 : Int32) 3 3 from rg_l (by decide)) (by decide)) (lv_sub hl [2] rfl) hP hD hS
          · have t88_2 := FF.mk (i_eq c88_1)
            have r88_3 : rg r12_1 1 1 := rg_eqA t88_2 hp12_4 (show rg (1 : Int32) 1 1 from rg_l (by decide)) (by decide)
            refine lv_iconst (v := 4) hx hb dX16_memoryWords_91 (by decide) ?_
            refine lv_goto (tgt := 96) hx hb dX16_memoryWords_92 (by decide) ?_
            exact b96 (4 : Int32) H locs ls (rg_w (show rg (4 : Int32) 4 4 from rg_l (by decide)) (by decide)) (lv_sub hl [2] rfl) hP hD hS
        · have t78_2 := FF.mk (i_eq c78_1)
          have r78_3 : rg r12_1 2 2 := rg_eqA t78_2 hp12_4 (show rg (2 : Int32) 2 2 from rg_l (by decide)) (by decide)
          refine lv_iconst (v := 5) hx hb dX16_memoryWords_81 (by decide) ?_
          refine lv_goto (tgt := 96) hx hb dX16_memoryWords_82 (by decide) ?_
          exact b96 (5 : Int32) H locs ls (rg_w (show rg (5 : Int32) 5 5 from rg_l (by decide)) (by decide)) (lv_sub hl [2] rfl) hP hD hS
      · have t67_2 := FF.mk (i_eq c67_1)
        have r67_3 : rg r12_1 4 4 := rg_eqA t67_2 hp12_4 (show rg (4 : Int32) 4 4 from rg_l (by decide)) (by decide)
        refine lv_bipush (v := 6) hx hb dX16_memoryWords_70 (by decide) ?_
        refine lv_goto (tgt := 96) hx hb dX16_memoryWords_72 (by decide) ?_
        exact b96 (6 : Int32) H locs ls (rg_w (show rg (6 : Int32) 6 6 from rg_l (by decide)) (by decide)) (lv_sub hl [2] rfl) hP hD hS
  refine lv_icmp_ne (tgt := 30) hx hb dX16_memoryWords_20 (by decide) (fun c20_1 => ?_) (fun c20_1 => ?_)
  · have t20_2 := FF.mk (i_ne c20_1)
    refine lv_lload_n hx hb dX16_memoryWords_30 rfl (lv_at hl 4 rfl) ?_
    refine go_i (k1 := 0) (n1 := 0) (wr := [(mm, .inr (16, fs_mm)), (uwd, .inl (ct 1, 60000, .inl g_uwd))]) [] [0, 1] (rn_S (As := [.long v0]) (rest := []) (c_X16_dOf l D ct v0  _) (cb_of (n := 1) hn mw_2328 mw_13 mw_2326 mhX16_dOf ⟨(Nat.le_of_ble_eq_true rfl), (Nat.le_of_ble_eq_true rfl)⟩) hx hb hml hown hn hK hSK hZ hS mw_2327 rfl hl.1 (Nat.le_of_ble_eq_true rfl) dX16_memoryWords_31 ⟨(Nat.le_of_ble_eq_true rfl), (Nat.le_of_ble_eq_true rfl)⟩) hP hD hS hA rfl rfl (by decide) (by decide) (by decide) (Nat.le_of_ble_eq_true rfl) (Nat.le_of_ble_eq_true rfl) (fun r31_1 u31_2 H locs hp31_3 hP hD hS => ?_)
    obtain ⟨hp31_4, hp31_5⟩ := hp31_3
    have hp31_4 : rg r31_1 0 15 := hp31_4
    replace hp31_5 : FF (r31_1.toInt = (v0.toInt / 256) % 16) := hp31_5
    have hP : va_P D vwCl [(mm, .inr (16, fs_mm)), (uwd, .inl (ct 1, 60000, .inl g_uwd))] _ := hP
    have hD : va_D A [(mm, .inr (16, fs_mm)), (uwd, .inl (ct 1, 60000, .inl g_uwd))] := hD
    exact b34 r31_1 H locs ls hp31_4 (lv_sub hl [3, 4, 1, 0] rfl) hP hD hS
  · have t20_2 := FF.mk (i_eq c20_1)
    have r20_3 : rg r6_1 2 2 := rg_eqA t20_2 hp6_4 (show rg (2 : Int32) 2 2 from rg_l (by decide)) (by decide)
    refine lv_lload_n hx hb dX16_memoryWords_23 rfl (lv_at hl 4 rfl) ?_
    refine go_i (k1 := 0) (n1 := 0) (wr := [(mm, .inr (16, fs_mm)), (uwd, .inl (ct 1, 60000, .inl g_uwd))]) [] [0, 1] (rn_S (As := [.long v0]) (rest := []) (c_X16_sOf l D ct v0  _) (cb_of (n := 1) hn mw_2331 mw_13 mw_2329 mhX16_sOf ⟨(Nat.le_of_ble_eq_true rfl), (Nat.le_of_ble_eq_true rfl)⟩) hx hb hml hown hn hK hSK hZ hS mw_2330 rfl hl.1 (Nat.le_of_ble_eq_true rfl) dX16_memoryWords_24 ⟨(Nat.le_of_ble_eq_true rfl), (Nat.le_of_ble_eq_true rfl)⟩) hP hD hS hA rfl rfl (by decide) (by decide) (by decide) (Nat.le_of_ble_eq_true rfl) (Nat.le_of_ble_eq_true rfl) (fun r24_1 u24_2 H locs hp24_3 hP hD hS => ?_)
    obtain ⟨hp24_4, hp24_5⟩ := hp24_3
    have hp24_4 : rg r24_1 0 15 := hp24_4
    replace hp24_5 : FF (r24_1.toInt = (v0.toInt / 4096) % 16) := hp24_5
    have hP : va_P D vwCl [(mm, .inr (16, fs_mm)), (uwd, .inl (ct 1, 60000, .inl g_uwd))] _ := hP
    have hD : va_D A [(mm, .inr (16, fs_mm)), (uwd, .inl (ct 1, 60000, .inl g_uwd))] := hD
    refine lv_goto (tgt := 34) hx hb dX16_memoryWords_27 (by decide) ?_
    exact b34 r24_1 H locs ls hp24_4 (lv_sub hl [3, 4, 1, 0] rfl) hP hD hS
set_option maxHeartbeats 2000000 in
theorem c_X16_readWords (l : Launch) (D : va_G) (ct : Nat → ClassId) (mm : Nat) (v0 : Int64) (fs_mm : List Value) (uwd : Nat) (x_mm_73 : Int32) (g_uwd : Nat → Int32) (hlen_mm : fs_mm.length = 78) (hf_mm_72 : fs_mm[72]? = some (.ref uwd)) (h_x_mm_73 : rg x_mm_73 0 59980) (hf_mm_73 : fs_mm[73]? = some (.int x_mm_73)) (hq0 : (v0.toInt % 256 = 32 ∨ v0.toInt % 256 = 40 ∨ v0.toInt % 256 = 48 ∨ v0.toInt % 256 = 64 ∨ v0.toInt % 256 = 72 ∨ v0.toInt % 256 = 80)) : KV (S := List Value × Int32 × (Nat → Int32)) l yX16_readWords cX16_readWords 6 none 5 112 D ct [.ref mm, .long v0] [(mm, .inr (16, fs_mm)), (uwd, .inl (ct 1, 60000, .inl g_uwd))] 0 0 (fun (u : List Value × Int32 × (Nat → Int32)) => match u with | (fs2_mm, y_mm_73, k_uwd) => SB fs_mm fs2_mm [73] ∧ rg y_mm_73 0 60000 ∧ fs2_mm[73]? = some (.int y_mm_73) ∧ (x_mm_73.toInt + 1 ≤ y_mm_73.toInt ∧ y_mm_73.toInt ≤ x_mm_73.toInt + 20) ∧ (¬ (v0.toInt % 256 = 32 ∨ v0.toInt % 256 = 64) → y_mm_73.toInt ≤ x_mm_73.toInt + 14)) (fun (u : List Value × Int32 × (Nat → Int32)) => match u with | (fs2_mm, y_mm_73, k_uwd) => [(mm, .inr (16, fs2_mm)), (uwd, .inl (ct 1, 60000, .inl k_uwd))]) := by
  refine KVq_of (by decide) (Nat.le_of_ble_eq_true rfl) (fun p e s m below meth c A Q C0 hA H locs hS hP hD hQ ls hl => ?_)
  obtain ⟨hx, hb, hr, hown, hin, hml, hlocks, hn, hK, hZ, hSK⟩ := C0
  have hl : lv_has ls 6 [(0, .ref mm), (1, .long v0)] := hl
  replace hq0 := FF.mk hq0
  refine lv_lload_n hx hb dX16_readWords_0 rfl (lv_at hl 1 rfl) ?_
  refine go_i (k1 := 0) (n1 := 0) (wr := [(mm, .inr (16, fs_mm)), (uwd, .inl (ct 1, 60000, .inl g_uwd))]) [] [0, 1] (rn_S (As := [.long v0]) (rest := []) (c_X16_codeOf l D ct v0  _) (cb_of (n := 1) hn mw_2322 mw_13 mw_2320 mhX16_codeOf ⟨(Nat.le_of_ble_eq_true rfl), (Nat.le_of_ble_eq_true rfl)⟩) hx hb hml hown hn hK hSK hZ hS mw_2321 rfl hl.1 (Nat.le_of_ble_eq_true rfl) dX16_readWords_1 ⟨(Nat.le_of_ble_eq_true rfl), (Nat.le_of_ble_eq_true rfl)⟩) hP hD hS hA rfl rfl (by decide) (by decide) (by decide) (Nat.le_of_ble_eq_true rfl) (Nat.le_of_ble_eq_true rfl) (fun r1_1 u1_2 H locs hp1_3 hP hD hS => ?_)
  obtain ⟨hp1_4, hp1_5⟩ := hp1_3
  have hp1_4 : rg r1_1 0 255 := hp1_4
  replace hp1_5 : FF (r1_1.toInt = v0.toInt % 256) := hp1_5
  have hP : va_P D vwCl [(mm, .inr (16, fs_mm)), (uwd, .inl (ct 1, 60000, .inl g_uwd))] _ := hP
  have hD : va_D A [(mm, .inr (16, fs_mm)), (uwd, .inl (ct 1, 60000, .inl g_uwd))] := hD
  refine lv_istore_n (lv' := [(3, .int r1_1), (0, .ref mm), (1, .long v0)]) hx hb dX16_readWords_4 rfl hl (by decide) rfl (fun ls hl => ?_)
  refine lv_iload_n hx hb dX16_readWords_5 rfl (lv_at hl 0 rfl) ?_
  refine go_i (k1 := 0) (n1 := 0) (wr := [(mm, .inr (16, fs_mm)), (uwd, .inl (ct 1, 60000, .inl g_uwd))]) [] [0, 1] (rn_S (As := [.int r1_1]) (rest := []) (c_X16_sizeOf l D ct r1_1  _) (cb_of (n := 1) hn mw_2381 mw_13 mw_2379 mhX16_sizeOf ⟨(Nat.le_of_ble_eq_true rfl), (Nat.le_of_ble_eq_true rfl)⟩) hx hb hml hown hn hK hSK hZ hS mw_2380 rfl hl.1 (Nat.le_of_ble_eq_true rfl) dX16_readWords_6 ⟨(Nat.le_of_ble_eq_true rfl), (Nat.le_of_ble_eq_true rfl)⟩) hP hD hS hA rfl rfl (by decide) (by decide) (by decide) (Nat.le_of_ble_eq_true rfl) (Nat.le_of_ble_eq_true rfl) (fun r6_1 u6_2 H locs hp6_3 hP hD hS => ?_)
  obtain ⟨hp6_4, hp6_5, hp6_6, hp6_7, hp6_8⟩ := hp6_3
  have hp6_4 : rg r6_1 1 8 := hp6_4
  replace hp6_5 : FF ((r1_1.toInt / 8) % 4 = 0 → r6_1.toInt = 4) := hp6_5
  replace hp6_6 : FF ((r1_1.toInt / 8) % 4 = 1 → r6_1.toInt = 2) := hp6_6
  replace hp6_7 : FF ((r1_1.toInt / 8) % 4 = 2 → r6_1.toInt = 1) := hp6_7
  replace hp6_8 : FF ((r1_1.toInt / 8) % 4 = 3 → r6_1.toInt = 8) := hp6_8
  have hP : va_P D vwCl [(mm, .inr (16, fs_mm)), (uwd, .inl (ct 1, 60000, .inl g_uwd))] _ := hP
  have hD : va_D A [(mm, .inr (16, fs_mm)), (uwd, .inl (ct 1, 60000, .inl g_uwd))] := hD
  have hk9_1 : FF ((v0.toInt % 256 = 32 ∨ v0.toInt % 256 = 64) ∨ r6_1.toInt ≤ 2) := (show (v0.toInt % 256 = 32 ∨ v0.toInt % 256 = 64) ∨ r6_1.toInt ≤ 2 by have q0 := hp1_4.1; have q1 := hp1_4.2; have q2 := hp6_4.1; have q3 := hp6_4.2; have q4 := (rl_any v0).1; have q5 := (rl_any v0).2; have q6 := FF.out hq0; have q7 := FF.out hp1_5; have q8 := FF.out hp6_5; have q9 := FF.out hp6_6; have q10 := FF.out hp6_7; have q11 := FF.out hp6_8; omega)
  refine lv_istore (lv' := [(4, .int r6_1), (3, .int r1_1), (0, .ref mm), (1, .long v0)]) hx hb dX16_readWords_9 hl (by decide) rfl (fun ls hl => ?_)
  refine lv_aload_n hx hb dX16_readWords_11 rfl (lv_at hl 2 rfl) ?_
  refine lv_iconst (v := 5) hx hb dX16_readWords_12 (by decide) ?_
  refine lv_lload_n hx hb dX16_readWords_13 rfl (lv_at hl 3 rfl) ?_
  refine go_i (k1 := 0) (n1 := 0) (wr := [(mm, .inr (16, fs_mm)), (uwd, .inl (ct 1, 60000, .inl g_uwd))]) [] [0, 1] (rn_S (As := [.long v0]) (rest := [.int 5, .ref mm]) (c_X16_kOf l D ct v0  _) (cb_of (n := 1) hn mw_2346 mw_13 mw_2344 mhX16_kOf ⟨(Nat.le_of_ble_eq_true rfl), (Nat.le_of_ble_eq_true rfl)⟩) hx hb hml hown hn hK hSK hZ hS mw_2345 rfl hl.1 (Nat.le_of_ble_eq_true rfl) dX16_readWords_14 ⟨(Nat.le_of_ble_eq_true rfl), (Nat.le_of_ble_eq_true rfl)⟩) hP hD hS hA rfl rfl (by decide) (by decide) (by decide) (Nat.le_of_ble_eq_true rfl) (Nat.le_of_ble_eq_true rfl) (fun r14_1 u14_2 H locs hp14_3 hP hD hS => ?_)
  have hP : va_P D vwCl [(mm, .inr (16, fs_mm)), (uwd, .inl (ct 1, 60000, .inl g_uwd))] _ := hP
  have hD : va_D A [(mm, .inr (16, fs_mm)), (uwd, .inl (ct 1, 60000, .inl g_uwd))] := hD
  refine go_v (k1 := 0) (n1 := 0) (wr := []) [0, 1] [] (rn_V (As := [.int 5, .int r14_1]) (rest := []) (c_X16_number__ l D ct mm (5 : Int32) r14_1 fs_mm uwd x_mm_73 g_uwd hlen_mm hf_mm_72 (rg_w h_x_mm_73 (by decide)) hf_mm_73 _) (cb_of (n := 2) hn mw_2575 mw_13 mw_2572 mhX16_number__ ⟨(Nat.le_of_ble_eq_true rfl), (Nat.le_of_ble_eq_true rfl)⟩) hx hb hml hown hn hK hSK hZ hS mw_2574 mw_s257 (ci := 16) (q0 := 0) rfl rfl rfl rfl hl.1 (Nat.le_of_ble_eq_true rfl) dX16_readWords_17 ⟨(Nat.le_of_ble_eq_true rfl), (Nat.le_of_ble_eq_true rfl)⟩) hP hD hS hA rfl rfl (by decide) (by decide) (by decide) (Nat.le_of_ble_eq_true rfl) (Nat.le_of_ble_eq_true rfl) (fun u17_2 H locs hp17_3 hP hD hS => ?_)
  obtain ⟨fs2_mm17_4, y_mm_7317_5, k_uwd17_6⟩ := u17_2
  obtain ⟨hp17_7, hp17_8, hp17_9, hp17_10⟩ := hp17_3
  have hs17_11 : SB fs_mm fs2_mm17_4 [73] := SB.trans (SB.rf _ _) hp17_7 (by decide)
  have hp17_8 : rg y_mm_7317_5 1 60000 := hp17_8
  replace hp17_10 : FF (x_mm_73.toInt + 1 ≤ y_mm_7317_5.toInt ∧ y_mm_7317_5.toInt ≤ x_mm_73.toInt + 2) := hp17_10
  have hP : va_P D vwCl [(mm, .inr (16, fs2_mm17_4)), (uwd, .inl (ct 1, 60000, .inl k_uwd17_6))] _ := hP
  have hD : va_D A [(mm, .inr (16, fs2_mm17_4)), (uwd, .inl (ct 1, 60000, .inl k_uwd17_6))] := hD
  refine lv_iload_n hx hb dX16_readWords_20 rfl (lv_at hl 1 rfl) ?_
  refine go_i (k1 := 0) (n1 := 0) (wr := [(mm, .inr (16, fs2_mm17_4)), (uwd, .inl (ct 1, 60000, .inl k_uwd17_6))]) [] [0, 1] (rn_S (As := [.int r1_1]) (rest := []) (c_X16_sortOf l D ct r1_1 hp1_4 _) (cb_of (n := 1) hn mw_2325 mw_13 mw_2323 mhX16_sortOf ⟨(Nat.le_of_ble_eq_true rfl), (Nat.le_of_ble_eq_true rfl)⟩) hx hb hml hown hn hK hSK hZ hS mw_2324 rfl hl.1 (Nat.le_of_ble_eq_true rfl) dX16_readWords_21 ⟨(Nat.le_of_ble_eq_true rfl), (Nat.le_of_ble_eq_true rfl)⟩) hP hD hS hA rfl rfl (by decide) (by decide) (by decide) (Nat.le_of_ble_eq_true rfl) (Nat.le_of_ble_eq_true rfl) (fun r21_1 u21_2 H locs hp21_3 hP hD hS => ?_)
  obtain ⟨hp21_4, hp21_5, hp21_6, hp21_7⟩ := hp21_3
  have hp21_4 : rg r21_1 (-1) 6 := hp21_4
  replace hp21_5 : FF (r21_1.toInt = srt r1_1.toInt) := hp21_5
  replace hp21_6 : FF (r21_1.toInt = 5 ∨ r21_1.toInt = 6 → (r1_1.toInt = 32 ∨ r1_1.toInt = 40 ∨ r1_1.toInt = 48 ∨ r1_1.toInt = 64 ∨ r1_1.toInt = 72 ∨ r1_1.toInt = 80)) := hp21_6
  replace hp21_7 : FF (r1_1.toInt = 149 → r21_1.toInt = 1) := hp21_7
  have hP : va_P D vwCl [(mm, .inr (16, fs2_mm17_4)), (uwd, .inl (ct 1, 60000, .inl k_uwd17_6))] _ := hP
  have hD : va_D A [(mm, .inr (16, fs2_mm17_4)), (uwd, .inl (ct 1, 60000, .inl k_uwd17_6))] := hD
  refine lv_bipush (v := 6) hx hb dX16_readWords_24 (by decide) ?_
  have b46 : ∀ (j46_amm : List Value) (j46_fmm_73 : Int32) (j46_cuwd : Nat → Int32) (H : Heap) (locs : List Loc) (ls : Array Slot), (SB fs_mm j46_amm [73]) → (rg j46_fmm_73 1 60000) → (j46_amm[73]? = some (.int j46_fmm_73)) → (FF (x_mm_73.toInt + 1 ≤ j46_fmm_73.toInt ∧ j46_fmm_73.toInt ≤ x_mm_73.toInt + 3)) → (FF (j46_fmm_73.toInt ≤ x_mm_73.toInt + 3 ∧ x_mm_73.toInt + 1 ≤ j46_fmm_73.toInt)) → (FF (r6_1.toInt ≤ 4)) → lv_has ls 6 [(0, .ref mm), (4, .int r6_1)] → va_P D vwCl [(mm, .inr (16, j46_amm)), (uwd, .inl (ct 1, 60000, .inl j46_cuwd))] H → va_D A [(mm, .inr (16, j46_amm)), (uwd, .inl (ct 1, 60000, .inl j46_cuwd))] → va_S A s.heap H locs → W p l e ({ frames := 5, cells := 0, slots := 0, locals := 112 }) s m [.ref mm, .long v0].toArray below meth c H locs 0 0 Q (F0 m 46 ls []) := by
    intro j46_amm j46_fmm_73 j46_cuwd H locs ls hs46_1001 r46_1002 hf46_1003 ho46_1004 hi46_1005 hi46_1006 hl hP hD hS
    refine lv_aload_n hx hb dX16_readWords_46 rfl (lv_at hl 0 rfl) ?_
    refine lv_iconst (v := 5) hx hb dX16_readWords_47 (by decide) ?_
    refine go_v (k1 := 0) (n1 := 0) (wr := []) [0, 1] [] (rn_V (As := [.int 5]) (rest := []) (c_X16_zeroHigh l D ct mm (5 : Int32) j46_amm uwd j46_fmm_73 j46_cuwd (hs46_1001.1.trans hlen_mm) (SB.get hs46_1001 (by decide) hf_mm_72) (rg_of (show 0 ≤ j46_fmm_73.toInt ∧ j46_fmm_73.toInt ≤ 59998 by have q0 := r46_1002.1; have q1 := h_x_mm_73.2; have q2 := FF.out ho46_1004; omega)) hf46_1003 _) (cb_of (n := 1) hn mw_2617 mw_13 mw_2614 mhX16_zeroHigh ⟨(Nat.le_of_ble_eq_true rfl), (Nat.le_of_ble_eq_true rfl)⟩) hx hb hml hown hn hK hSK hZ hS mw_2616 mw_s266 (ci := 16) (q0 := 0) rfl rfl rfl rfl hl.1 (Nat.le_of_ble_eq_true rfl) dX16_readWords_48 ⟨(Nat.le_of_ble_eq_true rfl), (Nat.le_of_ble_eq_true rfl)⟩) hP hD hS hA rfl rfl (by decide) (by decide) (by decide) (Nat.le_of_ble_eq_true rfl) (Nat.le_of_ble_eq_true rfl) (fun u48_2 H locs hp48_3 hP hD hS => ?_)
    obtain ⟨fs2_mm48_4, y_mm_7348_5, k_uwd48_6⟩ := u48_2
    obtain ⟨hp48_7, hp48_8, hp48_9, hp48_10⟩ := hp48_3
    have hs48_11 : SB fs_mm fs2_mm48_4 [73] := SB.trans hs46_1001 hp48_7 (by decide)
    have hp48_8 : rg y_mm_7348_5 1 60000 := hp48_8
    replace hp48_10 : FF (j46_fmm_73.toInt + 1 ≤ y_mm_7348_5.toInt ∧ y_mm_7348_5.toInt ≤ j46_fmm_73.toInt + 2) := hp48_10
    have hP : va_P D vwCl [(mm, .inr (16, fs2_mm48_4)), (uwd, .inl (ct 1, 60000, .inl k_uwd48_6))] _ := hP
    have hD : va_D A [(mm, .inr (16, fs2_mm48_4)), (uwd, .inl (ct 1, 60000, .inl k_uwd48_6))] := hD
    refine lv_aload_n hx hb dX16_readWords_51 rfl (lv_at hl 0 rfl) ?_
    refine lv_bipush (v := 6) hx hb dX16_readWords_52 (by decide) ?_
    refine lv_iconst (v := 5) hx hb dX16_readWords_54 (by decide) ?_
    refine lv_iload hx hb dX16_readWords_55 (lv_at hl 1 rfl) ?_
    refine go_v (k1 := 0) (n1 := 0) (wr := []) [0, 1] [] (rn_V (As := [.int 6, .int 5, .int r6_1]) (rest := []) (c_X16_addNumber l D ct mm (6 : Int32) (5 : Int32) r6_1 fs2_mm48_4 uwd y_mm_7348_5 k_uwd48_6 (hs48_11.1.trans hlen_mm) (SB.get hs48_11 (by decide) hf_mm_72) (rg_of (show 0 ≤ y_mm_7348_5.toInt ∧ y_mm_7348_5.toInt ≤ 59999 by have q0 := r46_1002.1; have q1 := h_x_mm_73.2; have q2 := FF.out ho46_1004; have q3 := FF.out hp48_10; omega)) hp48_9 _) (cb_of (n := 3) hn mw_2579 mw_13 mw_2576 mhX16_addNumber ⟨(Nat.le_of_ble_eq_true rfl), (Nat.le_of_ble_eq_true rfl)⟩) hx hb hml hown hn hK hSK hZ hS mw_2578 mw_s258 (ci := 16) (q0 := 0) rfl rfl rfl rfl hl.1 (Nat.le_of_ble_eq_true rfl) dX16_readWords_57 ⟨(Nat.le_of_ble_eq_true rfl), (Nat.le_of_ble_eq_true rfl)⟩) hP hD hS hA rfl rfl (by decide) (by decide) (by decide) (Nat.le_of_ble_eq_true rfl) (Nat.le_of_ble_eq_true rfl) (fun u57_2 H locs hp57_3 hP hD hS => ?_)
    obtain ⟨fs2_mm57_4, y_mm_7357_5, k_uwd57_6⟩ := u57_2
    obtain ⟨hp57_7, hp57_8, hp57_9, hp57_10⟩ := hp57_3
    have hs57_11 : SB fs_mm fs2_mm57_4 [73] := SB.trans hs48_11 hp57_7 (by decide)
    have hp57_8 : rg y_mm_7357_5 1 60000 := hp57_8
    replace hp57_10 : FF (y_mm_7357_5.toInt = y_mm_7348_5.toInt + 1) := hp57_10
    have hP : va_P D vwCl [(mm, .inr (16, fs2_mm57_4)), (uwd, .inl (ct 1, 60000, .inl k_uwd57_6))] _ := hP
    have hD : va_D A [(mm, .inr (16, fs2_mm57_4)), (uwd, .inl (ct 1, 60000, .inl k_uwd57_6))] := hD
    refine lv_aload_n hx hb dX16_readWords_60 rfl (lv_at hl 0 rfl) ?_
    refine lv_bipush (v := 7) hx hb dX16_readWords_61 (by decide) ?_
    refine lv_bipush (v := 9) hx hb dX16_readWords_63 (by decide) ?_
    refine lv_bipush (v := 6) hx hb dX16_readWords_65 (by decide) ?_
    refine lv_bipush (v := 12) hx hb dX16_readWords_67 (by decide) ?_
    refine go_v (k1 := 0) (n1 := 0) (wr := []) [0, 1] [] (rn_V (As := [.int 7, .int 9, .int 6, .int 12]) (rest := []) (c_X16_branch l D ct mm (7 : Int32) (9 : Int32) (6 : Int32) (12 : Int32) fs2_mm57_4 uwd y_mm_7357_5 k_uwd57_6 (hs57_11.1.trans hlen_mm) (SB.get hs57_11 (by decide) hf_mm_72) (rg_of (show 0 ≤ y_mm_7357_5.toInt ∧ y_mm_7357_5.toInt ≤ 59999 by have q0 := r46_1002.1; have q1 := h_x_mm_73.2; have q2 := FF.out ho46_1004; have q3 := FF.out hp48_10; have q4 := FF.out hp57_10; omega)) hp57_9 _) (cb_of (n := 4) hn mw_2601 mw_13 mw_2598 mhX16_branch ⟨(Nat.le_of_ble_eq_true rfl), (Nat.le_of_ble_eq_true rfl)⟩) hx hb hml hown hn hK hSK hZ hS mw_2600 mw_s263 (ci := 16) (q0 := 0) rfl rfl rfl rfl hl.1 (Nat.le_of_ble_eq_true rfl) dX16_readWords_69 ⟨(Nat.le_of_ble_eq_true rfl), (Nat.le_of_ble_eq_true rfl)⟩) hP hD hS hA rfl rfl (by decide) (by decide) (by decide) (Nat.le_of_ble_eq_true rfl) (Nat.le_of_ble_eq_true rfl) (fun u69_2 H locs hp69_3 hP hD hS => ?_)
    obtain ⟨fs2_mm69_4, y_mm_7369_5, k_uwd69_6⟩ := u69_2
    obtain ⟨hp69_7, hp69_8, hp69_9, hp69_10⟩ := hp69_3
    have hs69_11 : SB fs_mm fs2_mm69_4 [73] := SB.trans hs57_11 hp69_7 (by decide)
    have hp69_8 : rg y_mm_7369_5 1 60000 := hp69_8
    replace hp69_10 : FF (y_mm_7369_5.toInt = y_mm_7357_5.toInt + 1) := hp69_10
    have hP : va_P D vwCl [(mm, .inr (16, fs2_mm69_4)), (uwd, .inl (ct 1, 60000, .inl k_uwd69_6))] _ := hP
    have hD : va_D A [(mm, .inr (16, fs2_mm69_4)), (uwd, .inl (ct 1, 60000, .inl k_uwd69_6))] := hD
    refine lv_aload_n hx hb dX16_readWords_72 rfl (lv_at hl 0 rfl) ?_
    refine lv_bipush (v := 10) hx hb dX16_readWords_73 (by decide) ?_
    refine lv_iconst (v := 0) hx hb dX16_readWords_75 (by decide) ?_
    refine lv_iconst (v := 0) hx hb dX16_readWords_76 (by decide) ?_
    refine go_v (k1 := 0) (n1 := 0) (wr := []) [0, 1] [] (rn_V (As := [.int 10, .int 0, .int 0]) (rest := []) (c_X16_addNumber l D ct mm (10 : Int32) (0 : Int32) (0 : Int32) fs2_mm69_4 uwd y_mm_7369_5 k_uwd69_6 (hs69_11.1.trans hlen_mm) (SB.get hs69_11 (by decide) hf_mm_72) (rg_of (show 0 ≤ y_mm_7369_5.toInt ∧ y_mm_7369_5.toInt ≤ 59999 by have q0 := hp69_8.1; have q1 := h_x_mm_73.2; have q2 := FF.out ho46_1004; have q3 := FF.out hp48_10; have q4 := FF.out hp57_10; have q5 := FF.out hp69_10; omega)) hp69_9 _) (cb_of (n := 3) hn mw_2579 mw_13 mw_2576 mhX16_addNumber ⟨(Nat.le_of_ble_eq_true rfl), (Nat.le_of_ble_eq_true rfl)⟩) hx hb hml hown hn hK hSK hZ hS mw_2578 mw_s258 (ci := 16) (q0 := 0) rfl rfl rfl rfl hl.1 (Nat.le_of_ble_eq_true rfl) dX16_readWords_77 ⟨(Nat.le_of_ble_eq_true rfl), (Nat.le_of_ble_eq_true rfl)⟩) hP hD hS hA rfl rfl (by decide) (by decide) (by decide) (Nat.le_of_ble_eq_true rfl) (Nat.le_of_ble_eq_true rfl) (fun u77_2 H locs hp77_3 hP hD hS => ?_)
    obtain ⟨fs2_mm77_4, y_mm_7377_5, k_uwd77_6⟩ := u77_2
    obtain ⟨hp77_7, hp77_8, hp77_9, hp77_10⟩ := hp77_3
    have hs77_11 : SB fs_mm fs2_mm77_4 [73] := SB.trans hs69_11 hp77_7 (by decide)
    have hp77_8 : rg y_mm_7377_5 1 60000 := hp77_8
    replace hp77_10 : FF (y_mm_7377_5.toInt = y_mm_7369_5.toInt + 1) := hp77_10
    have hP : va_P D vwCl [(mm, .inr (16, fs2_mm77_4)), (uwd, .inl (ct 1, 60000, .inl k_uwd77_6))] _ := hP
    have hD : va_D A [(mm, .inr (16, fs2_mm77_4)), (uwd, .inl (ct 1, 60000, .inl k_uwd77_6))] := hD
    refine lv_aload_n hx hb dX16_readWords_80 rfl (lv_at hl 0 rfl) ?_
    refine lv_ldc2 (v := 115) hx hb hown (hn.get mw_2626 rfl) dX16_readWords_81 ?_
    refine go_v (k1 := 0) (n1 := 0) (wr := []) [0, 1] [] (rn_V (As := [.long 115]) (rest := []) (c_X16_emitWord l D ct mm (115 : Int64) fs2_mm77_4 uwd y_mm_7377_5 k_uwd77_6 (hs77_11.1.trans hlen_mm) (SB.get hs77_11 (by decide) hf_mm_72) (rg_of (show 0 ≤ y_mm_7377_5.toInt ∧ y_mm_7377_5.toInt ≤ 59999 by have q0 := hp77_8.1; have q1 := h_x_mm_73.2; have q2 := FF.out ho46_1004; have q3 := FF.out hp48_10; have q4 := FF.out hp57_10; have q5 := FF.out hp69_10; have q6 := FF.out hp77_10; omega)) hp77_9 _) (cb_of (n := 1) hn mw_2587 mw_13 mw_2584 mhX16_emitWord ⟨(Nat.le_of_ble_eq_true rfl), (Nat.le_of_ble_eq_true rfl)⟩) hx hb hml hown hn hK hSK hZ hS mw_2586 mw_s260 (ci := 16) (q0 := 0) rfl rfl rfl rfl hl.1 (Nat.le_of_ble_eq_true rfl) dX16_readWords_84 ⟨(Nat.le_of_ble_eq_true rfl), (Nat.le_of_ble_eq_true rfl)⟩) hP hD hS hA rfl rfl (by decide) (by decide) (by decide) (Nat.le_of_ble_eq_true rfl) (Nat.le_of_ble_eq_true rfl) (fun u84_2 H locs hp84_3 hP hD hS => ?_)
    obtain ⟨fs2_mm84_4, y_mm_7384_5, k_uwd84_6⟩ := u84_2
    obtain ⟨hp84_7, hp84_8, hp84_9, hp84_10⟩ := hp84_3
    have hs84_11 : SB fs_mm fs2_mm84_4 [73] := SB.trans hs77_11 hp84_7 (by decide)
    have hp84_8 : rg y_mm_7384_5 1 60000 := hp84_8
    replace hp84_10 : FF (y_mm_7384_5.toInt = y_mm_7377_5.toInt + 1) := hp84_10
    have hP : va_P D vwCl [(mm, .inr (16, fs2_mm84_4)), (uwd, .inl (ct 1, 60000, .inl k_uwd84_6))] _ := hP
    have hD : va_D A [(mm, .inr (16, fs2_mm84_4)), (uwd, .inl (ct 1, 60000, .inl k_uwd84_6))] := hD
    refine lv_aload_n hx hb dX16_readWords_87 rfl (lv_at hl 0 rfl) ?_
    refine lv_iconst (v := 5) hx hb dX16_readWords_88 (by decide) ?_
    refine lv_iconst (v := 5) hx hb dX16_readWords_89 (by decide) ?_
    refine lv_bipush (v := 8) hx hb dX16_readWords_90 (by decide) ?_
    refine go_v (k1 := 0) (n1 := 0) (wr := []) [0, 1] [] (rn_V (As := [.int 5, .int 5, .int 8]) (rest := []) (c_X16_add l D ct mm (5 : Int32) (5 : Int32) (8 : Int32) fs2_mm84_4 uwd y_mm_7384_5 k_uwd84_6 (hs84_11.1.trans hlen_mm) (SB.get hs84_11 (by decide) hf_mm_72) (rg_of (show 0 ≤ y_mm_7384_5.toInt ∧ y_mm_7384_5.toInt ≤ 59999 by have q0 := hp84_8.1; have q1 := h_x_mm_73.2; have q2 := FF.out ho46_1004; have q3 := FF.out hp48_10; have q4 := FF.out hp57_10; have q5 := FF.out hp69_10; have q6 := FF.out hp77_10; have q7 := FF.out hp84_10; omega)) hp84_9 _) (cb_of (n := 3) hn mw_2639 mw_13 mw_2636 mhX16_add ⟨(Nat.le_of_ble_eq_true rfl), (Nat.le_of_ble_eq_true rfl)⟩) hx hb hml hown hn hK hSK hZ hS mw_2638 mw_s271 (ci := 16) (q0 := 0) rfl rfl rfl rfl hl.1 (Nat.le_of_ble_eq_true rfl) dX16_readWords_92 ⟨(Nat.le_of_ble_eq_true rfl), (Nat.le_of_ble_eq_true rfl)⟩) hP hD hS hA rfl rfl (by decide) (by decide) (by decide) (Nat.le_of_ble_eq_true rfl) (Nat.le_of_ble_eq_true rfl) (fun u92_2 H locs hp92_3 hP hD hS => ?_)
    obtain ⟨fs2_mm92_4, y_mm_7392_5, k_uwd92_6⟩ := u92_2
    obtain ⟨hp92_7, hp92_8, hp92_9, hp92_10⟩ := hp92_3
    have hs92_11 : SB fs_mm fs2_mm92_4 [73] := SB.trans hs84_11 hp92_7 (by decide)
    have hp92_8 : rg y_mm_7392_5 1 60000 := hp92_8
    replace hp92_10 : FF (y_mm_7392_5.toInt = y_mm_7384_5.toInt + 1) := hp92_10
    have hP : va_P D vwCl [(mm, .inr (16, fs2_mm92_4)), (uwd, .inl (ct 1, 60000, .inl k_uwd92_6))] _ := hP
    have hD : va_D A [(mm, .inr (16, fs2_mm92_4)), (uwd, .inl (ct 1, 60000, .inl k_uwd92_6))] := hD
    refine lv_aload_n hx hb dX16_readWords_95 rfl (lv_at hl 0 rfl) ?_
    refine lv_iconst (v := 3) hx hb dX16_readWords_96 (by decide) ?_
    refine lv_iconst (v := 4) hx hb dX16_readWords_97 (by decide) ?_
    refine lv_bipush (v := 10) hx hb dX16_readWords_98 (by decide) ?_
    refine lv_iconst (v := 5) hx hb dX16_readWords_100 (by decide) ?_
    refine lv_iconst (v := 0) hx hb dX16_readWords_101 (by decide) ?_
    refine go_v (k1 := 0) (n1 := 0) (wr := []) [0, 1] [] (rn_V (As := [.int 3, .int 4, .int 10, .int 5, .int 0]) (rest := []) (c_X16_immediate l D ct mm (3 : Int32) (4 : Int32) (10 : Int32) (5 : Int32) (0 : Int32) fs2_mm92_4 uwd y_mm_7392_5 k_uwd92_6 (hs92_11.1.trans hlen_mm) (SB.get hs92_11 (by decide) hf_mm_72) (rg_of (show 0 ≤ y_mm_7392_5.toInt ∧ y_mm_7392_5.toInt ≤ 59999 by have q0 := hp69_8.1; have q1 := h_x_mm_73.2; have q2 := FF.out ho46_1004; have q3 := FF.out hp48_10; have q4 := FF.out hp57_10; have q5 := FF.out hp69_10; have q6 := FF.out hp77_10; have q7 := FF.out hp84_10; have q8 := FF.out hp92_10; omega)) hp92_9 _) (cb_of (n := 5) hn mw_2583 mw_13 mw_2580 mhX16_immediate ⟨(Nat.le_of_ble_eq_true rfl), (Nat.le_of_ble_eq_true rfl)⟩) hx hb hml hown hn hK hSK hZ hS mw_2582 mw_s259 (ci := 16) (q0 := 0) rfl rfl rfl rfl hl.1 (Nat.le_of_ble_eq_true rfl) dX16_readWords_102 ⟨(Nat.le_of_ble_eq_true rfl), (Nat.le_of_ble_eq_true rfl)⟩) hP hD hS hA rfl rfl (by decide) (by decide) (by decide) (Nat.le_of_ble_eq_true rfl) (Nat.le_of_ble_eq_true rfl) (fun u102_2 H locs hp102_3 hP hD hS => ?_)
    obtain ⟨fs2_mm102_4, y_mm_73102_5, k_uwd102_6⟩ := u102_2
    obtain ⟨hp102_7, hp102_8, hp102_9, hp102_10⟩ := hp102_3
    have hs102_11 : SB fs_mm fs2_mm102_4 [73] := SB.trans hs92_11 hp102_7 (by decide)
    have hp102_8 : rg y_mm_73102_5 1 60000 := hp102_8
    replace hp102_10 : FF (y_mm_73102_5.toInt = y_mm_7392_5.toInt + 1) := hp102_10
    have hP : va_P D vwCl [(mm, .inr (16, fs2_mm102_4)), (uwd, .inl (ct 1, 60000, .inl k_uwd102_6))] _ := hP
    have hD : va_D A [(mm, .inr (16, fs2_mm102_4)), (uwd, .inl (ct 1, 60000, .inl k_uwd102_6))] := hD
    refine lv_iconst (v := 1) hx hb dX16_readWords_105 (by decide) ?_
    refine lv_istore (lv' := [(5, .int 1), (0, .ref mm), (4, .int r6_1)]) hx hb dX16_readWords_106 hl (by decide) rfl (fun ls hl => ?_)
    have b108 : ∀ (n108 : Nat) (j108_l5 : Int32) (j108_amm : List Value) (j108_fmm_73 : Int32) (j108_cuwd : Nat → Int32) (H : Heap) (locs : List Loc) (ls : Array Slot), (rg j108_l5 1 4) → (SB fs_mm j108_amm [73]) → (rg j108_fmm_73 0 60000) → (j108_amm[73]? = some (.int j108_fmm_73)) → (FF (j108_fmm_73.toInt + 3 ≤ y_mm_73102_5.toInt + 3 * j108_l5.toInt ∧ y_mm_73102_5.toInt + 3 * j108_l5.toInt ≤ j108_fmm_73.toInt + 3)) → (FF (j108_l5.toInt ≤ r6_1.toInt)) → ((2147483647 : Int) - j108_l5.toInt).toNat < n108 → lv_has ls 6 [(0, .ref mm), (4, .int r6_1), (5, .int j108_l5)] → va_P D vwCl [(mm, .inr (16, j108_amm)), (uwd, .inl (ct 1, 60000, .inl j108_cuwd))] H → va_D A [(mm, .inr (16, j108_amm)), (uwd, .inl (ct 1, 60000, .inl j108_cuwd))] → va_S A s.heap H locs → W p l e ({ frames := 5, cells := 0, slots := 0, locals := 112 }) s m [.ref mm, .long v0].toArray below meth c H locs 0 0 Q (F0 m 108 ls []) := by
      intro n108
      induction n108 with
      | zero => intros; rename_i hms _ _ _ _; exact absurd hms (Nat.not_lt_zero _)
      | succ n108 ih108 =>
        intro j108_l5 j108_amm j108_fmm_73 j108_cuwd H locs ls r108_1001 hs108_1002 r108_1003 hf108_1004 hi108_1005 hi108_1006 hms108 hl hP hD hS
        refine lv_iload hx hb dX16_readWords_108 (lv_at hl 2 rfl) ?_
        refine lv_iload hx hb dX16_readWords_110 (lv_at hl 1 rfl) ?_
        refine lv_icmp_ge (tgt := 157) hx hb dX16_readWords_112 (by decide) (fun c112_1 => ?_) (fun c112_1 => ?_)
        · have t112_2 := FF.mk (i_le c112_1)
          have r112_3 : rg r6_1 1 4 := rg_leA t112_2 hp6_4 r108_1001 (by decide)
          exact endq_v hQ hx hb hr hlocks dX16_readWords_157 (j108_amm, j108_fmm_73, j108_cuwd) ⟨hs108_1002, r108_1003, hf108_1004, (show x_mm_73.toInt + 1 ≤ j108_fmm_73.toInt ∧ j108_fmm_73.toInt ≤ x_mm_73.toInt + 20 by have q0 := r108_1001.1; have q1 := r108_1001.2; have q2 := FF.out ho46_1004; have q3 := FF.out hp48_10; have q4 := FF.out hp57_10; have q5 := FF.out hp69_10; have q6 := FF.out hp77_10; have q7 := FF.out hp84_10; have q8 := FF.out hp92_10; have q9 := FF.out hp102_10; have q10 := FF.out hi108_1005; omega), (show ¬ (v0.toInt % 256 = 32 ∨ v0.toInt % 256 = 64) → j108_fmm_73.toInt ≤ x_mm_73.toInt + 14 by have q0 := r112_3.2; have q1 := FF.out hp6_5; have q2 := FF.out hp6_6; have q3 := FF.out hp6_7; have q4 := FF.out hp6_8; have q5 := FF.out hk9_1; have q6 := FF.out ho46_1004; have q7 := FF.out hp48_10; have q8 := FF.out hp57_10; have q9 := FF.out hp69_10; have q10 := FF.out hp77_10; have q11 := FF.out hp84_10; have q12 := FF.out hp92_10; have q13 := FF.out hp102_10; have q14 := FF.out hi108_1005; have q15 := FF.out hi108_1006; omega)⟩ hP hD hS [0, 1] rfl (by decide) rfl (Nat.le_of_ble_eq_true rfl) (Nat.le_of_ble_eq_true rfl)
        · have t112_2 := FF.mk (i_nle c112_1)
          have r112_3 : rg r6_1 2 8 := rg_ltB t112_2 r108_1001 hp6_4 (by decide)
          refine lv_aload_n hx hb dX16_readWords_115 rfl (lv_at hl 0 rfl) ?_
          refine lv_bipush (v := 10) hx hb dX16_readWords_116 (by decide) ?_
          refine lv_bipush (v := 10) hx hb dX16_readWords_118 (by decide) ?_
          refine lv_bipush (v := 8) hx hb dX16_readWords_120 (by decide) ?_
          refine go_v (k1 := 0) (n1 := 0) (wr := []) [0, 1] [] (rn_V (As := [.int 10, .int 10, .int 8]) (rest := []) (c_X16_shiftLeft l D ct mm (10 : Int32) (10 : Int32) (8 : Int32) j108_amm uwd j108_fmm_73 j108_cuwd (hs108_1002.1.trans hlen_mm) (SB.get hs108_1002 (by decide) hf_mm_72) (rg_of (show 0 ≤ j108_fmm_73.toInt ∧ j108_fmm_73.toInt ≤ 59999 by have q0 := r108_1001.1; have q1 := r46_1002.1; have q2 := h_x_mm_73.2; have q3 := FF.out ho46_1004; have q4 := FF.out hi46_1006; have q5 := FF.out hp48_10; have q6 := FF.out hp57_10; have q7 := FF.out hp69_10; have q8 := FF.out hp77_10; have q9 := FF.out hp84_10; have q10 := FF.out hp92_10; have q11 := FF.out hp102_10; have q12 := FF.out hi108_1005; have q13 := FF.out t112_2; omega)) hf108_1004 _) (cb_of (n := 3) hn mw_2621 mw_13 mw_2618 mhX16_shiftLeft ⟨(Nat.le_of_ble_eq_true rfl), (Nat.le_of_ble_eq_true rfl)⟩) hx hb hml hown hn hK hSK hZ hS mw_2620 mw_s267 (ci := 16) (q0 := 0) rfl rfl rfl rfl hl.1 (Nat.le_of_ble_eq_true rfl) dX16_readWords_122 ⟨(Nat.le_of_ble_eq_true rfl), (Nat.le_of_ble_eq_true rfl)⟩) hP hD hS hA rfl rfl (by decide) (by decide) (by decide) (Nat.le_of_ble_eq_true rfl) (Nat.le_of_ble_eq_true rfl) (fun u122_2 H locs hp122_3 hP hD hS => ?_)
          obtain ⟨fs2_mm122_4, y_mm_73122_5, k_uwd122_6⟩ := u122_2
          obtain ⟨hp122_7, hp122_8, hp122_9, hp122_10⟩ := hp122_3
          have hs122_11 : SB fs_mm fs2_mm122_4 [73] := SB.trans hs108_1002 hp122_7 (by decide)
          have hp122_8 : rg y_mm_73122_5 1 60000 := hp122_8
          replace hp122_10 : FF (y_mm_73122_5.toInt = j108_fmm_73.toInt + 1) := hp122_10
          have hP : va_P D vwCl [(mm, .inr (16, fs2_mm122_4)), (uwd, .inl (ct 1, 60000, .inl k_uwd122_6))] _ := hP
          have hD : va_D A [(mm, .inr (16, fs2_mm122_4)), (uwd, .inl (ct 1, 60000, .inl k_uwd122_6))] := hD
          refine lv_aload_n hx hb dX16_readWords_125 rfl (lv_at hl 0 rfl) ?_
          refine lv_iconst (v := 3) hx hb dX16_readWords_126 (by decide) ?_
          refine lv_iconst (v := 4) hx hb dX16_readWords_127 (by decide) ?_
          refine lv_bipush (v := 6) hx hb dX16_readWords_128 (by decide) ?_
          refine lv_iconst (v := 5) hx hb dX16_readWords_130 (by decide) ?_
          refine lv_iload hx hb dX16_readWords_131 (lv_at hl 2 rfl) ?_
          refine go_v (k1 := 0) (n1 := 0) (wr := []) [0, 1] [] (rn_V (As := [.int 3, .int 4, .int 6, .int 5, .int j108_l5]) (rest := []) (c_X16_immediate l D ct mm (3 : Int32) (4 : Int32) (6 : Int32) (5 : Int32) j108_l5 fs2_mm122_4 uwd y_mm_73122_5 k_uwd122_6 (hs122_11.1.trans hlen_mm) (SB.get hs122_11 (by decide) hf_mm_72) (rg_of (show 0 ≤ y_mm_73122_5.toInt ∧ y_mm_73122_5.toInt ≤ 59999 by have q0 := hp122_8.1; have q1 := h_x_mm_73.2; have q2 := FF.out ho46_1004; have q3 := FF.out hi46_1006; have q4 := FF.out hp48_10; have q5 := FF.out hp57_10; have q6 := FF.out hp69_10; have q7 := FF.out hp77_10; have q8 := FF.out hp84_10; have q9 := FF.out hp92_10; have q10 := FF.out hp102_10; have q11 := FF.out hi108_1005; have q12 := FF.out t112_2; have q13 := FF.out hp122_10; omega)) hp122_9 _) (cb_of (n := 5) hn mw_2583 mw_13 mw_2580 mhX16_immediate ⟨(Nat.le_of_ble_eq_true rfl), (Nat.le_of_ble_eq_true rfl)⟩) hx hb hml hown hn hK hSK hZ hS mw_2582 mw_s259 (ci := 16) (q0 := 0) rfl rfl rfl rfl hl.1 (Nat.le_of_ble_eq_true rfl) dX16_readWords_133 ⟨(Nat.le_of_ble_eq_true rfl), (Nat.le_of_ble_eq_true rfl)⟩) hP hD hS hA rfl rfl (by decide) (by decide) (by decide) (Nat.le_of_ble_eq_true rfl) (Nat.le_of_ble_eq_true rfl) (fun u133_2 H locs hp133_3 hP hD hS => ?_)
          obtain ⟨fs2_mm133_4, y_mm_73133_5, k_uwd133_6⟩ := u133_2
          obtain ⟨hp133_7, hp133_8, hp133_9, hp133_10⟩ := hp133_3
          have hs133_11 : SB fs_mm fs2_mm133_4 [73] := SB.trans hs122_11 hp133_7 (by decide)
          have hp133_8 : rg y_mm_73133_5 1 60000 := hp133_8
          replace hp133_10 : FF (y_mm_73133_5.toInt = y_mm_73122_5.toInt + 1) := hp133_10
          have hP : va_P D vwCl [(mm, .inr (16, fs2_mm133_4)), (uwd, .inl (ct 1, 60000, .inl k_uwd133_6))] _ := hP
          have hD : va_D A [(mm, .inr (16, fs2_mm133_4)), (uwd, .inl (ct 1, 60000, .inl k_uwd133_6))] := hD
          refine lv_aload_n hx hb dX16_readWords_136 rfl (lv_at hl 0 rfl) ?_
          refine lv_bipush (v := 51) hx hb dX16_readWords_137 (by decide) ?_
          refine lv_bipush (v := 6) hx hb dX16_readWords_139 (by decide) ?_
          refine lv_iconst (v := 0) hx hb dX16_readWords_141 (by decide) ?_
          refine lv_bipush (v := 10) hx hb dX16_readWords_142 (by decide) ?_
          refine lv_bipush (v := 10) hx hb dX16_readWords_144 (by decide) ?_
          refine lv_bipush (v := 6) hx hb dX16_readWords_146 (by decide) ?_
          refine go_v (k1 := 0) (n1 := 0) (wr := []) [0, 1] [] (rn_V (As := [.int 51, .int 6, .int 0, .int 10, .int 10, .int 6]) (rest := []) (c_X16_three l D ct mm (51 : Int32) (6 : Int32) (0 : Int32) (10 : Int32) (10 : Int32) (6 : Int32) fs2_mm133_4 uwd y_mm_73133_5 k_uwd133_6 (hs133_11.1.trans hlen_mm) (SB.get hs133_11 (by decide) hf_mm_72) (rg_of (show 0 ≤ y_mm_73133_5.toInt ∧ y_mm_73133_5.toInt ≤ 59999 by have q0 := hp133_8.1; have q1 := h_x_mm_73.2; have q2 := FF.out ho46_1004; have q3 := FF.out hi46_1006; have q4 := FF.out hp48_10; have q5 := FF.out hp57_10; have q6 := FF.out hp69_10; have q7 := FF.out hp77_10; have q8 := FF.out hp84_10; have q9 := FF.out hp92_10; have q10 := FF.out hp102_10; have q11 := FF.out hi108_1005; have q12 := FF.out t112_2; have q13 := FF.out hp122_10; have q14 := FF.out hp133_10; omega)) hp133_9 _) (cb_of (n := 6) hn mw_2606 mw_13 mw_2603 mhX16_three ⟨(Nat.le_of_ble_eq_true rfl), (Nat.le_of_ble_eq_true rfl)⟩) hx hb hml hown hn hK hSK hZ hS mw_2605 mw_s264 (ci := 16) (q0 := 0) rfl rfl rfl rfl hl.1 (Nat.le_of_ble_eq_true rfl) dX16_readWords_148 ⟨(Nat.le_of_ble_eq_true rfl), (Nat.le_of_ble_eq_true rfl)⟩) hP hD hS hA rfl rfl (by decide) (by decide) (by decide) (Nat.le_of_ble_eq_true rfl) (Nat.le_of_ble_eq_true rfl) (fun u148_2 H locs hp148_3 hP hD hS => ?_)
          obtain ⟨fs2_mm148_4, y_mm_73148_5, k_uwd148_6⟩ := u148_2
          obtain ⟨hp148_7, hp148_8, hp148_9, hp148_10⟩ := hp148_3
          have hs148_11 : SB fs_mm fs2_mm148_4 [73] := SB.trans hs133_11 hp148_7 (by decide)
          have hp148_8 : rg y_mm_73148_5 1 60000 := hp148_8
          replace hp148_10 : FF (y_mm_73148_5.toInt = y_mm_73133_5.toInt + 1) := hp148_10
          have hP : va_P D vwCl [(mm, .inr (16, fs2_mm148_4)), (uwd, .inl (ct 1, 60000, .inl k_uwd148_6))] _ := hP
          have hD : va_D A [(mm, .inr (16, fs2_mm148_4)), (uwd, .inl (ct 1, 60000, .inl k_uwd148_6))] := hD
          obtain ⟨x151_1, ex151_1⟩ : ∃ z : Int32, z = j108_l5 + 1 := ⟨_, rfl⟩
          have r151_2 : rg x151_1 2 5 := rg_add ex151_1 r108_1001 (show rg (1 : Int32) 1 1 from rg_l (by decide)) (by decide)
          refine lv_iinc (v := x151_1) (lv' := [(5, .int x151_1), (0, .ref mm), (4, .int r6_1)]) hx hb dX16_readWords_151 hl (k := 2) rfl (by rw [ex151_1]; rfl) (by decide) rfl (fun ls hl => ?_)
          refine lv_goto (tgt := 108) hx hb dX16_readWords_154 (by decide) ?_
          exact ih108 x151_1 fs2_mm148_4 y_mm_73148_5 k_uwd148_6 H locs ls (rg_of (show 1 ≤ x151_1.toInt ∧ x151_1.toInt ≤ 4 by have q0 := r151_2.1; have q1 := (eq_add ex151_1 r108_1001 (show rg (1 : Int32) 1 1 from rg_l (by decide)) (by decide)); have q2 := FF.out hi46_1006; have q3 := FF.out t112_2; have q4 := (show (1 : Int32).toInt = 1 from by decide); omega)) hs148_11 (rg_w hp148_8 (by decide)) hp148_9 (show y_mm_73148_5.toInt + 3 ≤ y_mm_73102_5.toInt + 3 * x151_1.toInt ∧ y_mm_73102_5.toInt + 3 * x151_1.toInt ≤ y_mm_73148_5.toInt + 3 by have q0 := (eq_add ex151_1 r108_1001 (show rg (1 : Int32) 1 1 from rg_l (by decide)) (by decide)); have q1 := FF.out hi108_1005; have q2 := FF.out hp122_10; have q3 := FF.out hp133_10; have q4 := FF.out hp148_10; have q5 := (show (1 : Int32).toInt = 1 from by decide); omega) (show x151_1.toInt ≤ r6_1.toInt by have q0 := (eq_add ex151_1 r108_1001 (show rg (1 : Int32) 1 1 from rg_l (by decide)) (by decide)); have q1 := FF.out t112_2; have q2 := (show (1 : Int32).toInt = 1 from by decide); omega) (show ((2147483647 : Int) - x151_1.toInt).toNat < n108 by have q0 := r108_1001.2; have q1 := (eq_add ex151_1 r108_1001 (show rg (1 : Int32) 1 1 from rg_l (by decide)) (by decide)); have q2 := (show (1 : Int32).toInt = 1 from by decide); have q3 := hms108; omega) (lv_sub hl [1, 2, 0] rfl) hP hD hS
    exact b108 _ (1 : Int32) fs2_mm102_4 y_mm_73102_5 k_uwd102_6 H locs ls (rg_w (show rg (1 : Int32) 1 1 from rg_l (by decide)) (by decide)) hs102_11 (rg_w hp102_8 (by decide)) hp102_9 (show y_mm_73102_5.toInt + 3 ≤ y_mm_73102_5.toInt + 3 * (1 : Int32).toInt ∧ y_mm_73102_5.toInt + 3 * (1 : Int32).toInt ≤ y_mm_73102_5.toInt + 3 by have q0 := (show (1 : Int32).toInt = 1 from by decide); omega) (show (1 : Int32).toInt ≤ r6_1.toInt by have q0 := hp6_4.1; have q1 := (show (1 : Int32).toInt = 1 from by decide); omega) (Nat.lt_succ_self _) (lv_sub hl [1, 2, 0] rfl) hP hD hS
  refine lv_icmp_ne (tgt := 46) hx hb dX16_readWords_26 (by decide) (fun c26_1 => ?_) (fun c26_1 => ?_)
  · have t26_2 := FF.mk (i_ne c26_1)
    have r26_3 : rg r21_1 (-1) 5 := rg_neAh t26_2 hp21_4 (show rg (6 : Int32) 6 6 from rg_l (by decide)) (by decide)
    exact b46 fs2_mm17_4 y_mm_7317_5 k_uwd17_6 H locs ls hs17_11 hp17_8 hp17_9 (show x_mm_73.toInt + 1 ≤ y_mm_7317_5.toInt ∧ y_mm_7317_5.toInt ≤ x_mm_73.toInt + 3 by have q0 := FF.out hp17_10; omega) (show y_mm_7317_5.toInt ≤ x_mm_73.toInt + 3 ∧ x_mm_73.toInt + 1 ≤ y_mm_7317_5.toInt by have q0 := FF.out hp17_10; omega) (show r6_1.toInt ≤ 4 by have q0 := FF.out hp1_5; have q1 := FF.out hp6_5; have q2 := FF.out hp6_6; have q3 := FF.out hp6_7; have q4 := FF.out hp6_8; have q5 := FF.out hk9_1; omega) (lv_sub hl [2, 0] rfl) hP hD hS
  · have t26_2 := FF.mk (i_eq c26_1)
    have r26_3 : rg r21_1 6 6 := rg_eqA t26_2 hp21_4 (show rg (6 : Int32) 6 6 from rg_l (by decide)) (by decide)
    refine lv_aload_n hx hb dX16_readWords_29 rfl (lv_at hl 2 rfl) ?_
    refine lv_bipush (v := 59) hx hb dX16_readWords_30 (by decide) ?_
    refine lv_iconst (v := 0) hx hb dX16_readWords_32 (by decide) ?_
    refine lv_iconst (v := 0) hx hb dX16_readWords_33 (by decide) ?_
    refine lv_iconst (v := 5) hx hb dX16_readWords_34 (by decide) ?_
    refine lv_iconst (v := 5) hx hb dX16_readWords_35 (by decide) ?_
    refine lv_lload_n hx hb dX16_readWords_36 rfl (lv_at hl 3 rfl) ?_
    refine go_i (k1 := 0) (n1 := 0) (wr := [(mm, .inr (16, fs2_mm17_4)), (uwd, .inl (ct 1, 60000, .inl k_uwd17_6))]) [] [0, 1] (rn_S (As := [.long v0]) (rest := [.int 5, .int 5, .int 0, .int 0, .int 59, .ref mm]) (c_X16_sOf l D ct v0  _) (cb_of (n := 1) hn mw_2331 mw_13 mw_2329 mhX16_sOf ⟨(Nat.le_of_ble_eq_true rfl), (Nat.le_of_ble_eq_true rfl)⟩) hx hb hml hown hn hK hSK hZ hS mw_2330 rfl hl.1 (Nat.le_of_ble_eq_true rfl) dX16_readWords_37 ⟨(Nat.le_of_ble_eq_true rfl), (Nat.le_of_ble_eq_true rfl)⟩) hP hD hS hA rfl rfl (by decide) (by decide) (by decide) (Nat.le_of_ble_eq_true rfl) (Nat.le_of_ble_eq_true rfl) (fun r37_1 u37_2 H locs hp37_3 hP hD hS => ?_)
    obtain ⟨hp37_4, hp37_5⟩ := hp37_3
    have hp37_4 : rg r37_1 0 15 := hp37_4
    replace hp37_5 : FF (r37_1.toInt = (v0.toInt / 4096) % 16) := hp37_5
    have hP : va_P D vwCl [(mm, .inr (16, fs2_mm17_4)), (uwd, .inl (ct 1, 60000, .inl k_uwd17_6))] _ := hP
    have hD : va_D A [(mm, .inr (16, fs2_mm17_4)), (uwd, .inl (ct 1, 60000, .inl k_uwd17_6))] := hD
    refine go_i (k1 := 0) (n1 := 0) (wr := [(mm, .inr (16, fs2_mm17_4)), (uwd, .inl (ct 1, 60000, .inl k_uwd17_6))]) [] [0, 1] (rn_S (As := [.int r37_1]) (rest := [.int 5, .int 5, .int 0, .int 0, .int 59, .ref mm]) (c_X16_registerOf l D ct r37_1  _) (cb_of (n := 1) hn mw_2571 mw_13 mw_2569 mhX16_registerOf ⟨(Nat.le_of_ble_eq_true rfl), (Nat.le_of_ble_eq_true rfl)⟩) hx hb hml hown hn hK hSK hZ hS mw_2570 rfl hl.1 (Nat.le_of_ble_eq_true rfl) dX16_readWords_40 ⟨(Nat.le_of_ble_eq_true rfl), (Nat.le_of_ble_eq_true rfl)⟩) hP hD hS hA rfl rfl (by decide) (by decide) (by decide) (Nat.le_of_ble_eq_true rfl) (Nat.le_of_ble_eq_true rfl) (fun r40_1 u40_2 H locs hp40_3 hP hD hS => ?_)
    have hP : va_P D vwCl [(mm, .inr (16, fs2_mm17_4)), (uwd, .inl (ct 1, 60000, .inl k_uwd17_6))] _ := hP
    have hD : va_D A [(mm, .inr (16, fs2_mm17_4)), (uwd, .inl (ct 1, 60000, .inl k_uwd17_6))] := hD
    refine go_v (k1 := 0) (n1 := 0) (wr := []) [0, 1] [] (rn_V (As := [.int 59, .int 0, .int 0, .int 5, .int 5, .int r40_1]) (rest := []) (c_X16_three l D ct mm (59 : Int32) (0 : Int32) (0 : Int32) (5 : Int32) (5 : Int32) r40_1 fs2_mm17_4 uwd y_mm_7317_5 k_uwd17_6 (hs17_11.1.trans hlen_mm) (SB.get hs17_11 (by decide) hf_mm_72) (rg_of (show 0 ≤ y_mm_7317_5.toInt ∧ y_mm_7317_5.toInt ≤ 59999 by have q0 := hp17_8.1; have q1 := h_x_mm_73.2; have q2 := FF.out hp17_10; omega)) hp17_9 _) (cb_of (n := 6) hn mw_2606 mw_13 mw_2603 mhX16_three ⟨(Nat.le_of_ble_eq_true rfl), (Nat.le_of_ble_eq_true rfl)⟩) hx hb hml hown hn hK hSK hZ hS mw_2605 mw_s264 (ci := 16) (q0 := 0) rfl rfl rfl rfl hl.1 (Nat.le_of_ble_eq_true rfl) dX16_readWords_43 ⟨(Nat.le_of_ble_eq_true rfl), (Nat.le_of_ble_eq_true rfl)⟩) hP hD hS hA rfl rfl (by decide) (by decide) (by decide) (Nat.le_of_ble_eq_true rfl) (Nat.le_of_ble_eq_true rfl) (fun u43_2 H locs hp43_3 hP hD hS => ?_)
    obtain ⟨fs2_mm43_4, y_mm_7343_5, k_uwd43_6⟩ := u43_2
    obtain ⟨hp43_7, hp43_8, hp43_9, hp43_10⟩ := hp43_3
    have hs43_11 : SB fs_mm fs2_mm43_4 [73] := SB.trans hs17_11 hp43_7 (by decide)
    have hp43_8 : rg y_mm_7343_5 1 60000 := hp43_8
    replace hp43_10 : FF (y_mm_7343_5.toInt = y_mm_7317_5.toInt + 1) := hp43_10
    have hP : va_P D vwCl [(mm, .inr (16, fs2_mm43_4)), (uwd, .inl (ct 1, 60000, .inl k_uwd43_6))] _ := hP
    have hD : va_D A [(mm, .inr (16, fs2_mm43_4)), (uwd, .inl (ct 1, 60000, .inl k_uwd43_6))] := hD
    exact b46 fs2_mm43_4 y_mm_7343_5 k_uwd43_6 H locs ls hs43_11 hp43_8 hp43_9 (show x_mm_73.toInt + 1 ≤ y_mm_7343_5.toInt ∧ y_mm_7343_5.toInt ≤ x_mm_73.toInt + 3 by have q0 := FF.out hp17_10; have q1 := FF.out hp43_10; omega) (show y_mm_7343_5.toInt ≤ x_mm_73.toInt + 3 ∧ x_mm_73.toInt + 1 ≤ y_mm_7343_5.toInt by have q0 := FF.out hp17_10; have q1 := FF.out hp43_10; omega) (show r6_1.toInt ≤ 4 by have q0 := FF.out hp1_5; have q1 := FF.out hp6_5; have q2 := FF.out hp6_6; have q3 := FF.out hp6_7; have q4 := FF.out hp6_8; have q5 := FF.out hk9_1; omega) (lv_sub hl [2, 0] rfl) hP hD hS
set_option maxHeartbeats 2000000 in
theorem c_X16_takeObject (l : Launch) (D : va_G) (ct : Nat → ClassId) (mm : Nat) (v0 : Int32) (fs_mm : List Value) (uob : Nat) (uwd : Nat) (g_uwd : Nat → Int32) (g_uob : Nat → Int32) (h_v0 : rg v0 0 60000) (hlen_mm : fs_mm.length = 78) (hf_mm_69 : fs_mm[69]? = some (.ref uob)) (hf_mm_72 : fs_mm[72]? = some (.ref uwd)) : KV (S := List Value × (Nat → Int32)) l yX16_takeObject cX16_takeObject 3 none 1 20 D ct [.ref mm, .int v0] [(mm, .inr (16, fs_mm)), (uwd, .inl (ct 1, 60000, .inl g_uwd)), (uob, .inl (ct 1, 60000, .inl g_uob))] 0 0 (fun (u : List Value × (Nat → Int32)) => match u with | (fs2_mm, k_uob) => SB fs_mm fs2_mm [70, 71] ∧ fs2_mm[70]? = some (.int v0) ∧ fs2_mm[71]? = some (.int 1)) (fun (u : List Value × (Nat → Int32)) => match u with | (fs2_mm, k_uob) => [(mm, .inr (16, fs2_mm)), (uwd, .inl (ct 1, 60000, .inl g_uwd)), (uob, .inl (ct 1, 60000, .inl k_uob))]) := by
  refine KVq_of (by decide) (Nat.le_of_ble_eq_true rfl) (fun p e s m below meth c A Q C0 hA H locs hS hP hD hQ ls hl => ?_)
  obtain ⟨hx, hb, hr, hown, hin, hml, hlocks, hn, hK, hZ, hSK⟩ := C0
  have hl : lv_has ls 3 [(0, .ref mm), (1, .int v0)] := hl
  refine lv_iconst (v := 0) hx hb dX16_takeObject_0 (by decide) ?_
  refine lv_istore_n (lv' := [(2, .int 0), (0, .ref mm), (1, .int v0)]) hx hb dX16_takeObject_1 rfl hl (by decide) rfl (fun ls hl => ?_)
  have b2 : ∀ (n2 : Nat) (j2_l2 : Int32) (j2_cuob : Nat → Int32) (H : Heap) (locs : List Loc) (ls : Array Slot), (rg j2_l2 0 2147483647) → ((2147483647 : Int) - j2_l2.toInt).toNat < n2 → lv_has ls 3 [(0, .ref mm), (1, .int v0), (2, .int j2_l2)] → va_P D vwCl [(mm, .inr (16, fs_mm)), (uwd, .inl (ct 1, 60000, .inl g_uwd)), (uob, .inl (ct 1, 60000, .inl j2_cuob))] H → va_D A [(mm, .inr (16, fs_mm)), (uwd, .inl (ct 1, 60000, .inl g_uwd)), (uob, .inl (ct 1, 60000, .inl j2_cuob))] → va_S A s.heap H locs → W p l e ({ frames := 1, cells := 0, slots := 0, locals := 20 }) s m [.ref mm, .int v0].toArray below meth c H locs 0 0 Q (F0 m 2 ls []) := by
    intro n2
    induction n2 with
    | zero => intros; rename_i hms _ _ _ _; exact absurd hms (Nat.not_lt_zero _)
    | succ n2 ih2 =>
      intro j2_l2 j2_cuob H locs ls r2_1001 hms2 hl hP hD hS
      refine lv_iload_n hx hb dX16_takeObject_2 rfl (lv_at hl 2 rfl) ?_
      refine lv_iload_n hx hb dX16_takeObject_3 rfl (lv_at hl 1 rfl) ?_
      refine lv_icmp_ge (tgt := 25) hx hb dX16_takeObject_4 (by decide) (fun c4_1 => ?_) (fun c4_1 => ?_)
      · have t4_2 := FF.mk (i_le c4_1)
        refine lv_aload_n hx hb dX16_takeObject_25 rfl (lv_at hl 0 rfl) ?_
        refine lv_iload_n hx hb dX16_takeObject_26 rfl (lv_at hl 1 rfl) ?_
        refine va_put (D := D) (ci := 16) (v := .int v0) (ty := .int) (C := RX16) (T := TX16) (N := 78) hx hb (htX16 hn) (fun _ h => h) tyX16 tyX16_ok nmX16 hown hK hP hD hS 0 rfl rfl 70 (by decide) (hn.get mw_1609 rfl) (fun _ h9 => h9) rfl (by decide +kernel) rfl rfl (by rw [hlen_mm]; decide) dX16_takeObject_27 (fun H locs hP hD hS => ?_)
        have hP : va_P D vwCl [(mm, .inr (16, (fs_mm.set 70 (.int v0)))), (uwd, .inl (ct 1, 60000, .inl g_uwd)), (uob, .inl (ct 1, 60000, .inl j2_cuob))] _ := hP
        have hD : va_D A [(mm, .inr (16, (fs_mm.set 70 (.int v0)))), (uwd, .inl (ct 1, 60000, .inl g_uwd)), (uob, .inl (ct 1, 60000, .inl j2_cuob))] := hD
        obtain ⟨m27_1, em27_1⟩ : ∃ z, z = (fs_mm.set 70 (.int v0)) := ⟨_, rfl⟩
        rw [← em27_1] at hP hD
        have hsm27_1 : SB fs_mm m27_1 [70, 71] := by rw [em27_1]; exact SB.set (SB.rf _ _) (by decide)
        have hfm27_1_70 : m27_1[70]? = some (.int v0) := by rw [em27_1]; exact fs_eq (by rw [hlen_mm]; decide)
        have hP : va_P D vwCl [(mm, .inr (16, m27_1)), (uwd, .inl (ct 1, 60000, .inl g_uwd)), (uob, .inl (ct 1, 60000, .inl j2_cuob))] _ := hP
        have hD : va_D A [(mm, .inr (16, m27_1)), (uwd, .inl (ct 1, 60000, .inl g_uwd)), (uob, .inl (ct 1, 60000, .inl j2_cuob))] := hD
        refine lv_aload_n hx hb dX16_takeObject_30 rfl (lv_at hl 0 rfl) ?_
        refine lv_iconst (v := 1) hx hb dX16_takeObject_31 (by decide) ?_
        refine va_put (D := D) (ci := 16) (v := .int 1) (ty := .boolean) (C := RX16) (T := TX16) (N := 78) hx hb (htX16 hn) (fun _ h => h) tyX16 tyX16_ok nmX16 hown hK hP hD hS 0 rfl rfl 71 (by decide) (hn.get mw_1610 rfl) (fun _ h9 => h9) rfl (by decide +kernel) (by decide) rfl (by rw [hsm27_1.1, hlen_mm]; decide) dX16_takeObject_32 (fun H locs hP hD hS => ?_)
        have hP : va_P D vwCl [(mm, .inr (16, (m27_1.set 71 (.int 1)))), (uwd, .inl (ct 1, 60000, .inl g_uwd)), (uob, .inl (ct 1, 60000, .inl j2_cuob))] _ := hP
        have hD : va_D A [(mm, .inr (16, (m27_1.set 71 (.int 1)))), (uwd, .inl (ct 1, 60000, .inl g_uwd)), (uob, .inl (ct 1, 60000, .inl j2_cuob))] := hD
        obtain ⟨m32_1, em32_1⟩ : ∃ z, z = (m27_1.set 71 (.int 1)) := ⟨_, rfl⟩
        rw [← em32_1] at hP hD
        have hsm32_1 : SB fs_mm m32_1 [70, 71] := by rw [em32_1]; exact SB.set hsm27_1 (by decide)
        have hfm32_1_70 : m32_1[70]? = some (.int v0) := by rw [em32_1]; exact fs_ne (by decide) hfm27_1_70
        have hfm32_1_71 : m32_1[71]? = some (.int 1) := by rw [em32_1]; exact fs_eq (by rw [hsm27_1.1, hlen_mm]; decide)
        have hP : va_P D vwCl [(mm, .inr (16, m32_1)), (uwd, .inl (ct 1, 60000, .inl g_uwd)), (uob, .inl (ct 1, 60000, .inl j2_cuob))] _ := hP
        have hD : va_D A [(mm, .inr (16, m32_1)), (uwd, .inl (ct 1, 60000, .inl g_uwd)), (uob, .inl (ct 1, 60000, .inl j2_cuob))] := hD
        exact endq_v hQ hx hb hr hlocks dX16_takeObject_35 (m32_1, j2_cuob) ⟨hsm32_1, hfm32_1_70, hfm32_1_71⟩ hP hD hS [0, 1, 2] rfl (by decide) rfl (Nat.le_of_ble_eq_true rfl) (Nat.le_of_ble_eq_true rfl)
      · have t4_2 := FF.mk (i_nle c4_1)
        have r4_3 : rg j2_l2 0 59999 := rg_ltA t4_2 r2_1001 h_v0 (by decide)
        have r4_4 : rg v0 1 60000 := rg_ltB t4_2 r2_1001 h_v0 (by decide)
        refine lv_aload_n hx hb dX16_takeObject_7 rfl (lv_at hl 0 rfl) ?_
        refine va_get (D := D) (ci := 16) (v := .ref uob) (C := RX16) (T := TX16) (N := 78) hx hb (htX16 hn) (fun _ h => h) hown hK hP 0 rfl rfl 69 (by decide) (hn.get mw_1608 rfl) (fun _ h9 => h9) hf_mm_69 dX16_takeObject_8 ?_
        refine lv_iload_n hx hb dX16_takeObject_11 rfl (lv_at hl 2 rfl) ?_
        refine lv_aload_n hx hb dX16_takeObject_12 rfl (lv_at hl 0 rfl) ?_
        refine va_get (D := D) (ci := 16) (v := .ref uwd) (C := RX16) (T := TX16) (N := 78) hx hb (htX16 hn) (fun _ h => h) hown hK hP 0 rfl rfl 72 (by decide) (hn.get mw_1611 rfl) (fun _ h9 => h9) hf_mm_72 dX16_takeObject_13 ?_
        refine lv_iload_n hx hb dX16_takeObject_16 rfl (lv_at hl 2 rfl) ?_
        have hi17_1 : vp_in j2_l2 60000 := (in_rg r4_3 (by decide))
        refine va_iald hx hb hK hP 1 1 rfl rfl hi17_1 dX16_takeObject_17 ?_
        refine lv_topi (fun z17_2 ez17_2 => ?_)
        have hi18_1 : vp_in j2_l2 60000 := (in_rg r4_3 (by decide))
        refine va_iast hx hb hK hP hD hS 2 1 rfl rfl hi18_1 dX16_takeObject_18 (fun H locs hP hD hS => ?_)
        have hP : va_P D vwCl [(mm, .inr (16, fs_mm)), (uwd, .inl (ct 1, 60000, .inl g_uwd)), (uob, .inl (ct 1, 60000, .inl (upd j2_cuob j2_l2.toNatClampNeg z17_2)))] _ := hP
        have hD : va_D A [(mm, .inr (16, fs_mm)), (uwd, .inl (ct 1, 60000, .inl g_uwd)), (uob, .inl (ct 1, 60000, .inl (upd j2_cuob j2_l2.toNatClampNeg z17_2)))] := hD
        obtain ⟨f18_2, ef18_2⟩ : ∃ z, z = (upd j2_cuob j2_l2.toNatClampNeg z17_2) := ⟨_, rfl⟩
        rw [← ef18_2] at hP hD
        obtain ⟨x19_1, ex19_1⟩ : ∃ z : Int32, z = j2_l2 + 1 := ⟨_, rfl⟩
        have r19_2 : rg x19_1 1 60000 := rg_add ex19_1 r4_3 (show rg (1 : Int32) 1 1 from rg_l (by decide)) (by decide)
        refine lv_iinc (v := x19_1) (lv' := [(2, .int x19_1), (0, .ref mm), (1, .int v0)]) hx hb dX16_takeObject_19 hl (k := 2) rfl (by rw [ex19_1]; rfl) (by decide) rfl (fun ls hl => ?_)
        refine lv_goto (tgt := 2) hx hb dX16_takeObject_22 (by decide) ?_
        exact ih2 x19_1 f18_2 H locs ls (rg_w r19_2 (by decide)) (show ((2147483647 : Int) - x19_1.toInt).toNat < n2 by have q0 := r4_3.2; have q1 := (eq_add ex19_1 r4_3 (show rg (1 : Int32) 1 1 from rg_l (by decide)) (by decide)); have q2 := (show (1 : Int32).toInt = 1 from by decide); have q3 := hms2; omega) (lv_sub hl [1, 2, 0] rfl) hP hD hS
  exact b2 _ (0 : Int32) g_uob H locs ls (rg_w (show rg (0 : Int32) 0 0 from rg_l (by decide)) (by decide)) (Nat.lt_succ_self _) (lv_sub hl [1, 2, 0] rfl) hP hD hS
set_option maxHeartbeats 2000000 in
theorem c_X16_translate (l : Launch) (D : va_G) (ct : Nat → ClassId) (mm : Nat) (fs_mm : List Value) (upg : Nat) (x_mm_27 : Int32) (ukd : Nat) (ulw : Nat) (uhg : Nat) (ukn : Nat) (uon : Nat) (ust : Nat) (ucm : Nat) (x_mm_46 : Int32) (x_mm_47 : Int64) (x_mm_48 : Int64) (x_mm_49 : Int64) (x_mm_50 : Int64) (x_mm_51 : Int64) (x_mm_52 : Int64) (x_mm_53 : Int64) (x_mm_54 : Int64) (ukk : Nat) (ukl : Nat) (ukh : Nat) (uks : Nat) (uko : Nat) (x_mm_60 : Int64) (uokd : Nat) (uolw : Nat) (uohg : Nat) (uokn : Nat) (uoon : Nat) (uost : Nat) (uocm : Nat) (x_mm_68 : Int32) (uob : Nat) (x_mm_70 : Int32) (x_mm_71 : Int32) (uwd : Nat) (x_mm_73 : Int32) (uwo : Nat) (g_ukk : Nat → Int32) (g_ukl : Nat → Int64) (g_ukh : Nat → Int64) (g_uks : Nat → Int64) (g_uko : Nat → Int64) (g_uokd : Nat → Int32) (g_uolw : Nat → Int64) (g_uohg : Nat → Int64) (g_uokn : Nat → Int64) (g_uoon : Nat → Int64) (g_uost : Nat → Int64) (g_uocm : Nat → Int32) (g_upg : Nat → Int64) (PL : Nat) (g_uwd : Nat → Int32) (g_uwo : Nat → Int32) (g_uob : Nat → Int32) (hlen_mm : fs_mm.length = 78) (hf_mm_26 : fs_mm[26]? = some (.ref upg)) (h_x_mm_27 : rg x_mm_27 0 1) (hf_mm_27 : fs_mm[27]? = some (.int x_mm_27)) (hf_mm_39 : fs_mm[39]? = some (.ref ukd)) (hf_mm_40 : fs_mm[40]? = some (.ref ulw)) (hf_mm_41 : fs_mm[41]? = some (.ref uhg)) (hf_mm_42 : fs_mm[42]? = some (.ref ukn)) (hf_mm_43 : fs_mm[43]? = some (.ref uon)) (hf_mm_44 : fs_mm[44]? = some (.ref ust)) (hf_mm_45 : fs_mm[45]? = some (.ref ucm)) (h_x_mm_46 : rg x_mm_46 (-1) 3999) (hf_mm_46 : fs_mm[46]? = some (.int x_mm_46)) (hf_mm_47 : fs_mm[47]? = some (.long x_mm_47)) (hf_mm_48 : fs_mm[48]? = some (.long x_mm_48)) (hf_mm_49 : fs_mm[49]? = some (.long x_mm_49)) (hf_mm_50 : fs_mm[50]? = some (.long x_mm_50)) (hf_mm_51 : fs_mm[51]? = some (.long x_mm_51)) (hf_mm_52 : fs_mm[52]? = some (.long x_mm_52)) (hf_mm_53 : fs_mm[53]? = some (.long x_mm_53)) (hf_mm_54 : fs_mm[54]? = some (.long x_mm_54)) (hf_mm_55 : fs_mm[55]? = some (.ref ukk)) (hf_mm_56 : fs_mm[56]? = some (.ref ukl)) (hf_mm_57 : fs_mm[57]? = some (.ref ukh)) (hf_mm_58 : fs_mm[58]? = some (.ref uks)) (hf_mm_59 : fs_mm[59]? = some (.ref uko)) (hf_mm_60 : fs_mm[60]? = some (.long x_mm_60)) (hf_mm_61 : fs_mm[61]? = some (.ref uokd)) (hf_mm_62 : fs_mm[62]? = some (.ref uolw)) (hf_mm_63 : fs_mm[63]? = some (.ref uohg)) (hf_mm_64 : fs_mm[64]? = some (.ref uokn)) (hf_mm_65 : fs_mm[65]? = some (.ref uoon)) (hf_mm_66 : fs_mm[66]? = some (.ref uost)) (hf_mm_67 : fs_mm[67]? = some (.ref uocm)) (h_x_mm_68 : rg x_mm_68 (-1) 3999) (hf_mm_68 : fs_mm[68]? = some (.int x_mm_68)) (hf_mm_69 : fs_mm[69]? = some (.ref uob)) (h_x_mm_70 : rg x_mm_70 0 60000) (hf_mm_70 : fs_mm[70]? = some (.int x_mm_70)) (h_x_mm_71 : rg x_mm_71 0 1) (hf_mm_71 : fs_mm[71]? = some (.int x_mm_71)) (hf_mm_72 : fs_mm[72]? = some (.ref uwd)) (h_x_mm_73 : rg x_mm_73 0 60000) (hf_mm_73 : fs_mm[73]? = some (.int x_mm_73)) (hf_mm_74 : fs_mm[74]? = some (.ref uwo)) (h_g_ukk : Rg g_ukk 11 0 2) (h_g_uokd : Rg g_uokd 44000 0 2) (h_g_uocm : Rg g_uocm 4000 0 1) (h_g_uwo : Rg g_uwo 4000 0 60000) (hq0 : ((PL : Nat) : Int) ≤ 4000) (hg0 : ULA g_ukl g_ukh) (hg1 : ULA g_uolw g_uohg) (hg2 : PB g_upg PL) : KI (S := List Value × Int64 × Int64 × Int64 × Int64 × Int64 × Int64 × Int64 × Int64 × Int64 × Int32 × Int32 × Int32 × Int32 × (Nat → Int32) × (Nat → Int64) × (Nat → Int64) × (Nat → Int64) × (Nat → Int64) × (Nat → Int32) × (Nat → Int64) × (Nat → Int64) × (Nat → Int64) × (Nat → Int64) × (Nat → Int64) × (Nat → Int32) × (Nat → Int32) × (Nat → Int32) × (Nat → Int32)) l yX16_translate cX16_translate 6 (some .int) 10 242 D ct [.ref mm] [(mm, .inr (16, fs_mm)), (ukk, .inl (ct 1, 11, .inl g_ukk)), (ukl, .inl (ct 2, 11, .inr (.inl g_ukl))), (ukh, .inl (ct 2, 11, .inr (.inl g_ukh))), (uks, .inl (ct 2, 11, .inr (.inl g_uks))), (uko, .inl (ct 2, 11, .inr (.inl g_uko))), (uokd, .inl (ct 1, 44000, .inl g_uokd)), (uolw, .inl (ct 2, 44000, .inr (.inl g_uolw))), (uohg, .inl (ct 2, 44000, .inr (.inl g_uohg))), (uokn, .inl (ct 2, 44000, .inr (.inl g_uokn))), (uoon, .inl (ct 2, 44000, .inr (.inl g_uoon))), (uost, .inl (ct 2, 4000, .inr (.inl g_uost))), (uocm, .inl (ct 3, 4000, .inl g_uocm)), (upg, .inl (ct 2, PL, .inr (.inl g_upg))), (uwd, .inl (ct 1, 60000, .inl g_uwd)), (uwo, .inl (ct 1, 4000, .inl g_uwo)), (uob, .inl (ct 1, 60000, .inl g_uob))] 0 0 (fun (r : Int32) (u : List Value × Int64 × Int64 × Int64 × Int64 × Int64 × Int64 × Int64 × Int64 × Int64 × Int32 × Int32 × Int32 × Int32 × (Nat → Int32) × (Nat → Int64) × (Nat → Int64) × (Nat → Int64) × (Nat → Int64) × (Nat → Int32) × (Nat → Int64) × (Nat → Int64) × (Nat → Int64) × (Nat → Int64) × (Nat → Int64) × (Nat → Int32) × (Nat → Int32) × (Nat → Int32) × (Nat → Int32)) => match u with | (fs2_mm, y_mm_47, y_mm_48, y_mm_49, y_mm_50, y_mm_51, y_mm_52, y_mm_53, y_mm_54, y_mm_60, y_mm_68, y_mm_70, y_mm_71, y_mm_73, k_ukk, k_ukl, k_ukh, k_uks, k_uko, k_uokd, k_uolw, k_uohg, k_uokn, k_uoon, k_uost, k_uocm, k_uwd, k_uwo, k_uob) => rg r (-1) 60000 ∧ SB fs_mm fs2_mm [39, 40, 41, 42, 43, 44, 45, 46, 47, 48, 49, 50, 51, 52, 53, 54, 60, 61, 62, 63, 64, 65, 66, 67, 68, 70, 71, 73] ∧ fs2_mm[39]? = some (.ref ukd) ∧ fs2_mm[40]? = some (.ref ulw) ∧ fs2_mm[41]? = some (.ref uhg) ∧ fs2_mm[42]? = some (.ref ukn) ∧ fs2_mm[43]? = some (.ref uon) ∧ fs2_mm[44]? = some (.ref ust) ∧ fs2_mm[45]? = some (.ref ucm) ∧ fs2_mm[46]? = some (.int x_mm_46) ∧ fs2_mm[47]? = some (.long y_mm_47) ∧ fs2_mm[48]? = some (.long y_mm_48) ∧ fs2_mm[49]? = some (.long y_mm_49) ∧ fs2_mm[50]? = some (.long y_mm_50) ∧ fs2_mm[51]? = some (.long y_mm_51) ∧ fs2_mm[52]? = some (.long y_mm_52) ∧ fs2_mm[53]? = some (.long y_mm_53) ∧ fs2_mm[54]? = some (.long y_mm_54) ∧ fs2_mm[60]? = some (.long y_mm_60) ∧ fs2_mm[61]? = some (.ref uokd) ∧ fs2_mm[62]? = some (.ref uolw) ∧ fs2_mm[63]? = some (.ref uohg) ∧ fs2_mm[64]? = some (.ref uokn) ∧ fs2_mm[65]? = some (.ref uoon) ∧ fs2_mm[66]? = some (.ref uost) ∧ fs2_mm[67]? = some (.ref uocm) ∧ rg y_mm_68 (-1) 3999 ∧ fs2_mm[68]? = some (.int y_mm_68) ∧ rg y_mm_70 0 60000 ∧ fs2_mm[70]? = some (.int y_mm_70) ∧ rg y_mm_71 0 1 ∧ fs2_mm[71]? = some (.int y_mm_71) ∧ rg y_mm_73 0 60000 ∧ fs2_mm[73]? = some (.int y_mm_73) ∧ Rg k_ukk 11 0 2 ∧ Rg k_uokd 44000 0 2 ∧ Rg k_uocm 4000 0 1 ∧ Rg k_uwo 4000 0 60000 ∧ (ULA k_ukl k_ukh) ∧ (ULA k_uolw k_uohg)) (fun (u : List Value × Int64 × Int64 × Int64 × Int64 × Int64 × Int64 × Int64 × Int64 × Int64 × Int32 × Int32 × Int32 × Int32 × (Nat → Int32) × (Nat → Int64) × (Nat → Int64) × (Nat → Int64) × (Nat → Int64) × (Nat → Int32) × (Nat → Int64) × (Nat → Int64) × (Nat → Int64) × (Nat → Int64) × (Nat → Int64) × (Nat → Int32) × (Nat → Int32) × (Nat → Int32) × (Nat → Int32)) => match u with | (fs2_mm, y_mm_47, y_mm_48, y_mm_49, y_mm_50, y_mm_51, y_mm_52, y_mm_53, y_mm_54, y_mm_60, y_mm_68, y_mm_70, y_mm_71, y_mm_73, k_ukk, k_ukl, k_ukh, k_uks, k_uko, k_uokd, k_uolw, k_uohg, k_uokn, k_uoon, k_uost, k_uocm, k_uwd, k_uwo, k_uob) => [(mm, .inr (16, fs2_mm)), (ukk, .inl (ct 1, 11, .inl k_ukk)), (ukl, .inl (ct 2, 11, .inr (.inl k_ukl))), (ukh, .inl (ct 2, 11, .inr (.inl k_ukh))), (uks, .inl (ct 2, 11, .inr (.inl k_uks))), (uko, .inl (ct 2, 11, .inr (.inl k_uko))), (uokd, .inl (ct 1, 44000, .inl k_uokd)), (uolw, .inl (ct 2, 44000, .inr (.inl k_uolw))), (uohg, .inl (ct 2, 44000, .inr (.inl k_uohg))), (uokn, .inl (ct 2, 44000, .inr (.inl k_uokn))), (uoon, .inl (ct 2, 44000, .inr (.inl k_uoon))), (uost, .inl (ct 2, 4000, .inr (.inl k_uost))), (uocm, .inl (ct 3, 4000, .inl k_uocm)), (upg, .inl (ct 2, PL, .inr (.inl g_upg))), (uwd, .inl (ct 1, 60000, .inl k_uwd)), (uwo, .inl (ct 1, 4000, .inl k_uwo)), (uob, .inl (ct 1, 60000, .inl k_uob))]) := by
  refine KIq_of (by decide) (Nat.le_of_ble_eq_true rfl) (fun p e s m below meth c A Q C0 hA H locs hS hP hD hQ ls hl => ?_)
  obtain ⟨hx, hb, hr, hown, hin, hml, hlocks, hn, hK, hZ, hSK⟩ := C0
  have hl : lv_has ls 6 [(0, .ref mm)] := hl
  replace hq0 := FF.mk hq0
  refine lv_aload_n hx hb dX16_translate_0 rfl (lv_at hl 0 rfl) ?_
  refine va_get (D := D) (ci := 16) (v := .int x_mm_27) (C := RX16) (T := TX16) (N := 78) hx hb (htX16 hn) (fun _ h => h) hown hK hP 0 rfl rfl 27 (by decide) (hn.get mw_1566 rfl) (fun _ h9 => h9) hf_mm_27 dX16_translate_1 ?_
  refine lv_if_ne (tgt := 9) hx hb dX16_translate_4 (by decide) (fun c4_1 => ?_) (fun c4_1 => ?_)
  · have t4_2 := FF.mk (i_ne c4_1)
    have r4_3 : rg x_mm_27 1 1 := rg_neAl t4_2 h_x_mm_27 (show rg (0 : Int32) 0 0 from rg_l (by decide)) (by decide)
    refine lv_aload_n hx hb dX16_translate_9 rfl (lv_at hl 0 rfl) ?_
    refine go_v (k1 := 0) (n1 := 0) (wr := [(ukk, .inl (ct 1, 11, .inl g_ukk)), (ukl, .inl (ct 2, 11, .inr (.inl g_ukl))), (ukh, .inl (ct 2, 11, .inr (.inl g_ukh))), (uks, .inl (ct 2, 11, .inr (.inl g_uks))), (uko, .inl (ct 2, 11, .inr (.inl g_uko))), (uokd, .inl (ct 1, 44000, .inl g_uokd)), (uolw, .inl (ct 2, 44000, .inr (.inl g_uolw))), (uohg, .inl (ct 2, 44000, .inr (.inl g_uohg))), (uokn, .inl (ct 2, 44000, .inr (.inl g_uokn))), (uoon, .inl (ct 2, 44000, .inr (.inl g_uoon))), (uost, .inl (ct 2, 4000, .inr (.inl g_uost))), (uocm, .inl (ct 3, 4000, .inl g_uocm)), (upg, .inl (ct 2, PL, .inr (.inl g_upg))), (uwd, .inl (ct 1, 60000, .inl g_uwd)), (uwo, .inl (ct 1, 4000, .inl g_uwo)), (uob, .inl (ct 1, 60000, .inl g_uob))]) [0] [1, 2, 3, 4, 5, 6, 7, 8, 9, 10, 11, 12, 13, 14, 15, 16] (rn_V (As := []) (rest := []) (c_X16_swap l D ct mm fs_mm ukd ulw uhg ukn uon ust ucm x_mm_46 uokd uolw uohg uokn uoon uost uocm x_mm_68 hlen_mm hf_mm_39 hf_mm_40 hf_mm_41 hf_mm_42 hf_mm_43 hf_mm_44 hf_mm_45 h_x_mm_46 hf_mm_46 hf_mm_61 hf_mm_62 hf_mm_63 hf_mm_64 hf_mm_65 hf_mm_66 hf_mm_67 h_x_mm_68 hf_mm_68 _) (cb_of (n := 0) hn mw_2564 mw_13 mw_2561 mhX16_swap ⟨(Nat.le_of_ble_eq_true rfl), (Nat.le_of_ble_eq_true rfl)⟩) hx hb hml hown hn hK hSK hZ hS mw_2563 mw_s255 (ci := 16) (q0 := 0) rfl rfl rfl rfl hl.1 (Nat.le_of_ble_eq_true rfl) dX16_translate_10 ⟨(Nat.le_of_ble_eq_true rfl), (Nat.le_of_ble_eq_true rfl)⟩) hP hD hS hA rfl rfl (by decide) (by decide) (by decide) (Nat.le_of_ble_eq_true rfl) (Nat.le_of_ble_eq_true rfl) (fun u10_2 H locs hp10_3 hP hD hS => ?_)
    obtain ⟨hp10_4, hp10_5, hp10_6, hp10_7, hp10_8, hp10_9, hp10_10, hp10_11, hp10_12, hp10_13, hp10_14, hp10_15, hp10_16, hp10_17, hp10_18, hp10_19, hp10_20⟩ := hp10_3
    have hs10_21 : SB fs_mm u10_2 [39, 40, 41, 42, 43, 44, 45, 46, 47, 48, 49, 50, 51, 52, 53, 54, 60, 61, 62, 63, 64, 65, 66, 67, 68, 70, 71, 73] := SB.trans (SB.rf _ _) hp10_4 (by decide)
    have hf10_22 : u10_2[47]? = some (.long x_mm_47) := SB.get hp10_4 (by decide) hf_mm_47
    have hf10_23 : u10_2[48]? = some (.long x_mm_48) := SB.get hp10_4 (by decide) hf_mm_48
    have hf10_24 : u10_2[49]? = some (.long x_mm_49) := SB.get hp10_4 (by decide) hf_mm_49
    have hf10_25 : u10_2[50]? = some (.long x_mm_50) := SB.get hp10_4 (by decide) hf_mm_50
    have hf10_26 : u10_2[51]? = some (.long x_mm_51) := SB.get hp10_4 (by decide) hf_mm_51
    have hf10_27 : u10_2[52]? = some (.long x_mm_52) := SB.get hp10_4 (by decide) hf_mm_52
    have hf10_28 : u10_2[53]? = some (.long x_mm_53) := SB.get hp10_4 (by decide) hf_mm_53
    have hf10_29 : u10_2[54]? = some (.long x_mm_54) := SB.get hp10_4 (by decide) hf_mm_54
    have hf10_30 : u10_2[60]? = some (.long x_mm_60) := SB.get hp10_4 (by decide) hf_mm_60
    have hf10_31 : u10_2[70]? = some (.int x_mm_70) := SB.get hp10_4 (by decide) hf_mm_70
    have hf10_32 : u10_2[71]? = some (.int x_mm_71) := SB.get hp10_4 (by decide) hf_mm_71
    have hf10_33 : u10_2[73]? = some (.int x_mm_73) := SB.get hp10_4 (by decide) hf_mm_73
    have hP : va_P D vwCl [(ukk, .inl (ct 1, 11, .inl g_ukk)), (ukl, .inl (ct 2, 11, .inr (.inl g_ukl))), (ukh, .inl (ct 2, 11, .inr (.inl g_ukh))), (uks, .inl (ct 2, 11, .inr (.inl g_uks))), (uko, .inl (ct 2, 11, .inr (.inl g_uko))), (uokd, .inl (ct 1, 44000, .inl g_uokd)), (uolw, .inl (ct 2, 44000, .inr (.inl g_uolw))), (uohg, .inl (ct 2, 44000, .inr (.inl g_uohg))), (uokn, .inl (ct 2, 44000, .inr (.inl g_uokn))), (uoon, .inl (ct 2, 44000, .inr (.inl g_uoon))), (uost, .inl (ct 2, 4000, .inr (.inl g_uost))), (uocm, .inl (ct 3, 4000, .inl g_uocm)), (upg, .inl (ct 2, PL, .inr (.inl g_upg))), (uwd, .inl (ct 1, 60000, .inl g_uwd)), (uwo, .inl (ct 1, 4000, .inl g_uwo)), (uob, .inl (ct 1, 60000, .inl g_uob)), (mm, .inr (16, u10_2))] _ := hP
    have hD : va_D A [(ukk, .inl (ct 1, 11, .inl g_ukk)), (ukl, .inl (ct 2, 11, .inr (.inl g_ukl))), (ukh, .inl (ct 2, 11, .inr (.inl g_ukh))), (uks, .inl (ct 2, 11, .inr (.inl g_uks))), (uko, .inl (ct 2, 11, .inr (.inl g_uko))), (uokd, .inl (ct 1, 44000, .inl g_uokd)), (uolw, .inl (ct 2, 44000, .inr (.inl g_uolw))), (uohg, .inl (ct 2, 44000, .inr (.inl g_uohg))), (uokn, .inl (ct 2, 44000, .inr (.inl g_uokn))), (uoon, .inl (ct 2, 44000, .inr (.inl g_uoon))), (uost, .inl (ct 2, 4000, .inr (.inl g_uost))), (uocm, .inl (ct 3, 4000, .inl g_uocm)), (upg, .inl (ct 2, PL, .inr (.inl g_upg))), (uwd, .inl (ct 1, 60000, .inl g_uwd)), (uwo, .inl (ct 1, 4000, .inl g_uwo)), (uob, .inl (ct 1, 60000, .inl g_uob)), (mm, .inr (16, u10_2))] := hD
    refine lv_aload_n hx hb dX16_translate_13 rfl (lv_at hl 0 rfl) ?_
    refine go_i (k1 := 0) (n1 := 0) (wr := [(uwd, .inl (ct 1, 60000, .inl g_uwd)), (uwo, .inl (ct 1, 4000, .inl g_uwo)), (uob, .inl (ct 1, 60000, .inl g_uob))]) [16, 0, 1, 2, 3, 4, 5, 6, 7, 8, 9, 10, 11, 12] [13, 14, 15] (rn_V (As := []) (rest := []) (c_X16_lookThrough l D ct mm u10_2 upg uokd uolw uohg uokn uoon uost uocm x_mm_47 x_mm_48 x_mm_49 x_mm_50 x_mm_51 x_mm_52 x_mm_53 x_mm_54 ukk ukl ukh uks uko x_mm_60 g_ukk g_ukl g_ukh g_uks g_uko g_uokd g_uolw g_uohg g_uokn g_uoon g_uost g_uocm g_upg PL (hs10_21.1.trans hlen_mm) (SB.get hs10_21 (by decide) hf_mm_26) hp10_5 hp10_6 hp10_7 hp10_8 hp10_9 hp10_10 hp10_11 hf10_22 hf10_23 hf10_24 hf10_25 hf10_26 hf10_27 hf10_28 hf10_29 (SB.get hs10_21 (by decide) hf_mm_55) (SB.get hs10_21 (by decide) hf_mm_56) (SB.get hs10_21 (by decide) hf_mm_57) (SB.get hs10_21 (by decide) hf_mm_58) (SB.get hs10_21 (by decide) hf_mm_59) hf10_30 h_g_ukk h_g_uokd h_g_uocm (show ((PL : Nat) : Int) ≤ 4000 by have q0 := FF.out hq0; omega) hg0 hg1 _) (cb_of (n := 0) hn mw_2416 mw_13 mw_2413 mhX16_lookThrough ⟨(Nat.le_of_ble_eq_true rfl), (Nat.le_of_ble_eq_true rfl)⟩) hx hb hml hown hn hK hSK hZ hS mw_2415 mw_s226 (ci := 16) (q0 := 0) rfl rfl rfl rfl hl.1 (Nat.le_of_ble_eq_true rfl) dX16_translate_14 ⟨(Nat.le_of_ble_eq_true rfl), (Nat.le_of_ble_eq_true rfl)⟩) hP hD hS hA rfl rfl (by decide) (by decide) (by decide) (Nat.le_of_ble_eq_true rfl) (Nat.le_of_ble_eq_true rfl) (fun r14_1 u14_2 H locs hp14_3 hP hD hS => ?_)
    obtain ⟨fs2_mm14_4, y_mm_4614_5, y_mm_4714_6, y_mm_4814_7, y_mm_4914_8, y_mm_5014_9, y_mm_5114_10, y_mm_5214_11, y_mm_5314_12, y_mm_5414_13, y_mm_6014_14, k_ukk14_15, k_ukl14_16, k_ukh14_17, k_uks14_18, k_uko14_19, k_ukd14_20, k_ulw14_21, k_uhg14_22, k_ukn14_23, k_uon14_24, k_ust14_25, k_ucm14_26⟩ := u14_2
    obtain ⟨hp14_27, hp14_28, hp14_29, hp14_30, hp14_31, hp14_32, hp14_33, hp14_34, hp14_35, hp14_36, hp14_37, hp14_38, hp14_39, hp14_40, hp14_41, hp14_42, hp14_43, hp14_44, hp14_45⟩ := hp14_3
    have hs14_46 : SB fs_mm fs2_mm14_4 [39, 40, 41, 42, 43, 44, 45, 46, 47, 48, 49, 50, 51, 52, 53, 54, 60, 61, 62, 63, 64, 65, 66, 67, 68, 70, 71, 73] := SB.trans hs10_21 hp14_28 (by decide)
    have hf14_47 : fs2_mm14_4[70]? = some (.int x_mm_70) := SB.get hp14_28 (by decide) hf10_31
    have hf14_48 : fs2_mm14_4[71]? = some (.int x_mm_71) := SB.get hp14_28 (by decide) hf10_32
    have hf14_49 : fs2_mm14_4[73]? = some (.int x_mm_73) := SB.get hp14_28 (by decide) hf10_33
    have hf14_50 : fs2_mm14_4[39]? = some (.ref uokd) := SB.get hp14_28 (by decide) hp10_5
    have hf14_51 : fs2_mm14_4[40]? = some (.ref uolw) := SB.get hp14_28 (by decide) hp10_6
    have hf14_52 : fs2_mm14_4[41]? = some (.ref uohg) := SB.get hp14_28 (by decide) hp10_7
    have hf14_53 : fs2_mm14_4[42]? = some (.ref uokn) := SB.get hp14_28 (by decide) hp10_8
    have hf14_54 : fs2_mm14_4[43]? = some (.ref uoon) := SB.get hp14_28 (by decide) hp10_9
    have hf14_55 : fs2_mm14_4[44]? = some (.ref uost) := SB.get hp14_28 (by decide) hp10_10
    have hf14_56 : fs2_mm14_4[45]? = some (.ref uocm) := SB.get hp14_28 (by decide) hp10_11
    have hf14_57 : fs2_mm14_4[61]? = some (.ref ukd) := SB.get hp14_28 (by decide) hp10_13
    have hf14_58 : fs2_mm14_4[62]? = some (.ref ulw) := SB.get hp14_28 (by decide) hp10_14
    have hf14_59 : fs2_mm14_4[63]? = some (.ref uhg) := SB.get hp14_28 (by decide) hp10_15
    have hf14_60 : fs2_mm14_4[64]? = some (.ref ukn) := SB.get hp14_28 (by decide) hp10_16
    have hf14_61 : fs2_mm14_4[65]? = some (.ref uon) := SB.get hp14_28 (by decide) hp10_17
    have hf14_62 : fs2_mm14_4[66]? = some (.ref ust) := SB.get hp14_28 (by decide) hp10_18
    have hf14_63 : fs2_mm14_4[67]? = some (.ref ucm) := SB.get hp14_28 (by decide) hp10_19
    have hf14_64 : fs2_mm14_4[68]? = some (.int x_mm_46) := SB.get hp14_28 (by decide) hp10_20
    have hp14_27 : rg r14_1 0 63991 := hp14_27
    have hp14_29 : rg y_mm_4614_5 (-1) 3999 := hp14_29
    have hp14_43 : r14_1.toInt = 0 → OkG g_upg ((PL : Nat) : Int) ((PL : Nat) : Int) := hp14_43
    have hp14_44 : ULA k_ukl14_16 k_ukh14_17 := hp14_44
    have hp14_45 : ULA k_ulw14_21 k_uhg14_22 := hp14_45
    have hP : va_P D vwCl [(uwd, .inl (ct 1, 60000, .inl g_uwd)), (uwo, .inl (ct 1, 4000, .inl g_uwo)), (uob, .inl (ct 1, 60000, .inl g_uob)), (mm, .inr (16, fs2_mm14_4)), (ukk, .inl (ct 1, 11, .inl k_ukk14_15)), (ukl, .inl (ct 2, 11, .inr (.inl k_ukl14_16))), (ukh, .inl (ct 2, 11, .inr (.inl k_ukh14_17))), (uks, .inl (ct 2, 11, .inr (.inl k_uks14_18))), (uko, .inl (ct 2, 11, .inr (.inl k_uko14_19))), (uokd, .inl (ct 1, 44000, .inl k_ukd14_20)), (uolw, .inl (ct 2, 44000, .inr (.inl k_ulw14_21))), (uohg, .inl (ct 2, 44000, .inr (.inl k_uhg14_22))), (uokn, .inl (ct 2, 44000, .inr (.inl k_ukn14_23))), (uoon, .inl (ct 2, 44000, .inr (.inl k_uon14_24))), (uost, .inl (ct 2, 4000, .inr (.inl k_ust14_25))), (uocm, .inl (ct 3, 4000, .inl k_ucm14_26)), (upg, .inl (ct 2, PL, .inr (.inl g_upg)))] _ := hP
    have hD : va_D A [(uwd, .inl (ct 1, 60000, .inl g_uwd)), (uwo, .inl (ct 1, 4000, .inl g_uwo)), (uob, .inl (ct 1, 60000, .inl g_uob)), (mm, .inr (16, fs2_mm14_4)), (ukk, .inl (ct 1, 11, .inl k_ukk14_15)), (ukl, .inl (ct 2, 11, .inr (.inl k_ukl14_16))), (ukh, .inl (ct 2, 11, .inr (.inl k_ukh14_17))), (uks, .inl (ct 2, 11, .inr (.inl k_uks14_18))), (uko, .inl (ct 2, 11, .inr (.inl k_uko14_19))), (uokd, .inl (ct 1, 44000, .inl k_ukd14_20)), (uolw, .inl (ct 2, 44000, .inr (.inl k_ulw14_21))), (uohg, .inl (ct 2, 44000, .inr (.inl k_uhg14_22))), (uokn, .inl (ct 2, 44000, .inr (.inl k_ukn14_23))), (uoon, .inl (ct 2, 44000, .inr (.inl k_uon14_24))), (uost, .inl (ct 2, 4000, .inr (.inl k_ust14_25))), (uocm, .inl (ct 3, 4000, .inl k_ucm14_26)), (upg, .inl (ct 2, PL, .inr (.inl g_upg)))] := hD
    refine lv_istore_n (lv' := [(1, .int r14_1), (0, .ref mm)]) hx hb dX16_translate_17 rfl hl (by decide) rfl (fun ls hl => ?_)
    refine lv_aload_n hx hb dX16_translate_18 rfl (lv_at hl 1 rfl) ?_
    refine go_v (k1 := 0) (n1 := 0) (wr := [(uwd, .inl (ct 1, 60000, .inl g_uwd)), (uwo, .inl (ct 1, 4000, .inl g_uwo)), (uob, .inl (ct 1, 60000, .inl g_uob)), (ukk, .inl (ct 1, 11, .inl k_ukk14_15)), (ukl, .inl (ct 2, 11, .inr (.inl k_ukl14_16))), (ukh, .inl (ct 2, 11, .inr (.inl k_ukh14_17))), (uks, .inl (ct 2, 11, .inr (.inl k_uks14_18))), (uko, .inl (ct 2, 11, .inr (.inl k_uko14_19))), (uokd, .inl (ct 1, 44000, .inl k_ukd14_20)), (uolw, .inl (ct 2, 44000, .inr (.inl k_ulw14_21))), (uohg, .inl (ct 2, 44000, .inr (.inl k_uhg14_22))), (uokn, .inl (ct 2, 44000, .inr (.inl k_ukn14_23))), (uoon, .inl (ct 2, 44000, .inr (.inl k_uon14_24))), (uost, .inl (ct 2, 4000, .inr (.inl k_ust14_25))), (uocm, .inl (ct 3, 4000, .inl k_ucm14_26)), (upg, .inl (ct 2, PL, .inr (.inl g_upg)))]) [3] [0, 1, 2, 4, 5, 6, 7, 8, 9, 10, 11, 12, 13, 14, 15, 16] (rn_V (As := []) (rest := []) (c_X16_swap l D ct mm fs2_mm14_4 uokd uolw uohg uokn uoon uost uocm y_mm_4614_5 ukd ulw uhg ukn uon ust ucm x_mm_46 (hs14_46.1.trans hlen_mm) hf14_50 hf14_51 hf14_52 hf14_53 hf14_54 hf14_55 hf14_56 hp14_29 hp14_30 hf14_57 hf14_58 hf14_59 hf14_60 hf14_61 hf14_62 hf14_63 h_x_mm_46 hf14_64 _) (cb_of (n := 0) hn mw_2564 mw_13 mw_2561 mhX16_swap ⟨(Nat.le_of_ble_eq_true rfl), (Nat.le_of_ble_eq_true rfl)⟩) hx hb hml hown hn hK hSK hZ hS mw_2563 mw_s255 (ci := 16) (q0 := 0) rfl rfl rfl rfl hl.1 (Nat.le_of_ble_eq_true rfl) dX16_translate_19 ⟨(Nat.le_of_ble_eq_true rfl), (Nat.le_of_ble_eq_true rfl)⟩) hP hD hS hA rfl rfl (by decide) (by decide) (by decide) (Nat.le_of_ble_eq_true rfl) (Nat.le_of_ble_eq_true rfl) (fun u19_2 H locs hp19_3 hP hD hS => ?_)
    obtain ⟨hp19_4, hp19_5, hp19_6, hp19_7, hp19_8, hp19_9, hp19_10, hp19_11, hp19_12, hp19_13, hp19_14, hp19_15, hp19_16, hp19_17, hp19_18, hp19_19, hp19_20⟩ := hp19_3
    have hs19_21 : SB fs_mm u19_2 [39, 40, 41, 42, 43, 44, 45, 46, 47, 48, 49, 50, 51, 52, 53, 54, 60, 61, 62, 63, 64, 65, 66, 67, 68, 70, 71, 73] := SB.trans hs14_46 hp19_4 (by decide)
    have hf19_22 : u19_2[70]? = some (.int x_mm_70) := SB.get hp19_4 (by decide) hf14_47
    have hf19_23 : u19_2[71]? = some (.int x_mm_71) := SB.get hp19_4 (by decide) hf14_48
    have hf19_24 : u19_2[73]? = some (.int x_mm_73) := SB.get hp19_4 (by decide) hf14_49
    have hf19_25 : u19_2[47]? = some (.long y_mm_4714_6) := SB.get hp19_4 (by decide) hp14_31
    have hf19_26 : u19_2[48]? = some (.long y_mm_4814_7) := SB.get hp19_4 (by decide) hp14_32
    have hf19_27 : u19_2[49]? = some (.long y_mm_4914_8) := SB.get hp19_4 (by decide) hp14_33
    have hf19_28 : u19_2[50]? = some (.long y_mm_5014_9) := SB.get hp19_4 (by decide) hp14_34
    have hf19_29 : u19_2[51]? = some (.long y_mm_5114_10) := SB.get hp19_4 (by decide) hp14_35
    have hf19_30 : u19_2[52]? = some (.long y_mm_5214_11) := SB.get hp19_4 (by decide) hp14_36
    have hf19_31 : u19_2[53]? = some (.long y_mm_5314_12) := SB.get hp19_4 (by decide) hp14_37
    have hf19_32 : u19_2[54]? = some (.long y_mm_5414_13) := SB.get hp19_4 (by decide) hp14_38
    have hf19_33 : u19_2[60]? = some (.long y_mm_6014_14) := SB.get hp19_4 (by decide) hp14_39
    have hP : va_P D vwCl [(uwd, .inl (ct 1, 60000, .inl g_uwd)), (uwo, .inl (ct 1, 4000, .inl g_uwo)), (uob, .inl (ct 1, 60000, .inl g_uob)), (ukk, .inl (ct 1, 11, .inl k_ukk14_15)), (ukl, .inl (ct 2, 11, .inr (.inl k_ukl14_16))), (ukh, .inl (ct 2, 11, .inr (.inl k_ukh14_17))), (uks, .inl (ct 2, 11, .inr (.inl k_uks14_18))), (uko, .inl (ct 2, 11, .inr (.inl k_uko14_19))), (uokd, .inl (ct 1, 44000, .inl k_ukd14_20)), (uolw, .inl (ct 2, 44000, .inr (.inl k_ulw14_21))), (uohg, .inl (ct 2, 44000, .inr (.inl k_uhg14_22))), (uokn, .inl (ct 2, 44000, .inr (.inl k_ukn14_23))), (uoon, .inl (ct 2, 44000, .inr (.inl k_uon14_24))), (uost, .inl (ct 2, 4000, .inr (.inl k_ust14_25))), (uocm, .inl (ct 3, 4000, .inl k_ucm14_26)), (upg, .inl (ct 2, PL, .inr (.inl g_upg))), (mm, .inr (16, u19_2))] _ := hP
    have hD : va_D A [(uwd, .inl (ct 1, 60000, .inl g_uwd)), (uwo, .inl (ct 1, 4000, .inl g_uwo)), (uob, .inl (ct 1, 60000, .inl g_uob)), (ukk, .inl (ct 1, 11, .inl k_ukk14_15)), (ukl, .inl (ct 2, 11, .inr (.inl k_ukl14_16))), (ukh, .inl (ct 2, 11, .inr (.inl k_ukh14_17))), (uks, .inl (ct 2, 11, .inr (.inl k_uks14_18))), (uko, .inl (ct 2, 11, .inr (.inl k_uko14_19))), (uokd, .inl (ct 1, 44000, .inl k_ukd14_20)), (uolw, .inl (ct 2, 44000, .inr (.inl k_ulw14_21))), (uohg, .inl (ct 2, 44000, .inr (.inl k_uhg14_22))), (uokn, .inl (ct 2, 44000, .inr (.inl k_ukn14_23))), (uoon, .inl (ct 2, 44000, .inr (.inl k_uon14_24))), (uost, .inl (ct 2, 4000, .inr (.inl k_ust14_25))), (uocm, .inl (ct 3, 4000, .inl k_ucm14_26)), (upg, .inl (ct 2, PL, .inr (.inl g_upg))), (mm, .inr (16, u19_2))] := hD
    refine lv_iload_n hx hb dX16_translate_22 rfl (lv_at hl 0 rfl) ?_
    refine lv_if_eq (tgt := 28) hx hb dX16_translate_23 (by decide) (fun c23_1 => ?_) (fun c23_1 => ?_)
    · have t23_2 := FF.mk (i_eq c23_1)
      have r23_3 : rg r14_1 0 0 := rg_eqA t23_2 hp14_27 (show rg (0 : Int32) 0 0 from rg_l (by decide)) (by decide)
      have hO28_1 : OkG g_upg ((PL : Nat) : Int) ((PL : Nat) : Int) := hp14_43 (show r14_1.toInt = 0 by have q0 := r23_3.1; have q1 := r23_3.2; omega)
      refine lv_aload_n hx hb dX16_translate_28 rfl (lv_at hl 1 rfl) ?_
      refine va_get (D := D) (ci := 16) (v := .ref upg) (C := RX16) (T := TX16) (N := 78) hx hb (htX16 hn) (fun _ h => h) hown hK hP 16 rfl rfl 26 (by decide) (hn.get mw_1565 rfl) (fun _ h9 => h9) (SB.get hs19_21 (by decide) hf_mm_26) dX16_translate_29 ?_
      refine va_alen hx hb hK hP 15 2 rfl rfl rfl dX16_translate_32 ?_
      refine lv_topi (fun z32_1 ez32_1 => ?_)
      have r32_2 : rg z32_1 0 4000 := rg_len ez32_1 (nat4 (FF.out hq0)) (by decide)
      refine lv_istore_n (lv' := [(2, .int z32_1), (1, .int r14_1), (0, .ref mm)]) hx hb dX16_translate_33 rfl hl (by decide) rfl (fun ls hl => ?_)
      refine lv_aload_n hx hb dX16_translate_34 rfl (lv_at hl 2 rfl) ?_
      refine lv_iconst (v := 0) hx hb dX16_translate_35 (by decide) ?_
      refine va_put (D := D) (ci := 16) (v := .int 0) (ty := .int) (C := RX16) (T := TX16) (N := 78) hx hb (htX16 hn) (fun _ h => h) tyX16 tyX16_ok nmX16 hown hK hP hD hS 16 rfl rfl 73 (by decide) (hn.get mw_1612 rfl) (fun _ h9 => h9) rfl (by decide +kernel) rfl rfl (by rw [hs19_21.1, hlen_mm]; decide) dX16_translate_36 (fun H locs hP hD hS => ?_)
      have hP : va_P D vwCl [(uwd, .inl (ct 1, 60000, .inl g_uwd)), (uwo, .inl (ct 1, 4000, .inl g_uwo)), (uob, .inl (ct 1, 60000, .inl g_uob)), (ukk, .inl (ct 1, 11, .inl k_ukk14_15)), (ukl, .inl (ct 2, 11, .inr (.inl k_ukl14_16))), (ukh, .inl (ct 2, 11, .inr (.inl k_ukh14_17))), (uks, .inl (ct 2, 11, .inr (.inl k_uks14_18))), (uko, .inl (ct 2, 11, .inr (.inl k_uko14_19))), (uokd, .inl (ct 1, 44000, .inl k_ukd14_20)), (uolw, .inl (ct 2, 44000, .inr (.inl k_ulw14_21))), (uohg, .inl (ct 2, 44000, .inr (.inl k_uhg14_22))), (uokn, .inl (ct 2, 44000, .inr (.inl k_ukn14_23))), (uoon, .inl (ct 2, 44000, .inr (.inl k_uon14_24))), (uost, .inl (ct 2, 4000, .inr (.inl k_ust14_25))), (uocm, .inl (ct 3, 4000, .inl k_ucm14_26)), (upg, .inl (ct 2, PL, .inr (.inl g_upg))), (mm, .inr (16, (u19_2.set 73 (.int 0))))] _ := hP
      have hD : va_D A [(uwd, .inl (ct 1, 60000, .inl g_uwd)), (uwo, .inl (ct 1, 4000, .inl g_uwo)), (uob, .inl (ct 1, 60000, .inl g_uob)), (ukk, .inl (ct 1, 11, .inl k_ukk14_15)), (ukl, .inl (ct 2, 11, .inr (.inl k_ukl14_16))), (ukh, .inl (ct 2, 11, .inr (.inl k_ukh14_17))), (uks, .inl (ct 2, 11, .inr (.inl k_uks14_18))), (uko, .inl (ct 2, 11, .inr (.inl k_uko14_19))), (uokd, .inl (ct 1, 44000, .inl k_ukd14_20)), (uolw, .inl (ct 2, 44000, .inr (.inl k_ulw14_21))), (uohg, .inl (ct 2, 44000, .inr (.inl k_uhg14_22))), (uokn, .inl (ct 2, 44000, .inr (.inl k_ukn14_23))), (uoon, .inl (ct 2, 44000, .inr (.inl k_uon14_24))), (uost, .inl (ct 2, 4000, .inr (.inl k_ust14_25))), (uocm, .inl (ct 3, 4000, .inl k_ucm14_26)), (upg, .inl (ct 2, PL, .inr (.inl g_upg))), (mm, .inr (16, (u19_2.set 73 (.int 0))))] := hD
      obtain ⟨m36_1, em36_1⟩ : ∃ z, z = (u19_2.set 73 (.int 0)) := ⟨_, rfl⟩
      rw [← em36_1] at hP hD
      have hsm36_1 : SB fs_mm m36_1 [39, 40, 41, 42, 43, 44, 45, 46, 47, 48, 49, 50, 51, 52, 53, 54, 60, 61, 62, 63, 64, 65, 66, 67, 68, 70, 71, 73] := by rw [em36_1]; exact SB.set hs19_21 (by decide)
      have hfm36_1_70 : m36_1[70]? = some (.int x_mm_70) := by rw [em36_1]; exact fs_ne (by decide) hf19_22
      have hfm36_1_71 : m36_1[71]? = some (.int x_mm_71) := by rw [em36_1]; exact fs_ne (by decide) hf19_23
      have hfm36_1_47 : m36_1[47]? = some (.long y_mm_4714_6) := by rw [em36_1]; exact fs_ne (by decide) hf19_25
      have hfm36_1_48 : m36_1[48]? = some (.long y_mm_4814_7) := by rw [em36_1]; exact fs_ne (by decide) hf19_26
      have hfm36_1_49 : m36_1[49]? = some (.long y_mm_4914_8) := by rw [em36_1]; exact fs_ne (by decide) hf19_27
      have hfm36_1_50 : m36_1[50]? = some (.long y_mm_5014_9) := by rw [em36_1]; exact fs_ne (by decide) hf19_28
      have hfm36_1_51 : m36_1[51]? = some (.long y_mm_5114_10) := by rw [em36_1]; exact fs_ne (by decide) hf19_29
      have hfm36_1_52 : m36_1[52]? = some (.long y_mm_5214_11) := by rw [em36_1]; exact fs_ne (by decide) hf19_30
      have hfm36_1_53 : m36_1[53]? = some (.long y_mm_5314_12) := by rw [em36_1]; exact fs_ne (by decide) hf19_31
      have hfm36_1_54 : m36_1[54]? = some (.long y_mm_5414_13) := by rw [em36_1]; exact fs_ne (by decide) hf19_32
      have hfm36_1_60 : m36_1[60]? = some (.long y_mm_6014_14) := by rw [em36_1]; exact fs_ne (by decide) hf19_33
      have hfm36_1_39 : m36_1[39]? = some (.ref ukd) := by rw [em36_1]; exact fs_ne (by decide) hp19_5
      have hfm36_1_40 : m36_1[40]? = some (.ref ulw) := by rw [em36_1]; exact fs_ne (by decide) hp19_6
      have hfm36_1_41 : m36_1[41]? = some (.ref uhg) := by rw [em36_1]; exact fs_ne (by decide) hp19_7
      have hfm36_1_42 : m36_1[42]? = some (.ref ukn) := by rw [em36_1]; exact fs_ne (by decide) hp19_8
      have hfm36_1_43 : m36_1[43]? = some (.ref uon) := by rw [em36_1]; exact fs_ne (by decide) hp19_9
      have hfm36_1_44 : m36_1[44]? = some (.ref ust) := by rw [em36_1]; exact fs_ne (by decide) hp19_10
      have hfm36_1_45 : m36_1[45]? = some (.ref ucm) := by rw [em36_1]; exact fs_ne (by decide) hp19_11
      have hfm36_1_46 : m36_1[46]? = some (.int x_mm_46) := by rw [em36_1]; exact fs_ne (by decide) hp19_12
      have hfm36_1_61 : m36_1[61]? = some (.ref uokd) := by rw [em36_1]; exact fs_ne (by decide) hp19_13
      have hfm36_1_62 : m36_1[62]? = some (.ref uolw) := by rw [em36_1]; exact fs_ne (by decide) hp19_14
      have hfm36_1_63 : m36_1[63]? = some (.ref uohg) := by rw [em36_1]; exact fs_ne (by decide) hp19_15
      have hfm36_1_64 : m36_1[64]? = some (.ref uokn) := by rw [em36_1]; exact fs_ne (by decide) hp19_16
      have hfm36_1_65 : m36_1[65]? = some (.ref uoon) := by rw [em36_1]; exact fs_ne (by decide) hp19_17
      have hfm36_1_66 : m36_1[66]? = some (.ref uost) := by rw [em36_1]; exact fs_ne (by decide) hp19_18
      have hfm36_1_67 : m36_1[67]? = some (.ref uocm) := by rw [em36_1]; exact fs_ne (by decide) hp19_19
      have hfm36_1_68 : m36_1[68]? = some (.int y_mm_4614_5) := by rw [em36_1]; exact fs_ne (by decide) hp19_20
      have hfm36_1_73 : m36_1[73]? = some (.int 0) := by rw [em36_1]; exact fs_eq (by rw [hs19_21.1, hlen_mm]; decide)
      have hP : va_P D vwCl [(uwd, .inl (ct 1, 60000, .inl g_uwd)), (uwo, .inl (ct 1, 4000, .inl g_uwo)), (uob, .inl (ct 1, 60000, .inl g_uob)), (ukk, .inl (ct 1, 11, .inl k_ukk14_15)), (ukl, .inl (ct 2, 11, .inr (.inl k_ukl14_16))), (ukh, .inl (ct 2, 11, .inr (.inl k_ukh14_17))), (uks, .inl (ct 2, 11, .inr (.inl k_uks14_18))), (uko, .inl (ct 2, 11, .inr (.inl k_uko14_19))), (uokd, .inl (ct 1, 44000, .inl k_ukd14_20)), (uolw, .inl (ct 2, 44000, .inr (.inl k_ulw14_21))), (uohg, .inl (ct 2, 44000, .inr (.inl k_uhg14_22))), (uokn, .inl (ct 2, 44000, .inr (.inl k_ukn14_23))), (uoon, .inl (ct 2, 44000, .inr (.inl k_uon14_24))), (uost, .inl (ct 2, 4000, .inr (.inl k_ust14_25))), (uocm, .inl (ct 3, 4000, .inl k_ucm14_26)), (upg, .inl (ct 2, PL, .inr (.inl g_upg))), (mm, .inr (16, m36_1))] _ := hP
      have hD : va_D A [(uwd, .inl (ct 1, 60000, .inl g_uwd)), (uwo, .inl (ct 1, 4000, .inl g_uwo)), (uob, .inl (ct 1, 60000, .inl g_uob)), (ukk, .inl (ct 1, 11, .inl k_ukk14_15)), (ukl, .inl (ct 2, 11, .inr (.inl k_ukl14_16))), (ukh, .inl (ct 2, 11, .inr (.inl k_ukh14_17))), (uks, .inl (ct 2, 11, .inr (.inl k_uks14_18))), (uko, .inl (ct 2, 11, .inr (.inl k_uko14_19))), (uokd, .inl (ct 1, 44000, .inl k_ukd14_20)), (uolw, .inl (ct 2, 44000, .inr (.inl k_ulw14_21))), (uohg, .inl (ct 2, 44000, .inr (.inl k_uhg14_22))), (uokn, .inl (ct 2, 44000, .inr (.inl k_ukn14_23))), (uoon, .inl (ct 2, 44000, .inr (.inl k_uon14_24))), (uost, .inl (ct 2, 4000, .inr (.inl k_ust14_25))), (uocm, .inl (ct 3, 4000, .inl k_ucm14_26)), (upg, .inl (ct 2, PL, .inr (.inl g_upg))), (mm, .inr (16, m36_1))] := hD
      refine lv_iconst (v := 0) hx hb dX16_translate_39 (by decide) ?_
      refine lv_istore_n (lv' := [(3, .int 0), (2, .int z32_1), (1, .int r14_1), (0, .ref mm)]) hx hb dX16_translate_40 rfl hl (by decide) rfl (fun ls hl => ?_)
      have b41 : ∀ (n41 : Nat) (j41_l3 : Int32) (j41_cuwd : Nat → Int32) (j41_cuwo : Nat → Int32) (j41_amm : List Value) (j41_fmm_73 : Int32) (H : Heap) (locs : List Loc) (ls : Array Slot), (rg j41_l3 0 4000) → (Rg j41_cuwo 4000 0 60000) → (SB fs_mm j41_amm [39, 40, 41, 42, 43, 44, 45, 46, 47, 48, 49, 50, 51, 52, 53, 54, 60, 61, 62, 63, 64, 65, 66, 67, 68, 70, 71, 73]) → (j41_amm[70]? = some (.int x_mm_70)) → (j41_amm[71]? = some (.int x_mm_71)) → (j41_amm[47]? = some (.long y_mm_4714_6)) → (j41_amm[48]? = some (.long y_mm_4814_7)) → (j41_amm[49]? = some (.long y_mm_4914_8)) → (j41_amm[50]? = some (.long y_mm_5014_9)) → (j41_amm[51]? = some (.long y_mm_5114_10)) → (j41_amm[52]? = some (.long y_mm_5214_11)) → (j41_amm[53]? = some (.long y_mm_5314_12)) → (j41_amm[54]? = some (.long y_mm_5414_13)) → (j41_amm[60]? = some (.long y_mm_6014_14)) → (j41_amm[39]? = some (.ref ukd)) → (j41_amm[40]? = some (.ref ulw)) → (j41_amm[41]? = some (.ref uhg)) → (j41_amm[42]? = some (.ref ukn)) → (j41_amm[43]? = some (.ref uon)) → (j41_amm[44]? = some (.ref ust)) → (j41_amm[45]? = some (.ref ucm)) → (j41_amm[46]? = some (.int x_mm_46)) → (j41_amm[61]? = some (.ref uokd)) → (j41_amm[62]? = some (.ref uolw)) → (j41_amm[63]? = some (.ref uohg)) → (j41_amm[64]? = some (.ref uokn)) → (j41_amm[65]? = some (.ref uoon)) → (j41_amm[66]? = some (.ref uost)) → (j41_amm[67]? = some (.ref uocm)) → (j41_amm[68]? = some (.int y_mm_4614_5)) → (rg j41_fmm_73 0 60000) → (j41_amm[73]? = some (.int j41_fmm_73)) → (WOk j41_cuwo j41_l3.toInt) → (FF (j41_fmm_73.toInt ≤ 14 * j41_l3.toInt + 6 * ((C4 g_upg j41_l3.toNatClampNeg : Nat) : Int) ∧ j41_l3.toInt ≤ j41_fmm_73.toInt)) → ((2147483647 : Int) - j41_l3.toInt).toNat < n41 → lv_has ls 6 [(0, .ref mm), (2, .int z32_1), (3, .int j41_l3)] → va_P D vwCl [(uwd, .inl (ct 1, 60000, .inl j41_cuwd)), (uwo, .inl (ct 1, 4000, .inl j41_cuwo)), (uob, .inl (ct 1, 60000, .inl g_uob)), (ukk, .inl (ct 1, 11, .inl k_ukk14_15)), (ukl, .inl (ct 2, 11, .inr (.inl k_ukl14_16))), (ukh, .inl (ct 2, 11, .inr (.inl k_ukh14_17))), (uks, .inl (ct 2, 11, .inr (.inl k_uks14_18))), (uko, .inl (ct 2, 11, .inr (.inl k_uko14_19))), (uokd, .inl (ct 1, 44000, .inl k_ukd14_20)), (uolw, .inl (ct 2, 44000, .inr (.inl k_ulw14_21))), (uohg, .inl (ct 2, 44000, .inr (.inl k_uhg14_22))), (uokn, .inl (ct 2, 44000, .inr (.inl k_ukn14_23))), (uoon, .inl (ct 2, 44000, .inr (.inl k_uon14_24))), (uost, .inl (ct 2, 4000, .inr (.inl k_ust14_25))), (uocm, .inl (ct 3, 4000, .inl k_ucm14_26)), (upg, .inl (ct 2, PL, .inr (.inl g_upg))), (mm, .inr (16, j41_amm))] H → va_D A [(uwd, .inl (ct 1, 60000, .inl j41_cuwd)), (uwo, .inl (ct 1, 4000, .inl j41_cuwo)), (uob, .inl (ct 1, 60000, .inl g_uob)), (ukk, .inl (ct 1, 11, .inl k_ukk14_15)), (ukl, .inl (ct 2, 11, .inr (.inl k_ukl14_16))), (ukh, .inl (ct 2, 11, .inr (.inl k_ukh14_17))), (uks, .inl (ct 2, 11, .inr (.inl k_uks14_18))), (uko, .inl (ct 2, 11, .inr (.inl k_uko14_19))), (uokd, .inl (ct 1, 44000, .inl k_ukd14_20)), (uolw, .inl (ct 2, 44000, .inr (.inl k_ulw14_21))), (uohg, .inl (ct 2, 44000, .inr (.inl k_uhg14_22))), (uokn, .inl (ct 2, 44000, .inr (.inl k_ukn14_23))), (uoon, .inl (ct 2, 44000, .inr (.inl k_uon14_24))), (uost, .inl (ct 2, 4000, .inr (.inl k_ust14_25))), (uocm, .inl (ct 3, 4000, .inl k_ucm14_26)), (upg, .inl (ct 2, PL, .inr (.inl g_upg))), (mm, .inr (16, j41_amm))] → va_S A s.heap H locs → W p l e ({ frames := 10, cells := 0, slots := 0, locals := 242 }) s m [.ref mm].toArray below meth c H locs 0 0 Q (F0 m 41 ls []) := by
        intro n41
        induction n41 with
        | zero => intros; rename_i hms _ _ _ _; exact absurd hms (Nat.not_lt_zero _)
        | succ n41 ih41 =>
          intro j41_l3 j41_cuwd j41_cuwo j41_amm j41_fmm_73 H locs ls r41_1001 hc41_1002 hs41_1003 hf41_1004 hf41_1005 hf41_1006 hf41_1007 hf41_1008 hf41_1009 hf41_1010 hf41_1011 hf41_1012 hf41_1013 hf41_1014 hf41_1015 hf41_1016 hf41_1017 hf41_1018 hf41_1019 hf41_1020 hf41_1021 hf41_1022 hf41_1023 hf41_1024 hf41_1025 hf41_1026 hf41_1027 hf41_1028 hf41_1029 hf41_1030 r41_1031 hf41_1032 hg41_1033 hi41_1034 hms41 hl hP hD hS
          refine lv_iload_n hx hb dX16_translate_41 rfl (lv_at hl 2 rfl) ?_
          refine lv_iload_n hx hb dX16_translate_42 rfl (lv_at hl 1 rfl) ?_
          refine lv_icmp_ge (tgt := 159) hx hb dX16_translate_43 (by decide) (fun c43_1 => ?_) (fun c43_1 => ?_)
          · have t43_2 := FF.mk (i_le c43_1)
            have hW159_1 : WOk j41_cuwo z32_1.toInt := WOk.mono hg41_1033 (show z32_1.toInt ≤ j41_l3.toInt by have q0 := FF.out t43_2; omega)
            refine lv_iconst (v := 0) hx hb dX16_translate_159 (by decide) ?_
            refine lv_istore_n (lv' := [(3, .int 0), (0, .ref mm), (2, .int z32_1)]) hx hb dX16_translate_160 rfl hl (by decide) rfl (fun ls hl => ?_)
            have b161 : ∀ (n161 : Nat) (j161_l3 : Int32) (j161_cuwd : Nat → Int32) (H : Heap) (locs : List Loc) (ls : Array Slot), (rg j161_l3 0 4000) → ((2147483647 : Int) - j161_l3.toInt).toNat < n161 → lv_has ls 6 [(0, .ref mm), (2, .int z32_1), (3, .int j161_l3)] → va_P D vwCl [(uwd, .inl (ct 1, 60000, .inl j161_cuwd)), (uwo, .inl (ct 1, 4000, .inl j41_cuwo)), (uob, .inl (ct 1, 60000, .inl g_uob)), (ukk, .inl (ct 1, 11, .inl k_ukk14_15)), (ukl, .inl (ct 2, 11, .inr (.inl k_ukl14_16))), (ukh, .inl (ct 2, 11, .inr (.inl k_ukh14_17))), (uks, .inl (ct 2, 11, .inr (.inl k_uks14_18))), (uko, .inl (ct 2, 11, .inr (.inl k_uko14_19))), (uokd, .inl (ct 1, 44000, .inl k_ukd14_20)), (uolw, .inl (ct 2, 44000, .inr (.inl k_ulw14_21))), (uohg, .inl (ct 2, 44000, .inr (.inl k_uhg14_22))), (uokn, .inl (ct 2, 44000, .inr (.inl k_ukn14_23))), (uoon, .inl (ct 2, 44000, .inr (.inl k_uon14_24))), (uost, .inl (ct 2, 4000, .inr (.inl k_ust14_25))), (uocm, .inl (ct 3, 4000, .inl k_ucm14_26)), (upg, .inl (ct 2, PL, .inr (.inl g_upg))), (mm, .inr (16, j41_amm))] H → va_D A [(uwd, .inl (ct 1, 60000, .inl j161_cuwd)), (uwo, .inl (ct 1, 4000, .inl j41_cuwo)), (uob, .inl (ct 1, 60000, .inl g_uob)), (ukk, .inl (ct 1, 11, .inl k_ukk14_15)), (ukl, .inl (ct 2, 11, .inr (.inl k_ukl14_16))), (ukh, .inl (ct 2, 11, .inr (.inl k_ukh14_17))), (uks, .inl (ct 2, 11, .inr (.inl k_uks14_18))), (uko, .inl (ct 2, 11, .inr (.inl k_uko14_19))), (uokd, .inl (ct 1, 44000, .inl k_ukd14_20)), (uolw, .inl (ct 2, 44000, .inr (.inl k_ulw14_21))), (uohg, .inl (ct 2, 44000, .inr (.inl k_uhg14_22))), (uokn, .inl (ct 2, 44000, .inr (.inl k_ukn14_23))), (uoon, .inl (ct 2, 44000, .inr (.inl k_uon14_24))), (uost, .inl (ct 2, 4000, .inr (.inl k_ust14_25))), (uocm, .inl (ct 3, 4000, .inl k_ucm14_26)), (upg, .inl (ct 2, PL, .inr (.inl g_upg))), (mm, .inr (16, j41_amm))] → va_S A s.heap H locs → W p l e ({ frames := 10, cells := 0, slots := 0, locals := 242 }) s m [.ref mm].toArray below meth c H locs 0 0 Q (F0 m 161 ls []) := by
              intro n161
              induction n161 with
              | zero => intros; rename_i hms _ _ _ _; exact absurd hms (Nat.not_lt_zero _)
              | succ n161 ih161 =>
                intro j161_l3 j161_cuwd H locs ls r161_1001 hms161 hl hP hD hS
                refine lv_iload_n hx hb dX16_translate_161 rfl (lv_at hl 2 rfl) ?_
                refine lv_iload_n hx hb dX16_translate_162 rfl (lv_at hl 1 rfl) ?_
                refine lv_icmp_ge (tgt := 259) hx hb dX16_translate_163 (by decide) (fun c163_1 => ?_) (fun c163_1 => ?_)
                · have t163_2 := FF.mk (i_le c163_1)
                  refine lv_aload_n hx hb dX16_translate_259 rfl (lv_at hl 0 rfl) ?_
                  refine lv_aload_n hx hb dX16_translate_260 rfl (lv_at hl 0 rfl) ?_
                  refine va_get (D := D) (ci := 16) (v := .int j41_fmm_73) (C := RX16) (T := TX16) (N := 78) hx hb (htX16 hn) (fun _ h => h) hown hK hP 16 rfl rfl 73 (by decide) (hn.get mw_1612 rfl) (fun _ h9 => h9) hf41_1032 dX16_translate_261 ?_
                  refine go_v (k1 := 0) (n1 := 0) (wr := [(uwo, .inl (ct 1, 4000, .inl j41_cuwo)), (ukk, .inl (ct 1, 11, .inl k_ukk14_15)), (ukl, .inl (ct 2, 11, .inr (.inl k_ukl14_16))), (ukh, .inl (ct 2, 11, .inr (.inl k_ukh14_17))), (uks, .inl (ct 2, 11, .inr (.inl k_uks14_18))), (uko, .inl (ct 2, 11, .inr (.inl k_uko14_19))), (uokd, .inl (ct 1, 44000, .inl k_ukd14_20)), (uolw, .inl (ct 2, 44000, .inr (.inl k_ulw14_21))), (uohg, .inl (ct 2, 44000, .inr (.inl k_uhg14_22))), (uokn, .inl (ct 2, 44000, .inr (.inl k_ukn14_23))), (uoon, .inl (ct 2, 44000, .inr (.inl k_uon14_24))), (uost, .inl (ct 2, 4000, .inr (.inl k_ust14_25))), (uocm, .inl (ct 3, 4000, .inl k_ucm14_26)), (upg, .inl (ct 2, PL, .inr (.inl g_upg)))]) [16, 0, 2] [1, 3, 4, 5, 6, 7, 8, 9, 10, 11, 12, 13, 14, 15] (rn_V (As := [.int j41_fmm_73]) (rest := []) (c_X16_takeObject l D ct mm j41_fmm_73 j41_amm uob uwd j161_cuwd g_uob r41_1031 (hs41_1003.1.trans hlen_mm) (SB.get hs41_1003 (by decide) hf_mm_69) (SB.get hs41_1003 (by decide) hf_mm_72) _) (cb_of (n := 1) hn mw_2652 mw_13 mw_2649 mhX16_takeObject ⟨(Nat.le_of_ble_eq_true rfl), (Nat.le_of_ble_eq_true rfl)⟩) hx hb hml hown hn hK hSK hZ hS mw_2651 mw_s274 (ci := 16) (q0 := 0) rfl rfl rfl rfl hl.1 (Nat.le_of_ble_eq_true rfl) dX16_translate_264 ⟨(Nat.le_of_ble_eq_true rfl), (Nat.le_of_ble_eq_true rfl)⟩) hP hD hS hA rfl rfl (by decide) (by decide) (by decide) (Nat.le_of_ble_eq_true rfl) (Nat.le_of_ble_eq_true rfl) (fun u264_2 H locs hp264_3 hP hD hS => ?_)
                  obtain ⟨fs2_mm264_4, k_uob264_5⟩ := u264_2
                  obtain ⟨hp264_6, hp264_7, hp264_8⟩ := hp264_3
                  have hs264_9 : SB fs_mm fs2_mm264_4 [39, 40, 41, 42, 43, 44, 45, 46, 47, 48, 49, 50, 51, 52, 53, 54, 60, 61, 62, 63, 64, 65, 66, 67, 68, 70, 71, 73] := SB.trans hs41_1003 hp264_6 (by decide)
                  have hf264_10 : fs2_mm264_4[47]? = some (.long y_mm_4714_6) := SB.get hp264_6 (by decide) hf41_1006
                  have hf264_11 : fs2_mm264_4[48]? = some (.long y_mm_4814_7) := SB.get hp264_6 (by decide) hf41_1007
                  have hf264_12 : fs2_mm264_4[49]? = some (.long y_mm_4914_8) := SB.get hp264_6 (by decide) hf41_1008
                  have hf264_13 : fs2_mm264_4[50]? = some (.long y_mm_5014_9) := SB.get hp264_6 (by decide) hf41_1009
                  have hf264_14 : fs2_mm264_4[51]? = some (.long y_mm_5114_10) := SB.get hp264_6 (by decide) hf41_1010
                  have hf264_15 : fs2_mm264_4[52]? = some (.long y_mm_5214_11) := SB.get hp264_6 (by decide) hf41_1011
                  have hf264_16 : fs2_mm264_4[53]? = some (.long y_mm_5314_12) := SB.get hp264_6 (by decide) hf41_1012
                  have hf264_17 : fs2_mm264_4[54]? = some (.long y_mm_5414_13) := SB.get hp264_6 (by decide) hf41_1013
                  have hf264_18 : fs2_mm264_4[60]? = some (.long y_mm_6014_14) := SB.get hp264_6 (by decide) hf41_1014
                  have hf264_19 : fs2_mm264_4[39]? = some (.ref ukd) := SB.get hp264_6 (by decide) hf41_1015
                  have hf264_20 : fs2_mm264_4[40]? = some (.ref ulw) := SB.get hp264_6 (by decide) hf41_1016
                  have hf264_21 : fs2_mm264_4[41]? = some (.ref uhg) := SB.get hp264_6 (by decide) hf41_1017
                  have hf264_22 : fs2_mm264_4[42]? = some (.ref ukn) := SB.get hp264_6 (by decide) hf41_1018
                  have hf264_23 : fs2_mm264_4[43]? = some (.ref uon) := SB.get hp264_6 (by decide) hf41_1019
                  have hf264_24 : fs2_mm264_4[44]? = some (.ref ust) := SB.get hp264_6 (by decide) hf41_1020
                  have hf264_25 : fs2_mm264_4[45]? = some (.ref ucm) := SB.get hp264_6 (by decide) hf41_1021
                  have hf264_26 : fs2_mm264_4[46]? = some (.int x_mm_46) := SB.get hp264_6 (by decide) hf41_1022
                  have hf264_27 : fs2_mm264_4[61]? = some (.ref uokd) := SB.get hp264_6 (by decide) hf41_1023
                  have hf264_28 : fs2_mm264_4[62]? = some (.ref uolw) := SB.get hp264_6 (by decide) hf41_1024
                  have hf264_29 : fs2_mm264_4[63]? = some (.ref uohg) := SB.get hp264_6 (by decide) hf41_1025
                  have hf264_30 : fs2_mm264_4[64]? = some (.ref uokn) := SB.get hp264_6 (by decide) hf41_1026
                  have hf264_31 : fs2_mm264_4[65]? = some (.ref uoon) := SB.get hp264_6 (by decide) hf41_1027
                  have hf264_32 : fs2_mm264_4[66]? = some (.ref uost) := SB.get hp264_6 (by decide) hf41_1028
                  have hf264_33 : fs2_mm264_4[67]? = some (.ref uocm) := SB.get hp264_6 (by decide) hf41_1029
                  have hf264_34 : fs2_mm264_4[68]? = some (.int y_mm_4614_5) := SB.get hp264_6 (by decide) hf41_1030
                  have hf264_35 : fs2_mm264_4[73]? = some (.int j41_fmm_73) := SB.get hp264_6 (by decide) hf41_1032
                  have hP : va_P D vwCl [(uwo, .inl (ct 1, 4000, .inl j41_cuwo)), (ukk, .inl (ct 1, 11, .inl k_ukk14_15)), (ukl, .inl (ct 2, 11, .inr (.inl k_ukl14_16))), (ukh, .inl (ct 2, 11, .inr (.inl k_ukh14_17))), (uks, .inl (ct 2, 11, .inr (.inl k_uks14_18))), (uko, .inl (ct 2, 11, .inr (.inl k_uko14_19))), (uokd, .inl (ct 1, 44000, .inl k_ukd14_20)), (uolw, .inl (ct 2, 44000, .inr (.inl k_ulw14_21))), (uohg, .inl (ct 2, 44000, .inr (.inl k_uhg14_22))), (uokn, .inl (ct 2, 44000, .inr (.inl k_ukn14_23))), (uoon, .inl (ct 2, 44000, .inr (.inl k_uon14_24))), (uost, .inl (ct 2, 4000, .inr (.inl k_ust14_25))), (uocm, .inl (ct 3, 4000, .inl k_ucm14_26)), (upg, .inl (ct 2, PL, .inr (.inl g_upg))), (mm, .inr (16, fs2_mm264_4)), (uwd, .inl (ct 1, 60000, .inl j161_cuwd)), (uob, .inl (ct 1, 60000, .inl k_uob264_5))] _ := hP
                  have hD : va_D A [(uwo, .inl (ct 1, 4000, .inl j41_cuwo)), (ukk, .inl (ct 1, 11, .inl k_ukk14_15)), (ukl, .inl (ct 2, 11, .inr (.inl k_ukl14_16))), (ukh, .inl (ct 2, 11, .inr (.inl k_ukh14_17))), (uks, .inl (ct 2, 11, .inr (.inl k_uks14_18))), (uko, .inl (ct 2, 11, .inr (.inl k_uko14_19))), (uokd, .inl (ct 1, 44000, .inl k_ukd14_20)), (uolw, .inl (ct 2, 44000, .inr (.inl k_ulw14_21))), (uohg, .inl (ct 2, 44000, .inr (.inl k_uhg14_22))), (uokn, .inl (ct 2, 44000, .inr (.inl k_ukn14_23))), (uoon, .inl (ct 2, 44000, .inr (.inl k_uon14_24))), (uost, .inl (ct 2, 4000, .inr (.inl k_ust14_25))), (uocm, .inl (ct 3, 4000, .inl k_ucm14_26)), (upg, .inl (ct 2, PL, .inr (.inl g_upg))), (mm, .inr (16, fs2_mm264_4)), (uwd, .inl (ct 1, 60000, .inl j161_cuwd)), (uob, .inl (ct 1, 60000, .inl k_uob264_5))] := hD
                  refine lv_aload_n hx hb dX16_translate_267 rfl (lv_at hl 0 rfl) ?_
                  refine va_get (D := D) (ci := 16) (v := .int j41_fmm_73) (C := RX16) (T := TX16) (N := 78) hx hb (htX16 hn) (fun _ h => h) hown hK hP 14 rfl rfl 73 (by decide) (hn.get mw_1612 rfl) (fun _ h9 => h9) hf264_35 dX16_translate_268 ?_
                  exact endq_i hQ hx hb hr hlocks dX16_translate_271 rfl (fs2_mm264_4, y_mm_4714_6, y_mm_4814_7, y_mm_4914_8, y_mm_5014_9, y_mm_5114_10, y_mm_5214_11, y_mm_5314_12, y_mm_5414_13, y_mm_6014_14, y_mm_4614_5, j41_fmm_73, (1 : Int32), j41_fmm_73, k_ukk14_15, k_ukl14_16, k_ukh14_17, k_uks14_18, k_uko14_19, k_ukd14_20, k_ulw14_21, k_uhg14_22, k_ukn14_23, k_uon14_24, k_ust14_25, k_ucm14_26, j161_cuwd, j41_cuwo, k_uob264_5) ⟨(rg_w r41_1031 (by decide)), hs264_9, hf264_19, hf264_20, hf264_21, hf264_22, hf264_23, hf264_24, hf264_25, hf264_26, hf264_10, hf264_11, hf264_12, hf264_13, hf264_14, hf264_15, hf264_16, hf264_17, hf264_18, hf264_27, hf264_28, hf264_29, hf264_30, hf264_31, hf264_32, hf264_33, hp14_29, hf264_34, r41_1031, hp264_7, (rg_w (show rg (1 : Int32) 1 1 from rg_l (by decide)) (by decide)), hp264_8, r41_1031, hf264_35, hp14_40, hp14_41, hp14_42, hc41_1002, hp14_44, hp14_45⟩ hP hD hS [14, 1, 2, 3, 4, 5, 6, 7, 8, 9, 10, 11, 12, 13, 15, 0, 16] rfl (by decide) rfl (Nat.le_of_ble_eq_true rfl) (Nat.le_of_ble_eq_true rfl)
                · have t163_2 := FF.mk (i_nle c163_1)
                  have r163_3 : rg j161_l3 0 3999 := rg_ltA t163_2 r161_1001 r32_2 (by decide)
                  have r163_4 : rg z32_1 1 4000 := rg_ltB t163_2 r161_1001 r32_2 (by decide)
                  refine lv_aload_n hx hb dX16_translate_166 rfl (lv_at hl 0 rfl) ?_
                  refine va_get (D := D) (ci := 16) (v := .ref upg) (C := RX16) (T := TX16) (N := 78) hx hb (htX16 hn) (fun _ h => h) hown hK hP 16 rfl rfl 26 (by decide) (hn.get mw_1565 rfl) (fun _ h9 => h9) (SB.get hs41_1003 (by decide) hf_mm_26) dX16_translate_167 ?_
                  refine lv_iload_n hx hb dX16_translate_170 rfl (lv_at hl 2 rfl) ?_
                  have hi171_1 : vp_in j161_l3 PL := (in_of (show 0 ≤ j161_l3.toInt ∧ j161_l3.toInt < ((PL : Nat) : Int) by have q0 := r163_3.1; have q1 := (eq_len ez32_1 (nat4 (FF.out hq0)) (by decide)); have q2 := FF.out t163_2; omega))
                  refine va_lald hx hb hK hP 15 2 rfl rfl hi171_1 dX16_translate_171 ?_
                  refine lv_topl (fun z171_2 ez171_2 => ?_)
                  refine go_i (k1 := 0) (n1 := 0) (wr := [(uwd, .inl (ct 1, 60000, .inl j161_cuwd)), (uwo, .inl (ct 1, 4000, .inl j41_cuwo)), (uob, .inl (ct 1, 60000, .inl g_uob)), (ukk, .inl (ct 1, 11, .inl k_ukk14_15)), (ukl, .inl (ct 2, 11, .inr (.inl k_ukl14_16))), (ukh, .inl (ct 2, 11, .inr (.inl k_ukh14_17))), (uks, .inl (ct 2, 11, .inr (.inl k_uks14_18))), (uko, .inl (ct 2, 11, .inr (.inl k_uko14_19))), (uokd, .inl (ct 1, 44000, .inl k_ukd14_20)), (uolw, .inl (ct 2, 44000, .inr (.inl k_ulw14_21))), (uohg, .inl (ct 2, 44000, .inr (.inl k_uhg14_22))), (uokn, .inl (ct 2, 44000, .inr (.inl k_ukn14_23))), (uoon, .inl (ct 2, 44000, .inr (.inl k_uon14_24))), (uost, .inl (ct 2, 4000, .inr (.inl k_ust14_25))), (uocm, .inl (ct 3, 4000, .inl k_ucm14_26)), (upg, .inl (ct 2, PL, .inr (.inl g_upg))), (mm, .inr (16, j41_amm))]) [] [0, 1, 2, 3, 4, 5, 6, 7, 8, 9, 10, 11, 12, 13, 14, 15, 16] (rn_S (As := [.long z171_2]) (rest := []) (c_X16_codeOf l D ct z171_2  _) (cb_of (n := 1) hn mw_2322 mw_13 mw_2320 mhX16_codeOf ⟨(Nat.le_of_ble_eq_true rfl), (Nat.le_of_ble_eq_true rfl)⟩) hx hb hml hown hn hK hSK hZ hS mw_2321 rfl hl.1 (Nat.le_of_ble_eq_true rfl) dX16_translate_172 ⟨(Nat.le_of_ble_eq_true rfl), (Nat.le_of_ble_eq_true rfl)⟩) hP hD hS hA rfl rfl (by decide) (by decide) (by decide) (Nat.le_of_ble_eq_true rfl) (Nat.le_of_ble_eq_true rfl) (fun r172_1 u172_2 H locs hp172_3 hP hD hS => ?_)
                  obtain ⟨hp172_4, hp172_5⟩ := hp172_3
                  have hp172_4 : rg r172_1 0 255 := hp172_4
                  replace hp172_5 : FF (r172_1.toInt = z171_2.toInt % 256) := hp172_5
                  have hP : va_P D vwCl [(uwd, .inl (ct 1, 60000, .inl j161_cuwd)), (uwo, .inl (ct 1, 4000, .inl j41_cuwo)), (uob, .inl (ct 1, 60000, .inl g_uob)), (ukk, .inl (ct 1, 11, .inl k_ukk14_15)), (ukl, .inl (ct 2, 11, .inr (.inl k_ukl14_16))), (ukh, .inl (ct 2, 11, .inr (.inl k_ukh14_17))), (uks, .inl (ct 2, 11, .inr (.inl k_uks14_18))), (uko, .inl (ct 2, 11, .inr (.inl k_uko14_19))), (uokd, .inl (ct 1, 44000, .inl k_ukd14_20)), (uolw, .inl (ct 2, 44000, .inr (.inl k_ulw14_21))), (uohg, .inl (ct 2, 44000, .inr (.inl k_uhg14_22))), (uokn, .inl (ct 2, 44000, .inr (.inl k_ukn14_23))), (uoon, .inl (ct 2, 44000, .inr (.inl k_uon14_24))), (uost, .inl (ct 2, 4000, .inr (.inl k_ust14_25))), (uocm, .inl (ct 3, 4000, .inl k_ucm14_26)), (upg, .inl (ct 2, PL, .inr (.inl g_upg))), (mm, .inr (16, j41_amm))] _ := hP
                  have hD : va_D A [(uwd, .inl (ct 1, 60000, .inl j161_cuwd)), (uwo, .inl (ct 1, 4000, .inl j41_cuwo)), (uob, .inl (ct 1, 60000, .inl g_uob)), (ukk, .inl (ct 1, 11, .inl k_ukk14_15)), (ukl, .inl (ct 2, 11, .inr (.inl k_ukl14_16))), (ukh, .inl (ct 2, 11, .inr (.inl k_ukh14_17))), (uks, .inl (ct 2, 11, .inr (.inl k_uks14_18))), (uko, .inl (ct 2, 11, .inr (.inl k_uko14_19))), (uokd, .inl (ct 1, 44000, .inl k_ukd14_20)), (uolw, .inl (ct 2, 44000, .inr (.inl k_ulw14_21))), (uohg, .inl (ct 2, 44000, .inr (.inl k_uhg14_22))), (uokn, .inl (ct 2, 44000, .inr (.inl k_ukn14_23))), (uoon, .inl (ct 2, 44000, .inr (.inl k_uon14_24))), (uost, .inl (ct 2, 4000, .inr (.inl k_ust14_25))), (uocm, .inl (ct 3, 4000, .inl k_ucm14_26)), (upg, .inl (ct 2, PL, .inr (.inl g_upg))), (mm, .inr (16, j41_amm))] := hD
                  refine lv_istore (lv' := [(4, .int r172_1), (0, .ref mm), (2, .int z32_1), (3, .int j161_l3)]) hx hb dX16_translate_175 hl (by decide) rfl (fun ls hl => ?_)
                  have hk177_1 : FF (((g_upg j161_l3.toNatClampNeg).toInt / 256) % 16 ≤ 10 ∧ ((g_upg j161_l3.toNatClampNeg).toInt / 4096) % 16 ≤ 10 ∧ 0 ≤ srt ((g_upg j161_l3.toNatClampNeg).toInt % 256) ∧ (srt ((g_upg j161_l3.toNatClampNeg).toInt % 256) = 1 ∧ ((g_upg j161_l3.toNatClampNeg).toInt % 256) ≠ 149 → 0 < 1 + (((g_upg j161_l3.toNatClampNeg).toInt / 65536 + 32768) % 65536 - 32768) ∧ j161_l3.toInt + 1 + (((g_upg j161_l3.toNatClampNeg).toInt / 65536 + 32768) % 65536 - 32768) < ((PL : Nat) : Int)) ∧ (j161_l3.toInt = ((PL : Nat) : Int) - 1 → ((g_upg j161_l3.toNatClampNeg).toInt % 256) = 149)) := hO28_1 j161_l3 (show 0 ≤ j161_l3.toInt by have q0 := r163_3.1; omega) (show j161_l3.toInt < ((PL : Nat) : Int) by have q0 := (eq_len ez32_1 (nat4 (FF.out hq0)) (by decide)); have q1 := FF.out t163_2; omega)
                  have hk177_2 : FF (srt r172_1.toInt = srt ((g_upg j161_l3.toNatClampNeg).toInt % 256)) := congrArg srt (show r172_1.toInt = (g_upg j161_l3.toNatClampNeg).toInt % 256 by have q0 := (congrArg Int64.toInt ez171_2); have q1 := FF.out hp172_5; omega)
                  refine lv_iload hx hb dX16_translate_177 (lv_at hl 0 rfl) ?_
                  refine go_i (k1 := 0) (n1 := 0) (wr := [(uwd, .inl (ct 1, 60000, .inl j161_cuwd)), (uwo, .inl (ct 1, 4000, .inl j41_cuwo)), (uob, .inl (ct 1, 60000, .inl g_uob)), (ukk, .inl (ct 1, 11, .inl k_ukk14_15)), (ukl, .inl (ct 2, 11, .inr (.inl k_ukl14_16))), (ukh, .inl (ct 2, 11, .inr (.inl k_ukh14_17))), (uks, .inl (ct 2, 11, .inr (.inl k_uks14_18))), (uko, .inl (ct 2, 11, .inr (.inl k_uko14_19))), (uokd, .inl (ct 1, 44000, .inl k_ukd14_20)), (uolw, .inl (ct 2, 44000, .inr (.inl k_ulw14_21))), (uohg, .inl (ct 2, 44000, .inr (.inl k_uhg14_22))), (uokn, .inl (ct 2, 44000, .inr (.inl k_ukn14_23))), (uoon, .inl (ct 2, 44000, .inr (.inl k_uon14_24))), (uost, .inl (ct 2, 4000, .inr (.inl k_ust14_25))), (uocm, .inl (ct 3, 4000, .inl k_ucm14_26)), (upg, .inl (ct 2, PL, .inr (.inl g_upg))), (mm, .inr (16, j41_amm))]) [] [0, 1, 2, 3, 4, 5, 6, 7, 8, 9, 10, 11, 12, 13, 14, 15, 16] (rn_S (As := [.int r172_1]) (rest := []) (c_X16_sortOf l D ct r172_1 hp172_4 _) (cb_of (n := 1) hn mw_2325 mw_13 mw_2323 mhX16_sortOf ⟨(Nat.le_of_ble_eq_true rfl), (Nat.le_of_ble_eq_true rfl)⟩) hx hb hml hown hn hK hSK hZ hS mw_2324 rfl hl.1 (Nat.le_of_ble_eq_true rfl) dX16_translate_179 ⟨(Nat.le_of_ble_eq_true rfl), (Nat.le_of_ble_eq_true rfl)⟩) hP hD hS hA rfl rfl (by decide) (by decide) (by decide) (Nat.le_of_ble_eq_true rfl) (Nat.le_of_ble_eq_true rfl) (fun r179_1 u179_2 H locs hp179_3 hP hD hS => ?_)
                  obtain ⟨hp179_4, hp179_5, hp179_6, hp179_7⟩ := hp179_3
                  have hp179_4 : rg r179_1 (-1) 6 := hp179_4
                  replace hp179_5 : FF (r179_1.toInt = srt r172_1.toInt) := hp179_5
                  replace hp179_6 : FF (r179_1.toInt = 5 ∨ r179_1.toInt = 6 → (r172_1.toInt = 32 ∨ r172_1.toInt = 40 ∨ r172_1.toInt = 48 ∨ r172_1.toInt = 64 ∨ r172_1.toInt = 72 ∨ r172_1.toInt = 80)) := hp179_6
                  replace hp179_7 : FF (r172_1.toInt = 149 → r179_1.toInt = 1) := hp179_7
                  have hP : va_P D vwCl [(uwd, .inl (ct 1, 60000, .inl j161_cuwd)), (uwo, .inl (ct 1, 4000, .inl j41_cuwo)), (uob, .inl (ct 1, 60000, .inl g_uob)), (ukk, .inl (ct 1, 11, .inl k_ukk14_15)), (ukl, .inl (ct 2, 11, .inr (.inl k_ukl14_16))), (ukh, .inl (ct 2, 11, .inr (.inl k_ukh14_17))), (uks, .inl (ct 2, 11, .inr (.inl k_uks14_18))), (uko, .inl (ct 2, 11, .inr (.inl k_uko14_19))), (uokd, .inl (ct 1, 44000, .inl k_ukd14_20)), (uolw, .inl (ct 2, 44000, .inr (.inl k_ulw14_21))), (uohg, .inl (ct 2, 44000, .inr (.inl k_uhg14_22))), (uokn, .inl (ct 2, 44000, .inr (.inl k_ukn14_23))), (uoon, .inl (ct 2, 44000, .inr (.inl k_uon14_24))), (uost, .inl (ct 2, 4000, .inr (.inl k_ust14_25))), (uocm, .inl (ct 3, 4000, .inl k_ucm14_26)), (upg, .inl (ct 2, PL, .inr (.inl g_upg))), (mm, .inr (16, j41_amm))] _ := hP
                  have hD : va_D A [(uwd, .inl (ct 1, 60000, .inl j161_cuwd)), (uwo, .inl (ct 1, 4000, .inl j41_cuwo)), (uob, .inl (ct 1, 60000, .inl g_uob)), (ukk, .inl (ct 1, 11, .inl k_ukk14_15)), (ukl, .inl (ct 2, 11, .inr (.inl k_ukl14_16))), (ukh, .inl (ct 2, 11, .inr (.inl k_ukh14_17))), (uks, .inl (ct 2, 11, .inr (.inl k_uks14_18))), (uko, .inl (ct 2, 11, .inr (.inl k_uko14_19))), (uokd, .inl (ct 1, 44000, .inl k_ukd14_20)), (uolw, .inl (ct 2, 44000, .inr (.inl k_ulw14_21))), (uohg, .inl (ct 2, 44000, .inr (.inl k_uhg14_22))), (uokn, .inl (ct 2, 44000, .inr (.inl k_ukn14_23))), (uoon, .inl (ct 2, 44000, .inr (.inl k_uon14_24))), (uost, .inl (ct 2, 4000, .inr (.inl k_ust14_25))), (uocm, .inl (ct 3, 4000, .inl k_ucm14_26)), (upg, .inl (ct 2, PL, .inr (.inl g_upg))), (mm, .inr (16, j41_amm))] := hD
                  refine lv_iconst (v := 1) hx hb dX16_translate_182 (by decide) ?_
                  have b253 : ∀ (j253_cuwd : Nat → Int32) (H : Heap) (locs : List Loc) (ls : Array Slot), lv_has ls 6 [(0, .ref mm), (2, .int z32_1), (3, .int j161_l3)] → va_P D vwCl [(uwd, .inl (ct 1, 60000, .inl j253_cuwd)), (uwo, .inl (ct 1, 4000, .inl j41_cuwo)), (uob, .inl (ct 1, 60000, .inl g_uob)), (ukk, .inl (ct 1, 11, .inl k_ukk14_15)), (ukl, .inl (ct 2, 11, .inr (.inl k_ukl14_16))), (ukh, .inl (ct 2, 11, .inr (.inl k_ukh14_17))), (uks, .inl (ct 2, 11, .inr (.inl k_uks14_18))), (uko, .inl (ct 2, 11, .inr (.inl k_uko14_19))), (uokd, .inl (ct 1, 44000, .inl k_ukd14_20)), (uolw, .inl (ct 2, 44000, .inr (.inl k_ulw14_21))), (uohg, .inl (ct 2, 44000, .inr (.inl k_uhg14_22))), (uokn, .inl (ct 2, 44000, .inr (.inl k_ukn14_23))), (uoon, .inl (ct 2, 44000, .inr (.inl k_uon14_24))), (uost, .inl (ct 2, 4000, .inr (.inl k_ust14_25))), (uocm, .inl (ct 3, 4000, .inl k_ucm14_26)), (upg, .inl (ct 2, PL, .inr (.inl g_upg))), (mm, .inr (16, j41_amm))] H → va_D A [(uwd, .inl (ct 1, 60000, .inl j253_cuwd)), (uwo, .inl (ct 1, 4000, .inl j41_cuwo)), (uob, .inl (ct 1, 60000, .inl g_uob)), (ukk, .inl (ct 1, 11, .inl k_ukk14_15)), (ukl, .inl (ct 2, 11, .inr (.inl k_ukl14_16))), (ukh, .inl (ct 2, 11, .inr (.inl k_ukh14_17))), (uks, .inl (ct 2, 11, .inr (.inl k_uks14_18))), (uko, .inl (ct 2, 11, .inr (.inl k_uko14_19))), (uokd, .inl (ct 1, 44000, .inl k_ukd14_20)), (uolw, .inl (ct 2, 44000, .inr (.inl k_ulw14_21))), (uohg, .inl (ct 2, 44000, .inr (.inl k_uhg14_22))), (uokn, .inl (ct 2, 44000, .inr (.inl k_ukn14_23))), (uoon, .inl (ct 2, 44000, .inr (.inl k_uon14_24))), (uost, .inl (ct 2, 4000, .inr (.inl k_ust14_25))), (uocm, .inl (ct 3, 4000, .inl k_ucm14_26)), (upg, .inl (ct 2, PL, .inr (.inl g_upg))), (mm, .inr (16, j41_amm))] → va_S A s.heap H locs → W p l e ({ frames := 10, cells := 0, slots := 0, locals := 242 }) s m [.ref mm].toArray below meth c H locs 0 0 Q (F0 m 253 ls []) := by
                    intro j253_cuwd H locs ls  hl hP hD hS
                    obtain ⟨x253_1, ex253_1⟩ : ∃ z : Int32, z = j161_l3 + 1 := ⟨_, rfl⟩
                    have r253_2 : rg x253_1 1 4000 := rg_add ex253_1 r163_3 (show rg (1 : Int32) 1 1 from rg_l (by decide)) (by decide)
                    refine lv_iinc (v := x253_1) (lv' := [(3, .int x253_1), (0, .ref mm), (2, .int z32_1)]) hx hb dX16_translate_253 hl (k := 2) rfl (by rw [ex253_1]; rfl) (by decide) rfl (fun ls hl => ?_)
                    refine lv_goto (tgt := 161) hx hb dX16_translate_256 (by decide) ?_
                    exact ih161 x253_1 j253_cuwd H locs ls (rg_w r253_2 (by decide)) (show ((2147483647 : Int) - x253_1.toInt).toNat < n161 by have q0 := r163_3.2; have q1 := (eq_add ex253_1 r163_3 (show rg (1 : Int32) 1 1 from rg_l (by decide)) (by decide)); have q2 := (show (1 : Int32).toInt = 1 from by decide); have q3 := hms161; omega) (lv_sub hl [1, 2, 0] rfl) hP hD hS
                  refine lv_icmp_ne (tgt := 253) hx hb dX16_translate_183 (by decide) (fun c183_1 => ?_) (fun c183_1 => ?_)
                  · have t183_2 := FF.mk (i_ne c183_1)
                    exact b253 j161_cuwd H locs ls  (lv_sub hl [1, 2, 3] rfl) hP hD hS
                  · have t183_2 := FF.mk (i_eq c183_1)
                    have r183_3 : rg r179_1 1 1 := rg_eqA t183_2 hp179_4 (show rg (1 : Int32) 1 1 from rg_l (by decide)) (by decide)
                    refine lv_iload hx hb dX16_translate_186 (lv_at hl 0 rfl) ?_
                    refine go_i (k1 := 0) (n1 := 0) (wr := [(uwd, .inl (ct 1, 60000, .inl j161_cuwd)), (uwo, .inl (ct 1, 4000, .inl j41_cuwo)), (uob, .inl (ct 1, 60000, .inl g_uob)), (ukk, .inl (ct 1, 11, .inl k_ukk14_15)), (ukl, .inl (ct 2, 11, .inr (.inl k_ukl14_16))), (ukh, .inl (ct 2, 11, .inr (.inl k_ukh14_17))), (uks, .inl (ct 2, 11, .inr (.inl k_uks14_18))), (uko, .inl (ct 2, 11, .inr (.inl k_uko14_19))), (uokd, .inl (ct 1, 44000, .inl k_ukd14_20)), (uolw, .inl (ct 2, 44000, .inr (.inl k_ulw14_21))), (uohg, .inl (ct 2, 44000, .inr (.inl k_uhg14_22))), (uokn, .inl (ct 2, 44000, .inr (.inl k_ukn14_23))), (uoon, .inl (ct 2, 44000, .inr (.inl k_uon14_24))), (uost, .inl (ct 2, 4000, .inr (.inl k_ust14_25))), (uocm, .inl (ct 3, 4000, .inl k_ucm14_26)), (upg, .inl (ct 2, PL, .inr (.inl g_upg))), (mm, .inr (16, j41_amm))]) [] [0, 1, 2, 3, 4, 5, 6, 7, 8, 9, 10, 11, 12, 13, 14, 15, 16] (rn_S (As := [.int r172_1]) (rest := []) (c_X16_isEnd l D ct r172_1  _) (cb_of (n := 1) hn mw_2334 mw_13 mw_2332 mhX16_isEnd ⟨(Nat.le_of_ble_eq_true rfl), (Nat.le_of_ble_eq_true rfl)⟩) hx hb hml hown hn hK hSK hZ hS mw_2333 rfl hl.1 (Nat.le_of_ble_eq_true rfl) dX16_translate_188 ⟨(Nat.le_of_ble_eq_true rfl), (Nat.le_of_ble_eq_true rfl)⟩) hP hD hS hA rfl rfl (by decide) (by decide) (by decide) (Nat.le_of_ble_eq_true rfl) (Nat.le_of_ble_eq_true rfl) (fun r188_1 u188_2 H locs hp188_3 hP hD hS => ?_)
                    obtain ⟨hp188_4, hp188_5, hp188_6⟩ := hp188_3
                    have hp188_4 : rg r188_1 0 1 := hp188_4
                    replace hp188_5 : FF (r188_1.toInt = 1 → r172_1.toInt = 149) := hp188_5
                    replace hp188_6 : FF (r188_1.toInt = 0 → r172_1.toInt ≠ 149) := hp188_6
                    have hP : va_P D vwCl [(uwd, .inl (ct 1, 60000, .inl j161_cuwd)), (uwo, .inl (ct 1, 4000, .inl j41_cuwo)), (uob, .inl (ct 1, 60000, .inl g_uob)), (ukk, .inl (ct 1, 11, .inl k_ukk14_15)), (ukl, .inl (ct 2, 11, .inr (.inl k_ukl14_16))), (ukh, .inl (ct 2, 11, .inr (.inl k_ukh14_17))), (uks, .inl (ct 2, 11, .inr (.inl k_uks14_18))), (uko, .inl (ct 2, 11, .inr (.inl k_uko14_19))), (uokd, .inl (ct 1, 44000, .inl k_ukd14_20)), (uolw, .inl (ct 2, 44000, .inr (.inl k_ulw14_21))), (uohg, .inl (ct 2, 44000, .inr (.inl k_uhg14_22))), (uokn, .inl (ct 2, 44000, .inr (.inl k_ukn14_23))), (uoon, .inl (ct 2, 44000, .inr (.inl k_uon14_24))), (uost, .inl (ct 2, 4000, .inr (.inl k_ust14_25))), (uocm, .inl (ct 3, 4000, .inl k_ucm14_26)), (upg, .inl (ct 2, PL, .inr (.inl g_upg))), (mm, .inr (16, j41_amm))] _ := hP
                    have hD : va_D A [(uwd, .inl (ct 1, 60000, .inl j161_cuwd)), (uwo, .inl (ct 1, 4000, .inl j41_cuwo)), (uob, .inl (ct 1, 60000, .inl g_uob)), (ukk, .inl (ct 1, 11, .inl k_ukk14_15)), (ukl, .inl (ct 2, 11, .inr (.inl k_ukl14_16))), (ukh, .inl (ct 2, 11, .inr (.inl k_ukh14_17))), (uks, .inl (ct 2, 11, .inr (.inl k_uks14_18))), (uko, .inl (ct 2, 11, .inr (.inl k_uko14_19))), (uokd, .inl (ct 1, 44000, .inl k_ukd14_20)), (uolw, .inl (ct 2, 44000, .inr (.inl k_ulw14_21))), (uohg, .inl (ct 2, 44000, .inr (.inl k_uhg14_22))), (uokn, .inl (ct 2, 44000, .inr (.inl k_ukn14_23))), (uoon, .inl (ct 2, 44000, .inr (.inl k_uon14_24))), (uost, .inl (ct 2, 4000, .inr (.inl k_ust14_25))), (uocm, .inl (ct 3, 4000, .inl k_ucm14_26)), (upg, .inl (ct 2, PL, .inr (.inl g_upg))), (mm, .inr (16, j41_amm))] := hD
                    refine lv_if_ne (tgt := 253) hx hb dX16_translate_191 (by decide) (fun c191_1 => ?_) (fun c191_1 => ?_)
                    · have t191_2 := FF.mk (i_ne c191_1)
                      have r191_3 : rg r188_1 1 1 := rg_neAl t191_2 hp188_4 (show rg (0 : Int32) 0 0 from rg_l (by decide)) (by decide)
                      exact b253 j161_cuwd H locs ls  (lv_sub hl [1, 2, 3] rfl) hP hD hS
                    · have t191_2 := FF.mk (i_eq c191_1)
                      have r191_3 : rg r188_1 0 0 := rg_eqA t191_2 hp188_4 (show rg (0 : Int32) 0 0 from rg_l (by decide)) (by decide)
                      refine lv_iload_n hx hb dX16_translate_194 rfl (lv_at hl 3 rfl) ?_
                      refine lv_iconst (v := 1) hx hb dX16_translate_195 (by decide) ?_
                      refine lv_iadd hx hb dX16_translate_196 ?_
                      refine lv_topi (fun z196_1 ez196_1 => ?_)
                      have r196_2 : rg z196_1 1 4000 := rg_add ez196_1 r163_3 (show rg (1 : Int32) 1 1 from rg_l (by decide)) (by decide)
                      refine lv_iload_n hx hb dX16_translate_197 rfl (lv_at hl 2 rfl) ?_
                      have b216 : ∀ (j216_s0 : Int32) (H : Heap) (locs : List Loc) (ls : Array Slot), (rg j216_s0 0 60000) → (FF (1 ≤ j216_s0.toInt ∧ j216_s0.toInt ≤ 60000)) → lv_has ls 6 [(0, .ref mm), (2, .int z32_1), (3, .int j161_l3)] → va_P D vwCl [(uwd, .inl (ct 1, 60000, .inl j161_cuwd)), (uwo, .inl (ct 1, 4000, .inl j41_cuwo)), (uob, .inl (ct 1, 60000, .inl g_uob)), (ukk, .inl (ct 1, 11, .inl k_ukk14_15)), (ukl, .inl (ct 2, 11, .inr (.inl k_ukl14_16))), (ukh, .inl (ct 2, 11, .inr (.inl k_ukh14_17))), (uks, .inl (ct 2, 11, .inr (.inl k_uks14_18))), (uko, .inl (ct 2, 11, .inr (.inl k_uko14_19))), (uokd, .inl (ct 1, 44000, .inl k_ukd14_20)), (uolw, .inl (ct 2, 44000, .inr (.inl k_ulw14_21))), (uohg, .inl (ct 2, 44000, .inr (.inl k_uhg14_22))), (uokn, .inl (ct 2, 44000, .inr (.inl k_ukn14_23))), (uoon, .inl (ct 2, 44000, .inr (.inl k_uon14_24))), (uost, .inl (ct 2, 4000, .inr (.inl k_ust14_25))), (uocm, .inl (ct 3, 4000, .inl k_ucm14_26)), (upg, .inl (ct 2, PL, .inr (.inl g_upg))), (mm, .inr (16, j41_amm))] H → va_D A [(uwd, .inl (ct 1, 60000, .inl j161_cuwd)), (uwo, .inl (ct 1, 4000, .inl j41_cuwo)), (uob, .inl (ct 1, 60000, .inl g_uob)), (ukk, .inl (ct 1, 11, .inl k_ukk14_15)), (ukl, .inl (ct 2, 11, .inr (.inl k_ukl14_16))), (ukh, .inl (ct 2, 11, .inr (.inl k_ukh14_17))), (uks, .inl (ct 2, 11, .inr (.inl k_uks14_18))), (uko, .inl (ct 2, 11, .inr (.inl k_uko14_19))), (uokd, .inl (ct 1, 44000, .inl k_ukd14_20)), (uolw, .inl (ct 2, 44000, .inr (.inl k_ulw14_21))), (uohg, .inl (ct 2, 44000, .inr (.inl k_uhg14_22))), (uokn, .inl (ct 2, 44000, .inr (.inl k_ukn14_23))), (uoon, .inl (ct 2, 44000, .inr (.inl k_uon14_24))), (uost, .inl (ct 2, 4000, .inr (.inl k_ust14_25))), (uocm, .inl (ct 3, 4000, .inl k_ucm14_26)), (upg, .inl (ct 2, PL, .inr (.inl g_upg))), (mm, .inr (16, j41_amm))] → va_S A s.heap H locs → W p l e ({ frames := 10, cells := 0, slots := 0, locals := 242 }) s m [.ref mm].toArray below meth c H locs 0 0 Q (F0 m 216 ls [.int j216_s0]) := by
                        intro j216_s0 H locs ls r216_1001 hi216_1002 hl hP hD hS
                        refine lv_iconst (v := 1) hx hb dX16_translate_216 (by decide) ?_
                        refine lv_isub hx hb dX16_translate_217 ?_
                        refine lv_topi (fun z217_1 ez217_1 => ?_)
                        have r217_2 : rg z217_1 (-1) 59999 := rg_sub ez217_1 r216_1001 (show rg (1 : Int32) 1 1 from rg_l (by decide)) (by decide)
                        refine lv_istore (lv' := [(5, .int z217_1), (0, .ref mm), (2, .int z32_1), (3, .int j161_l3)]) hx hb dX16_translate_218 hl (by decide) rfl (fun ls hl => ?_)
                        refine lv_aload_n hx hb dX16_translate_220 rfl (lv_at hl 1 rfl) ?_
                        refine va_get (D := D) (ci := 16) (v := .ref uwd) (C := RX16) (T := TX16) (N := 78) hx hb (htX16 hn) (fun _ h => h) hown hK hP 16 rfl rfl 72 (by decide) (hn.get mw_1611 rfl) (fun _ h9 => h9) (SB.get hs41_1003 (by decide) hf_mm_72) dX16_translate_221 ?_
                        refine lv_iload hx hb dX16_translate_224 (lv_at hl 0 rfl) ?_
                        refine lv_iconst (v := 4) hx hb dX16_translate_226 (by decide) ?_
                        refine lv_aload_n hx hb dX16_translate_227 rfl (lv_at hl 1 rfl) ?_
                        refine va_get (D := D) (ci := 16) (v := .ref uwo) (C := RX16) (T := TX16) (N := 78) hx hb (htX16 hn) (fun _ h => h) hown hK hP 16 rfl rfl 74 (by decide) (hn.get mw_1613 rfl) (fun _ h9 => h9) (SB.get hs41_1003 (by decide) hf_mm_74) dX16_translate_228 ?_
                        refine lv_iload_n hx hb dX16_translate_231 rfl (lv_at hl 3 rfl) ?_
                        refine lv_iconst (v := 1) hx hb dX16_translate_232 (by decide) ?_
                        refine lv_iadd hx hb dX16_translate_233 ?_
                        refine lv_topi (fun z233_1 ez233_1 => ?_)
                        obtain rfl : z196_1 = z233_1 := ez196_1.trans ez233_1.symm
                        refine lv_aload_n hx hb dX16_translate_234 rfl (lv_at hl 1 rfl) ?_
                        refine va_get (D := D) (ci := 16) (v := .ref upg) (C := RX16) (T := TX16) (N := 78) hx hb (htX16 hn) (fun _ h => h) hown hK hP 16 rfl rfl 26 (by decide) (hn.get mw_1565 rfl) (fun _ h9 => h9) (SB.get hs41_1003 (by decide) hf_mm_26) dX16_translate_235 ?_
                        refine lv_iload_n hx hb dX16_translate_238 rfl (lv_at hl 3 rfl) ?_
                        have hi239_1 : vp_in j161_l3 PL := (in_of (show 0 ≤ j161_l3.toInt ∧ j161_l3.toInt < ((PL : Nat) : Int) by have q0 := r163_3.1; have q1 := (eq_len ez32_1 (nat4 (FF.out hq0)) (by decide)); have q2 := FF.out t163_2; omega))
                        refine va_lald hx hb hK hP 15 2 rfl rfl hi239_1 dX16_translate_239 ?_
                        refine lv_topl (fun z239_2 ez239_2 => ?_)
                        obtain rfl : z171_2 = z239_2 := ez171_2.trans ez239_2.symm
                        refine go_i (k1 := 0) (n1 := 0) (wr := [(uwd, .inl (ct 1, 60000, .inl j161_cuwd)), (uwo, .inl (ct 1, 4000, .inl j41_cuwo)), (uob, .inl (ct 1, 60000, .inl g_uob)), (ukk, .inl (ct 1, 11, .inl k_ukk14_15)), (ukl, .inl (ct 2, 11, .inr (.inl k_ukl14_16))), (ukh, .inl (ct 2, 11, .inr (.inl k_ukh14_17))), (uks, .inl (ct 2, 11, .inr (.inl k_uks14_18))), (uko, .inl (ct 2, 11, .inr (.inl k_uko14_19))), (uokd, .inl (ct 1, 44000, .inl k_ukd14_20)), (uolw, .inl (ct 2, 44000, .inr (.inl k_ulw14_21))), (uohg, .inl (ct 2, 44000, .inr (.inl k_uhg14_22))), (uokn, .inl (ct 2, 44000, .inr (.inl k_ukn14_23))), (uoon, .inl (ct 2, 44000, .inr (.inl k_uon14_24))), (uost, .inl (ct 2, 4000, .inr (.inl k_ust14_25))), (uocm, .inl (ct 3, 4000, .inl k_ucm14_26)), (upg, .inl (ct 2, PL, .inr (.inl g_upg))), (mm, .inr (16, j41_amm))]) [] [0, 1, 2, 3, 4, 5, 6, 7, 8, 9, 10, 11, 12, 13, 14, 15, 16] (rn_S (As := [.long z171_2]) (rest := [.int z196_1, .ref uwo, .int 4, .int z217_1, .ref uwd]) (c_X16_offOf l D ct z171_2  _) (cb_of (n := 1) hn mw_2343 mw_13 mw_2341 mhX16_offOf ⟨(Nat.le_of_ble_eq_true rfl), (Nat.le_of_ble_eq_true rfl)⟩) hx hb hml hown hn hK hSK hZ hS mw_2342 rfl hl.1 (Nat.le_of_ble_eq_true rfl) dX16_translate_240 ⟨(Nat.le_of_ble_eq_true rfl), (Nat.le_of_ble_eq_true rfl)⟩) hP hD hS hA rfl rfl (by decide) (by decide) (by decide) (Nat.le_of_ble_eq_true rfl) (Nat.le_of_ble_eq_true rfl) (fun r240_1 u240_2 H locs hp240_3 hP hD hS => ?_)
                        obtain ⟨hp240_4, hp240_5⟩ := hp240_3
                        have hp240_4 : rg r240_1 (-32768) 32767 := hp240_4
                        replace hp240_5 : FF (r240_1.toInt = (z171_2.toInt / 65536 + 32768) % 65536 - 32768) := hp240_5
                        have hP : va_P D vwCl [(uwd, .inl (ct 1, 60000, .inl j161_cuwd)), (uwo, .inl (ct 1, 4000, .inl j41_cuwo)), (uob, .inl (ct 1, 60000, .inl g_uob)), (ukk, .inl (ct 1, 11, .inl k_ukk14_15)), (ukl, .inl (ct 2, 11, .inr (.inl k_ukl14_16))), (ukh, .inl (ct 2, 11, .inr (.inl k_ukh14_17))), (uks, .inl (ct 2, 11, .inr (.inl k_uks14_18))), (uko, .inl (ct 2, 11, .inr (.inl k_uko14_19))), (uokd, .inl (ct 1, 44000, .inl k_ukd14_20)), (uolw, .inl (ct 2, 44000, .inr (.inl k_ulw14_21))), (uohg, .inl (ct 2, 44000, .inr (.inl k_uhg14_22))), (uokn, .inl (ct 2, 44000, .inr (.inl k_ukn14_23))), (uoon, .inl (ct 2, 44000, .inr (.inl k_uon14_24))), (uost, .inl (ct 2, 4000, .inr (.inl k_ust14_25))), (uocm, .inl (ct 3, 4000, .inl k_ucm14_26)), (upg, .inl (ct 2, PL, .inr (.inl g_upg))), (mm, .inr (16, j41_amm))] _ := hP
                        have hD : va_D A [(uwd, .inl (ct 1, 60000, .inl j161_cuwd)), (uwo, .inl (ct 1, 4000, .inl j41_cuwo)), (uob, .inl (ct 1, 60000, .inl g_uob)), (ukk, .inl (ct 1, 11, .inl k_ukk14_15)), (ukl, .inl (ct 2, 11, .inr (.inl k_ukl14_16))), (ukh, .inl (ct 2, 11, .inr (.inl k_ukh14_17))), (uks, .inl (ct 2, 11, .inr (.inl k_uks14_18))), (uko, .inl (ct 2, 11, .inr (.inl k_uko14_19))), (uokd, .inl (ct 1, 44000, .inl k_ukd14_20)), (uolw, .inl (ct 2, 44000, .inr (.inl k_ulw14_21))), (uohg, .inl (ct 2, 44000, .inr (.inl k_uhg14_22))), (uokn, .inl (ct 2, 44000, .inr (.inl k_ukn14_23))), (uoon, .inl (ct 2, 44000, .inr (.inl k_uon14_24))), (uost, .inl (ct 2, 4000, .inr (.inl k_ust14_25))), (uocm, .inl (ct 3, 4000, .inl k_ucm14_26)), (upg, .inl (ct 2, PL, .inr (.inl g_upg))), (mm, .inr (16, j41_amm))] := hD
                        refine lv_iadd hx hb dX16_translate_243 ?_
                        refine lv_topi (fun z243_1 ez243_1 => ?_)
                        have r243_2 : rg z243_1 (-32767) 36767 := rg_add ez243_1 r196_2 hp240_4 (by decide)
                        have hi244_1 : vp_in z243_1 4000 := (in_of (show 0 ≤ z243_1.toInt ∧ z243_1.toInt < 4000 by have q0 := (eq_add ez243_1 r196_2 hp240_4 (by decide)); have q1 := r196_2.1; have q2 := (eq_add ez196_1 r163_3 (show rg (1 : Int32) 1 1 from rg_l (by decide)) (by decide)); have q3 := (congrArg Int64.toInt ez171_2); have q4 := r183_3.1; have q5 := r183_3.2; have q6 := r191_3.1; have q7 := r191_3.2; have q8 := FF.out hq0; have q9 := FF.out hp172_5; have q10 := FF.out hk177_1; have q11 := FF.out hk177_2; have q12 := FF.out hp179_5; have q13 := FF.out hp188_6; have q14 := FF.out hp240_5; have q15 := (show (1 : Int32).toInt = 1 from by decide); omega))
                        refine va_iald hx hb hK hP 1 1 rfl rfl hi244_1 dX16_translate_244 ?_
                        refine lv_topi (fun z244_2 ez244_2 => ?_)
                        have r244_3 : rg z244_2 0 60000 := Rg_at hc41_1002 hi244_1 ez244_2
                        refine lv_iload hx hb dX16_translate_245 (lv_at hl 0 rfl) ?_
                        refine lv_isub hx hb dX16_translate_247 ?_
                        refine lv_topi (fun z247_1 ez247_1 => ?_)
                        have r247_2 : rg z247_1 (-59999) 60001 := rg_sub ez247_1 r244_3 r217_2 (by decide)
                        refine lv_imul hx hb dX16_translate_248 ?_
                        refine lv_topi (fun z248_1 ez248_1 => ?_)
                        refine go_i (k1 := 0) (n1 := 0) (wr := [(uwd, .inl (ct 1, 60000, .inl j161_cuwd)), (uwo, .inl (ct 1, 4000, .inl j41_cuwo)), (uob, .inl (ct 1, 60000, .inl g_uob)), (ukk, .inl (ct 1, 11, .inl k_ukk14_15)), (ukl, .inl (ct 2, 11, .inr (.inl k_ukl14_16))), (ukh, .inl (ct 2, 11, .inr (.inl k_ukh14_17))), (uks, .inl (ct 2, 11, .inr (.inl k_uks14_18))), (uko, .inl (ct 2, 11, .inr (.inl k_uko14_19))), (uokd, .inl (ct 1, 44000, .inl k_ukd14_20)), (uolw, .inl (ct 2, 44000, .inr (.inl k_ulw14_21))), (uohg, .inl (ct 2, 44000, .inr (.inl k_uhg14_22))), (uokn, .inl (ct 2, 44000, .inr (.inl k_ukn14_23))), (uoon, .inl (ct 2, 44000, .inr (.inl k_uon14_24))), (uost, .inl (ct 2, 4000, .inr (.inl k_ust14_25))), (uocm, .inl (ct 3, 4000, .inl k_ucm14_26)), (upg, .inl (ct 2, PL, .inr (.inl g_upg))), (mm, .inr (16, j41_amm))]) [] [0, 1, 2, 3, 4, 5, 6, 7, 8, 9, 10, 11, 12, 13, 14, 15, 16] (rn_S (As := [.int z248_1]) (rest := [.int z217_1, .ref uwd]) (c_X16_jump l D ct z248_1  _) (cb_of (n := 1) hn mw_2609 mw_13 mw_2607 mhX16_jump ⟨(Nat.le_of_ble_eq_true rfl), (Nat.le_of_ble_eq_true rfl)⟩) hx hb hml hown hn hK hSK hZ hS mw_2608 rfl hl.1 (Nat.le_of_ble_eq_true rfl) dX16_translate_249 ⟨(Nat.le_of_ble_eq_true rfl), (Nat.le_of_ble_eq_true rfl)⟩) hP hD hS hA rfl rfl (by decide) (by decide) (by decide) (Nat.le_of_ble_eq_true rfl) (Nat.le_of_ble_eq_true rfl) (fun r249_1 u249_2 H locs hp249_3 hP hD hS => ?_)
                        have hP : va_P D vwCl [(uwd, .inl (ct 1, 60000, .inl j161_cuwd)), (uwo, .inl (ct 1, 4000, .inl j41_cuwo)), (uob, .inl (ct 1, 60000, .inl g_uob)), (ukk, .inl (ct 1, 11, .inl k_ukk14_15)), (ukl, .inl (ct 2, 11, .inr (.inl k_ukl14_16))), (ukh, .inl (ct 2, 11, .inr (.inl k_ukh14_17))), (uks, .inl (ct 2, 11, .inr (.inl k_uks14_18))), (uko, .inl (ct 2, 11, .inr (.inl k_uko14_19))), (uokd, .inl (ct 1, 44000, .inl k_ukd14_20)), (uolw, .inl (ct 2, 44000, .inr (.inl k_ulw14_21))), (uohg, .inl (ct 2, 44000, .inr (.inl k_uhg14_22))), (uokn, .inl (ct 2, 44000, .inr (.inl k_ukn14_23))), (uoon, .inl (ct 2, 44000, .inr (.inl k_uon14_24))), (uost, .inl (ct 2, 4000, .inr (.inl k_ust14_25))), (uocm, .inl (ct 3, 4000, .inl k_ucm14_26)), (upg, .inl (ct 2, PL, .inr (.inl g_upg))), (mm, .inr (16, j41_amm))] _ := hP
                        have hD : va_D A [(uwd, .inl (ct 1, 60000, .inl j161_cuwd)), (uwo, .inl (ct 1, 4000, .inl j41_cuwo)), (uob, .inl (ct 1, 60000, .inl g_uob)), (ukk, .inl (ct 1, 11, .inl k_ukk14_15)), (ukl, .inl (ct 2, 11, .inr (.inl k_ukl14_16))), (ukh, .inl (ct 2, 11, .inr (.inl k_ukh14_17))), (uks, .inl (ct 2, 11, .inr (.inl k_uks14_18))), (uko, .inl (ct 2, 11, .inr (.inl k_uko14_19))), (uokd, .inl (ct 1, 44000, .inl k_ukd14_20)), (uolw, .inl (ct 2, 44000, .inr (.inl k_ulw14_21))), (uohg, .inl (ct 2, 44000, .inr (.inl k_uhg14_22))), (uokn, .inl (ct 2, 44000, .inr (.inl k_ukn14_23))), (uoon, .inl (ct 2, 44000, .inr (.inl k_uon14_24))), (uost, .inl (ct 2, 4000, .inr (.inl k_ust14_25))), (uocm, .inl (ct 3, 4000, .inl k_ucm14_26)), (upg, .inl (ct 2, PL, .inr (.inl g_upg))), (mm, .inr (16, j41_amm))] := hD
                        have hi252_1 : vp_in z217_1 60000 := (in_of (show 0 ≤ z217_1.toInt ∧ z217_1.toInt < 60000 by have q0 := r217_2.2; have q1 := (eq_sub ez217_1 r216_1001 (show rg (1 : Int32) 1 1 from rg_l (by decide)) (by decide)); have q2 := FF.out hi216_1002; have q3 := (show (1 : Int32).toInt = 1 from by decide); omega))
                        refine va_iast hx hb hK hP hD hS 0 1 rfl rfl hi252_1 dX16_translate_252 (fun H locs hP hD hS => ?_)
                        have hP : va_P D vwCl [(uwd, .inl (ct 1, 60000, .inl (upd j161_cuwd z217_1.toNatClampNeg r249_1))), (uwo, .inl (ct 1, 4000, .inl j41_cuwo)), (uob, .inl (ct 1, 60000, .inl g_uob)), (ukk, .inl (ct 1, 11, .inl k_ukk14_15)), (ukl, .inl (ct 2, 11, .inr (.inl k_ukl14_16))), (ukh, .inl (ct 2, 11, .inr (.inl k_ukh14_17))), (uks, .inl (ct 2, 11, .inr (.inl k_uks14_18))), (uko, .inl (ct 2, 11, .inr (.inl k_uko14_19))), (uokd, .inl (ct 1, 44000, .inl k_ukd14_20)), (uolw, .inl (ct 2, 44000, .inr (.inl k_ulw14_21))), (uohg, .inl (ct 2, 44000, .inr (.inl k_uhg14_22))), (uokn, .inl (ct 2, 44000, .inr (.inl k_ukn14_23))), (uoon, .inl (ct 2, 44000, .inr (.inl k_uon14_24))), (uost, .inl (ct 2, 4000, .inr (.inl k_ust14_25))), (uocm, .inl (ct 3, 4000, .inl k_ucm14_26)), (upg, .inl (ct 2, PL, .inr (.inl g_upg))), (mm, .inr (16, j41_amm))] _ := hP
                        have hD : va_D A [(uwd, .inl (ct 1, 60000, .inl (upd j161_cuwd z217_1.toNatClampNeg r249_1))), (uwo, .inl (ct 1, 4000, .inl j41_cuwo)), (uob, .inl (ct 1, 60000, .inl g_uob)), (ukk, .inl (ct 1, 11, .inl k_ukk14_15)), (ukl, .inl (ct 2, 11, .inr (.inl k_ukl14_16))), (ukh, .inl (ct 2, 11, .inr (.inl k_ukh14_17))), (uks, .inl (ct 2, 11, .inr (.inl k_uks14_18))), (uko, .inl (ct 2, 11, .inr (.inl k_uko14_19))), (uokd, .inl (ct 1, 44000, .inl k_ukd14_20)), (uolw, .inl (ct 2, 44000, .inr (.inl k_ulw14_21))), (uohg, .inl (ct 2, 44000, .inr (.inl k_uhg14_22))), (uokn, .inl (ct 2, 44000, .inr (.inl k_ukn14_23))), (uoon, .inl (ct 2, 44000, .inr (.inl k_uon14_24))), (uost, .inl (ct 2, 4000, .inr (.inl k_ust14_25))), (uocm, .inl (ct 3, 4000, .inl k_ucm14_26)), (upg, .inl (ct 2, PL, .inr (.inl g_upg))), (mm, .inr (16, j41_amm))] := hD
                        obtain ⟨f252_2, ef252_2⟩ : ∃ z, z = (upd j161_cuwd z217_1.toNatClampNeg r249_1) := ⟨_, rfl⟩
                        rw [← ef252_2] at hP hD
                        exact b253 f252_2 H locs ls  (lv_sub hl [1, 2, 3] rfl) hP hD hS
                      refine lv_icmp_ge (tgt := 212) hx hb dX16_translate_198 (by decide) (fun c198_1 => ?_) (fun c198_1 => ?_)
                      · have t198_2 := FF.mk (i_le c198_1)
                        refine lv_aload_n hx hb dX16_translate_212 rfl (lv_at hl 1 rfl) ?_
                        refine va_get (D := D) (ci := 16) (v := .int j41_fmm_73) (C := RX16) (T := TX16) (N := 78) hx hb (htX16 hn) (fun _ h => h) hown hK hP 16 rfl rfl 73 (by decide) (hn.get mw_1612 rfl) (fun _ h9 => h9) hf41_1032 dX16_translate_213 ?_
                        exact b216 j41_fmm_73 H locs ls r41_1031 (show 1 ≤ j41_fmm_73.toInt ∧ j41_fmm_73.toInt ≤ 60000 by have q0 := r41_1031.2; have q1 := r163_4.1; have q2 := FF.out hi41_1034; have q3 := FF.out t43_2; omega) (lv_sub hl [1, 2, 3] rfl) hP hD hS
                      · have t198_2 := FF.mk (i_nle c198_1)
                        have r198_3 : rg z196_1 1 3999 := rg_ltA t198_2 r196_2 r163_4 (by decide)
                        have r198_4 : rg z32_1 2 4000 := rg_ltB t198_2 r196_2 r163_4 (by decide)
                        refine lv_aload_n hx hb dX16_translate_201 rfl (lv_at hl 1 rfl) ?_
                        refine va_get (D := D) (ci := 16) (v := .ref uwo) (C := RX16) (T := TX16) (N := 78) hx hb (htX16 hn) (fun _ h => h) hown hK hP 16 rfl rfl 74 (by decide) (hn.get mw_1613 rfl) (fun _ h9 => h9) (SB.get hs41_1003 (by decide) hf_mm_74) dX16_translate_202 ?_
                        refine lv_iload_n hx hb dX16_translate_205 rfl (lv_at hl 3 rfl) ?_
                        refine lv_iconst (v := 1) hx hb dX16_translate_206 (by decide) ?_
                        refine lv_iadd hx hb dX16_translate_207 ?_
                        refine lv_topi (fun z207_1 ez207_1 => ?_)
                        obtain rfl : z196_1 = z207_1 := ez196_1.trans ez207_1.symm
                        have hk208_1 : FF (z196_1.toInt ≤ (j41_cuwo z196_1.toNatClampNeg).toInt ∧ (j41_cuwo z196_1.toNatClampNeg).toInt ≤ 60000) := hW159_1 z196_1 (show 0 ≤ z196_1.toInt by have q0 := r198_3.1; omega) (show z196_1.toInt < z32_1.toInt by have q0 := FF.out t198_2; omega)
                        have hi208_2 : vp_in z196_1 4000 := (in_rg r198_3 (by decide))
                        refine va_iald hx hb hK hP 1 1 rfl rfl hi208_2 dX16_translate_208 ?_
                        refine lv_topi (fun z208_3 ez208_3 => ?_)
                        have r208_4 : rg z208_3 0 60000 := Rg_at hc41_1002 hi208_2 ez208_3
                        refine lv_goto (tgt := 216) hx hb dX16_translate_209 (by decide) ?_
                        exact b216 z208_3 H locs ls r208_4 (show 1 ≤ z208_3.toInt ∧ z208_3.toInt ≤ 60000 by have q0 := (congrArg Int32.toInt ez208_3); have q1 := (eq_add ez196_1 r163_3 (show rg (1 : Int32) 1 1 from rg_l (by decide)) (by decide)); have q2 := r163_3.1; have q3 := FF.out hk208_1; have q4 := (show (1 : Int32).toInt = 1 from by decide); omega) (lv_sub hl [1, 2, 3] rfl) hP hD hS
            exact b161 _ (0 : Int32) j41_cuwd H locs ls (rg_w (show rg (0 : Int32) 0 0 from rg_l (by decide)) (by decide)) (Nat.lt_succ_self _) (lv_sub hl [1, 2, 0] rfl) hP hD hS
          · have t43_2 := FF.mk (i_nle c43_1)
            have r43_3 : rg j41_l3 0 3999 := rg_ltA t43_2 r41_1001 r32_2 (by decide)
            have r43_4 : rg z32_1 1 4000 := rg_ltB t43_2 r41_1001 r32_2 (by decide)
            have hk46_1 : FF (((g_upg j41_l3.toNatClampNeg).toInt / 256) % 16 ≤ 10 ∧ ((g_upg j41_l3.toNatClampNeg).toInt / 4096) % 16 ≤ 10 ∧ 0 ≤ srt ((g_upg j41_l3.toNatClampNeg).toInt % 256) ∧ (srt ((g_upg j41_l3.toNatClampNeg).toInt % 256) = 1 ∧ ((g_upg j41_l3.toNatClampNeg).toInt % 256) ≠ 149 → 0 < 1 + (((g_upg j41_l3.toNatClampNeg).toInt / 65536 + 32768) % 65536 - 32768) ∧ j41_l3.toInt + 1 + (((g_upg j41_l3.toNatClampNeg).toInt / 65536 + 32768) % 65536 - 32768) < ((PL : Nat) : Int)) ∧ (j41_l3.toInt = ((PL : Nat) : Int) - 1 → ((g_upg j41_l3.toNatClampNeg).toInt % 256) = 149)) := hO28_1 j41_l3 (show 0 ≤ j41_l3.toInt by have q0 := r43_3.1; omega) (show j41_l3.toInt < ((PL : Nat) : Int) by have q0 := (eq_len ez32_1 (nat4 (FF.out hq0)) (by decide)); have q1 := FF.out t43_2; omega)
            have hk46_2 : FF (14 * ((PL : Nat) : Int) + 6 * ((C4 g_upg PL : Nat) : Int) ≤ 59994 ∧ 14 * j41_l3.toInt + 6 * ((C4 g_upg j41_l3.toNatClampNeg : Nat) : Int) + 14 ≤ 14 * ((PL : Nat) : Int) + 6 * ((C4 g_upg PL : Nat) : Int) ∧ ((g_upg j41_l3.toNatClampNeg).toInt % 256 = 32 ∨ (g_upg j41_l3.toNatClampNeg).toInt % 256 = 64 → 14 * j41_l3.toInt + 6 * ((C4 g_upg j41_l3.toNatClampNeg : Nat) : Int) + 20 ≤ 14 * ((PL : Nat) : Int) + 6 * ((C4 g_upg PL : Nat) : Int))) := PB.at hg2 (show 0 ≤ j41_l3.toInt by have q0 := r43_3.1; omega) (show j41_l3.toInt < ((PL : Nat) : Int) by have q0 := (eq_len ez32_1 (nat4 (FF.out hq0)) (by decide)); have q1 := FF.out t43_2; omega)
            refine lv_aload_n hx hb dX16_translate_46 rfl (lv_at hl 0 rfl) ?_
            refine va_get (D := D) (ci := 16) (v := .ref uwo) (C := RX16) (T := TX16) (N := 78) hx hb (htX16 hn) (fun _ h => h) hown hK hP 16 rfl rfl 74 (by decide) (hn.get mw_1613 rfl) (fun _ h9 => h9) (SB.get hs41_1003 (by decide) hf_mm_74) dX16_translate_47 ?_
            refine lv_iload_n hx hb dX16_translate_50 rfl (lv_at hl 2 rfl) ?_
            refine lv_aload_n hx hb dX16_translate_51 rfl (lv_at hl 0 rfl) ?_
            refine va_get (D := D) (ci := 16) (v := .int j41_fmm_73) (C := RX16) (T := TX16) (N := 78) hx hb (htX16 hn) (fun _ h => h) hown hK hP 16 rfl rfl 73 (by decide) (hn.get mw_1612 rfl) (fun _ h9 => h9) hf41_1032 dX16_translate_52 ?_
            have hi55_1 : vp_in j41_l3 4000 := (in_rg r43_3 (by decide))
            refine va_iast hx hb hK hP hD hS 1 1 rfl rfl hi55_1 dX16_translate_55 (fun H locs hP hD hS => ?_)
            have hP : va_P D vwCl [(uwd, .inl (ct 1, 60000, .inl j41_cuwd)), (uwo, .inl (ct 1, 4000, .inl (upd j41_cuwo j41_l3.toNatClampNeg j41_fmm_73))), (uob, .inl (ct 1, 60000, .inl g_uob)), (ukk, .inl (ct 1, 11, .inl k_ukk14_15)), (ukl, .inl (ct 2, 11, .inr (.inl k_ukl14_16))), (ukh, .inl (ct 2, 11, .inr (.inl k_ukh14_17))), (uks, .inl (ct 2, 11, .inr (.inl k_uks14_18))), (uko, .inl (ct 2, 11, .inr (.inl k_uko14_19))), (uokd, .inl (ct 1, 44000, .inl k_ukd14_20)), (uolw, .inl (ct 2, 44000, .inr (.inl k_ulw14_21))), (uohg, .inl (ct 2, 44000, .inr (.inl k_uhg14_22))), (uokn, .inl (ct 2, 44000, .inr (.inl k_ukn14_23))), (uoon, .inl (ct 2, 44000, .inr (.inl k_uon14_24))), (uost, .inl (ct 2, 4000, .inr (.inl k_ust14_25))), (uocm, .inl (ct 3, 4000, .inl k_ucm14_26)), (upg, .inl (ct 2, PL, .inr (.inl g_upg))), (mm, .inr (16, j41_amm))] _ := hP
            have hD : va_D A [(uwd, .inl (ct 1, 60000, .inl j41_cuwd)), (uwo, .inl (ct 1, 4000, .inl (upd j41_cuwo j41_l3.toNatClampNeg j41_fmm_73))), (uob, .inl (ct 1, 60000, .inl g_uob)), (ukk, .inl (ct 1, 11, .inl k_ukk14_15)), (ukl, .inl (ct 2, 11, .inr (.inl k_ukl14_16))), (ukh, .inl (ct 2, 11, .inr (.inl k_ukh14_17))), (uks, .inl (ct 2, 11, .inr (.inl k_uks14_18))), (uko, .inl (ct 2, 11, .inr (.inl k_uko14_19))), (uokd, .inl (ct 1, 44000, .inl k_ukd14_20)), (uolw, .inl (ct 2, 44000, .inr (.inl k_ulw14_21))), (uohg, .inl (ct 2, 44000, .inr (.inl k_uhg14_22))), (uokn, .inl (ct 2, 44000, .inr (.inl k_ukn14_23))), (uoon, .inl (ct 2, 44000, .inr (.inl k_uon14_24))), (uost, .inl (ct 2, 4000, .inr (.inl k_ust14_25))), (uocm, .inl (ct 3, 4000, .inl k_ucm14_26)), (upg, .inl (ct 2, PL, .inr (.inl g_upg))), (mm, .inr (16, j41_amm))] := hD
            obtain ⟨f55_2, ef55_2⟩ : ∃ z, z = (upd j41_cuwo j41_l3.toNatClampNeg j41_fmm_73) := ⟨_, rfl⟩
            rw [← ef55_2] at hP hD
            have hc55_3 : Rg f55_2 4000 0 60000 := Rg_upd ef55_2 hc41_1002 r41_1031
            refine lv_aload_n hx hb dX16_translate_56 rfl (lv_at hl 0 rfl) ?_
            refine va_get (D := D) (ci := 16) (v := .ref upg) (C := RX16) (T := TX16) (N := 78) hx hb (htX16 hn) (fun _ h => h) hown hK hP 16 rfl rfl 26 (by decide) (hn.get mw_1565 rfl) (fun _ h9 => h9) (SB.get hs41_1003 (by decide) hf_mm_26) dX16_translate_57 ?_
            refine lv_iload_n hx hb dX16_translate_60 rfl (lv_at hl 2 rfl) ?_
            have hi61_1 : vp_in j41_l3 PL := (in_of (show 0 ≤ j41_l3.toInt ∧ j41_l3.toInt < ((PL : Nat) : Int) by have q0 := r43_3.1; have q1 := (eq_len ez32_1 (nat4 (FF.out hq0)) (by decide)); have q2 := FF.out t43_2; omega))
            refine va_lald hx hb hK hP 15 2 rfl rfl hi61_1 dX16_translate_61 ?_
            refine lv_topl (fun z61_2 ez61_2 => ?_)
            refine go_i (k1 := 0) (n1 := 0) (wr := [(uwd, .inl (ct 1, 60000, .inl j41_cuwd)), (uwo, .inl (ct 1, 4000, .inl f55_2)), (uob, .inl (ct 1, 60000, .inl g_uob)), (ukk, .inl (ct 1, 11, .inl k_ukk14_15)), (ukl, .inl (ct 2, 11, .inr (.inl k_ukl14_16))), (ukh, .inl (ct 2, 11, .inr (.inl k_ukh14_17))), (uks, .inl (ct 2, 11, .inr (.inl k_uks14_18))), (uko, .inl (ct 2, 11, .inr (.inl k_uko14_19))), (uokd, .inl (ct 1, 44000, .inl k_ukd14_20)), (uolw, .inl (ct 2, 44000, .inr (.inl k_ulw14_21))), (uohg, .inl (ct 2, 44000, .inr (.inl k_uhg14_22))), (uokn, .inl (ct 2, 44000, .inr (.inl k_ukn14_23))), (uoon, .inl (ct 2, 44000, .inr (.inl k_uon14_24))), (uost, .inl (ct 2, 4000, .inr (.inl k_ust14_25))), (uocm, .inl (ct 3, 4000, .inl k_ucm14_26)), (upg, .inl (ct 2, PL, .inr (.inl g_upg))), (mm, .inr (16, j41_amm))]) [] [0, 1, 2, 3, 4, 5, 6, 7, 8, 9, 10, 11, 12, 13, 14, 15, 16] (rn_S (As := [.long z61_2]) (rest := []) (c_X16_codeOf l D ct z61_2  _) (cb_of (n := 1) hn mw_2322 mw_13 mw_2320 mhX16_codeOf ⟨(Nat.le_of_ble_eq_true rfl), (Nat.le_of_ble_eq_true rfl)⟩) hx hb hml hown hn hK hSK hZ hS mw_2321 rfl hl.1 (Nat.le_of_ble_eq_true rfl) dX16_translate_62 ⟨(Nat.le_of_ble_eq_true rfl), (Nat.le_of_ble_eq_true rfl)⟩) hP hD hS hA rfl rfl (by decide) (by decide) (by decide) (Nat.le_of_ble_eq_true rfl) (Nat.le_of_ble_eq_true rfl) (fun r62_1 u62_2 H locs hp62_3 hP hD hS => ?_)
            obtain ⟨hp62_4, hp62_5⟩ := hp62_3
            have hp62_4 : rg r62_1 0 255 := hp62_4
            replace hp62_5 : FF (r62_1.toInt = z61_2.toInt % 256) := hp62_5
            have hP : va_P D vwCl [(uwd, .inl (ct 1, 60000, .inl j41_cuwd)), (uwo, .inl (ct 1, 4000, .inl f55_2)), (uob, .inl (ct 1, 60000, .inl g_uob)), (ukk, .inl (ct 1, 11, .inl k_ukk14_15)), (ukl, .inl (ct 2, 11, .inr (.inl k_ukl14_16))), (ukh, .inl (ct 2, 11, .inr (.inl k_ukh14_17))), (uks, .inl (ct 2, 11, .inr (.inl k_uks14_18))), (uko, .inl (ct 2, 11, .inr (.inl k_uko14_19))), (uokd, .inl (ct 1, 44000, .inl k_ukd14_20)), (uolw, .inl (ct 2, 44000, .inr (.inl k_ulw14_21))), (uohg, .inl (ct 2, 44000, .inr (.inl k_uhg14_22))), (uokn, .inl (ct 2, 44000, .inr (.inl k_ukn14_23))), (uoon, .inl (ct 2, 44000, .inr (.inl k_uon14_24))), (uost, .inl (ct 2, 4000, .inr (.inl k_ust14_25))), (uocm, .inl (ct 3, 4000, .inl k_ucm14_26)), (upg, .inl (ct 2, PL, .inr (.inl g_upg))), (mm, .inr (16, j41_amm))] _ := hP
            have hD : va_D A [(uwd, .inl (ct 1, 60000, .inl j41_cuwd)), (uwo, .inl (ct 1, 4000, .inl f55_2)), (uob, .inl (ct 1, 60000, .inl g_uob)), (ukk, .inl (ct 1, 11, .inl k_ukk14_15)), (ukl, .inl (ct 2, 11, .inr (.inl k_ukl14_16))), (ukh, .inl (ct 2, 11, .inr (.inl k_ukh14_17))), (uks, .inl (ct 2, 11, .inr (.inl k_uks14_18))), (uko, .inl (ct 2, 11, .inr (.inl k_uko14_19))), (uokd, .inl (ct 1, 44000, .inl k_ukd14_20)), (uolw, .inl (ct 2, 44000, .inr (.inl k_ulw14_21))), (uohg, .inl (ct 2, 44000, .inr (.inl k_uhg14_22))), (uokn, .inl (ct 2, 44000, .inr (.inl k_ukn14_23))), (uoon, .inl (ct 2, 44000, .inr (.inl k_uon14_24))), (uost, .inl (ct 2, 4000, .inr (.inl k_ust14_25))), (uocm, .inl (ct 3, 4000, .inl k_ucm14_26)), (upg, .inl (ct 2, PL, .inr (.inl g_upg))), (mm, .inr (16, j41_amm))] := hD
            have hk65_1 : FF (srt r62_1.toInt = srt ((g_upg j41_l3.toNatClampNeg).toInt % 256)) := congrArg srt (show r62_1.toInt = (g_upg j41_l3.toNatClampNeg).toInt % 256 by have q0 := (congrArg Int64.toInt ez61_2); have q1 := FF.out hp62_5; omega)
            refine go_i (k1 := 0) (n1 := 0) (wr := [(uwd, .inl (ct 1, 60000, .inl j41_cuwd)), (uwo, .inl (ct 1, 4000, .inl f55_2)), (uob, .inl (ct 1, 60000, .inl g_uob)), (ukk, .inl (ct 1, 11, .inl k_ukk14_15)), (ukl, .inl (ct 2, 11, .inr (.inl k_ukl14_16))), (ukh, .inl (ct 2, 11, .inr (.inl k_ukh14_17))), (uks, .inl (ct 2, 11, .inr (.inl k_uks14_18))), (uko, .inl (ct 2, 11, .inr (.inl k_uko14_19))), (uokd, .inl (ct 1, 44000, .inl k_ukd14_20)), (uolw, .inl (ct 2, 44000, .inr (.inl k_ulw14_21))), (uohg, .inl (ct 2, 44000, .inr (.inl k_uhg14_22))), (uokn, .inl (ct 2, 44000, .inr (.inl k_ukn14_23))), (uoon, .inl (ct 2, 44000, .inr (.inl k_uon14_24))), (uost, .inl (ct 2, 4000, .inr (.inl k_ust14_25))), (uocm, .inl (ct 3, 4000, .inl k_ucm14_26)), (upg, .inl (ct 2, PL, .inr (.inl g_upg))), (mm, .inr (16, j41_amm))]) [] [0, 1, 2, 3, 4, 5, 6, 7, 8, 9, 10, 11, 12, 13, 14, 15, 16] (rn_S (As := [.int r62_1]) (rest := []) (c_X16_sortOf l D ct r62_1 hp62_4 _) (cb_of (n := 1) hn mw_2325 mw_13 mw_2323 mhX16_sortOf ⟨(Nat.le_of_ble_eq_true rfl), (Nat.le_of_ble_eq_true rfl)⟩) hx hb hml hown hn hK hSK hZ hS mw_2324 rfl hl.1 (Nat.le_of_ble_eq_true rfl) dX16_translate_65 ⟨(Nat.le_of_ble_eq_true rfl), (Nat.le_of_ble_eq_true rfl)⟩) hP hD hS hA rfl rfl (by decide) (by decide) (by decide) (Nat.le_of_ble_eq_true rfl) (Nat.le_of_ble_eq_true rfl) (fun r65_2 u65_3 H locs hp65_4 hP hD hS => ?_)
            obtain ⟨hp65_5, hp65_6, hp65_7, hp65_8⟩ := hp65_4
            have hp65_5 : rg r65_2 (-1) 6 := hp65_5
            replace hp65_6 : FF (r65_2.toInt = srt r62_1.toInt) := hp65_6
            replace hp65_7 : FF (r65_2.toInt = 5 ∨ r65_2.toInt = 6 → (r62_1.toInt = 32 ∨ r62_1.toInt = 40 ∨ r62_1.toInt = 48 ∨ r62_1.toInt = 64 ∨ r62_1.toInt = 72 ∨ r62_1.toInt = 80)) := hp65_7
            replace hp65_8 : FF (r62_1.toInt = 149 → r65_2.toInt = 1) := hp65_8
            have hP : va_P D vwCl [(uwd, .inl (ct 1, 60000, .inl j41_cuwd)), (uwo, .inl (ct 1, 4000, .inl f55_2)), (uob, .inl (ct 1, 60000, .inl g_uob)), (ukk, .inl (ct 1, 11, .inl k_ukk14_15)), (ukl, .inl (ct 2, 11, .inr (.inl k_ukl14_16))), (ukh, .inl (ct 2, 11, .inr (.inl k_ukh14_17))), (uks, .inl (ct 2, 11, .inr (.inl k_uks14_18))), (uko, .inl (ct 2, 11, .inr (.inl k_uko14_19))), (uokd, .inl (ct 1, 44000, .inl k_ukd14_20)), (uolw, .inl (ct 2, 44000, .inr (.inl k_ulw14_21))), (uohg, .inl (ct 2, 44000, .inr (.inl k_uhg14_22))), (uokn, .inl (ct 2, 44000, .inr (.inl k_ukn14_23))), (uoon, .inl (ct 2, 44000, .inr (.inl k_uon14_24))), (uost, .inl (ct 2, 4000, .inr (.inl k_ust14_25))), (uocm, .inl (ct 3, 4000, .inl k_ucm14_26)), (upg, .inl (ct 2, PL, .inr (.inl g_upg))), (mm, .inr (16, j41_amm))] _ := hP
            have hD : va_D A [(uwd, .inl (ct 1, 60000, .inl j41_cuwd)), (uwo, .inl (ct 1, 4000, .inl f55_2)), (uob, .inl (ct 1, 60000, .inl g_uob)), (ukk, .inl (ct 1, 11, .inl k_ukk14_15)), (ukl, .inl (ct 2, 11, .inr (.inl k_ukl14_16))), (ukh, .inl (ct 2, 11, .inr (.inl k_ukh14_17))), (uks, .inl (ct 2, 11, .inr (.inl k_uks14_18))), (uko, .inl (ct 2, 11, .inr (.inl k_uko14_19))), (uokd, .inl (ct 1, 44000, .inl k_ukd14_20)), (uolw, .inl (ct 2, 44000, .inr (.inl k_ulw14_21))), (uohg, .inl (ct 2, 44000, .inr (.inl k_uhg14_22))), (uokn, .inl (ct 2, 44000, .inr (.inl k_ukn14_23))), (uoon, .inl (ct 2, 44000, .inr (.inl k_uon14_24))), (uost, .inl (ct 2, 4000, .inr (.inl k_ust14_25))), (uocm, .inl (ct 3, 4000, .inl k_ucm14_26)), (upg, .inl (ct 2, PL, .inr (.inl g_upg))), (mm, .inr (16, j41_amm))] := hD
            have b153 : ∀ (j153_amm : List Value) (j153_fmm_73 : Int32) (j153_cuwd : Nat → Int32) (H : Heap) (locs : List Loc) (ls : Array Slot), (SB fs_mm j153_amm [39, 40, 41, 42, 43, 44, 45, 46, 47, 48, 49, 50, 51, 52, 53, 54, 60, 61, 62, 63, 64, 65, 66, 67, 68, 70, 71, 73]) → (j153_amm[70]? = some (.int x_mm_70)) → (j153_amm[71]? = some (.int x_mm_71)) → (j153_amm[47]? = some (.long y_mm_4714_6)) → (j153_amm[48]? = some (.long y_mm_4814_7)) → (j153_amm[49]? = some (.long y_mm_4914_8)) → (j153_amm[50]? = some (.long y_mm_5014_9)) → (j153_amm[51]? = some (.long y_mm_5114_10)) → (j153_amm[52]? = some (.long y_mm_5214_11)) → (j153_amm[53]? = some (.long y_mm_5314_12)) → (j153_amm[54]? = some (.long y_mm_5414_13)) → (j153_amm[60]? = some (.long y_mm_6014_14)) → (j153_amm[39]? = some (.ref ukd)) → (j153_amm[40]? = some (.ref ulw)) → (j153_amm[41]? = some (.ref uhg)) → (j153_amm[42]? = some (.ref ukn)) → (j153_amm[43]? = some (.ref uon)) → (j153_amm[44]? = some (.ref ust)) → (j153_amm[45]? = some (.ref ucm)) → (j153_amm[46]? = some (.int x_mm_46)) → (j153_amm[61]? = some (.ref uokd)) → (j153_amm[62]? = some (.ref uolw)) → (j153_amm[63]? = some (.ref uohg)) → (j153_amm[64]? = some (.ref uokn)) → (j153_amm[65]? = some (.ref uoon)) → (j153_amm[66]? = some (.ref uost)) → (j153_amm[67]? = some (.ref uocm)) → (j153_amm[68]? = some (.int y_mm_4614_5)) → (rg j153_fmm_73 0 60000) → (j153_amm[73]? = some (.int j153_fmm_73)) → (FF (j41_fmm_73.toInt + 1 ≤ j153_fmm_73.toInt ∧ j153_fmm_73.toInt ≤ j41_fmm_73.toInt + 20)) → (FF (j41_l3.toInt + 1 ≤ j153_fmm_73.toInt)) → (FF (j153_fmm_73.toInt ≤ 60000)) → (FF (((g_upg j41_l3.toNatClampNeg).toInt % 256 = 32 ∨ (g_upg j41_l3.toNatClampNeg).toInt % 256 = 64) ∨ j153_fmm_73.toInt ≤ j41_fmm_73.toInt + 14)) → lv_has ls 6 [(0, .ref mm), (2, .int z32_1), (3, .int j41_l3)] → va_P D vwCl [(uwo, .inl (ct 1, 4000, .inl f55_2)), (uob, .inl (ct 1, 60000, .inl g_uob)), (ukk, .inl (ct 1, 11, .inl k_ukk14_15)), (ukl, .inl (ct 2, 11, .inr (.inl k_ukl14_16))), (ukh, .inl (ct 2, 11, .inr (.inl k_ukh14_17))), (uks, .inl (ct 2, 11, .inr (.inl k_uks14_18))), (uko, .inl (ct 2, 11, .inr (.inl k_uko14_19))), (uokd, .inl (ct 1, 44000, .inl k_ukd14_20)), (uolw, .inl (ct 2, 44000, .inr (.inl k_ulw14_21))), (uohg, .inl (ct 2, 44000, .inr (.inl k_uhg14_22))), (uokn, .inl (ct 2, 44000, .inr (.inl k_ukn14_23))), (uoon, .inl (ct 2, 44000, .inr (.inl k_uon14_24))), (uost, .inl (ct 2, 4000, .inr (.inl k_ust14_25))), (uocm, .inl (ct 3, 4000, .inl k_ucm14_26)), (upg, .inl (ct 2, PL, .inr (.inl g_upg))), (mm, .inr (16, j153_amm)), (uwd, .inl (ct 1, 60000, .inl j153_cuwd))] H → va_D A [(uwo, .inl (ct 1, 4000, .inl f55_2)), (uob, .inl (ct 1, 60000, .inl g_uob)), (ukk, .inl (ct 1, 11, .inl k_ukk14_15)), (ukl, .inl (ct 2, 11, .inr (.inl k_ukl14_16))), (ukh, .inl (ct 2, 11, .inr (.inl k_ukh14_17))), (uks, .inl (ct 2, 11, .inr (.inl k_uks14_18))), (uko, .inl (ct 2, 11, .inr (.inl k_uko14_19))), (uokd, .inl (ct 1, 44000, .inl k_ukd14_20)), (uolw, .inl (ct 2, 44000, .inr (.inl k_ulw14_21))), (uohg, .inl (ct 2, 44000, .inr (.inl k_uhg14_22))), (uokn, .inl (ct 2, 44000, .inr (.inl k_ukn14_23))), (uoon, .inl (ct 2, 44000, .inr (.inl k_uon14_24))), (uost, .inl (ct 2, 4000, .inr (.inl k_ust14_25))), (uocm, .inl (ct 3, 4000, .inl k_ucm14_26)), (upg, .inl (ct 2, PL, .inr (.inl g_upg))), (mm, .inr (16, j153_amm)), (uwd, .inl (ct 1, 60000, .inl j153_cuwd))] → va_S A s.heap H locs → W p l e ({ frames := 10, cells := 0, slots := 0, locals := 242 }) s m [.ref mm].toArray below meth c H locs 0 0 Q (F0 m 153 ls []) := by
              intro j153_amm j153_fmm_73 j153_cuwd H locs ls hs153_1001 hf153_1002 hf153_1003 hf153_1004 hf153_1005 hf153_1006 hf153_1007 hf153_1008 hf153_1009 hf153_1010 hf153_1011 hf153_1012 hf153_1013 hf153_1014 hf153_1015 hf153_1016 hf153_1017 hf153_1018 hf153_1019 hf153_1020 hf153_1021 hf153_1022 hf153_1023 hf153_1024 hf153_1025 hf153_1026 hf153_1027 hf153_1028 r153_1029 hf153_1030 ho153_1031 hi153_1032 hi153_1033 hi153_1034 hl hP hD hS
              obtain ⟨x153_1, ex153_1⟩ : ∃ z : Int32, z = j41_l3 + 1 := ⟨_, rfl⟩
              have r153_2 : rg x153_1 1 4000 := rg_add ex153_1 r43_3 (show rg (1 : Int32) 1 1 from rg_l (by decide)) (by decide)
              refine lv_iinc (v := x153_1) (lv' := [(3, .int x153_1), (0, .ref mm), (2, .int z32_1)]) hx hb dX16_translate_153 hl (k := 2) rfl (by rw [ex153_1]; rfl) (by decide) rfl (fun ls hl => ?_)
              have hk156_1 : FF ((((C4 g_upg x153_1.toNatClampNeg : Nat) : Int) = ((C4 g_upg j41_l3.toNatClampNeg : Nat) : Int) ∧ ¬ ((g_upg j41_l3.toNatClampNeg).toInt % 256 = 32 ∨ (g_upg j41_l3.toNatClampNeg).toInt % 256 = 64)) ∨ (((C4 g_upg x153_1.toNatClampNeg : Nat) : Int) = ((C4 g_upg j41_l3.toNatClampNeg : Nat) : Int) + 1 ∧ ((g_upg j41_l3.toNatClampNeg).toInt % 256 = 32 ∨ (g_upg j41_l3.toNatClampNeg).toInt % 256 = 64))) := C4.step (show 0 ≤ j41_l3.toInt by have q0 := r43_3.1; omega) (show x153_1.toInt = j41_l3.toInt + 1 by have q0 := (eq_add ex153_1 r43_3 (show rg (1 : Int32) 1 1 from rg_l (by decide)) (by decide)); have q1 := (show (1 : Int32).toInt = 1 from by decide); omega)
              refine lv_goto (tgt := 41) hx hb dX16_translate_156 (by decide) ?_
              have hP := hP.sub (ws' := [(uwd, .inl (ct 1, 60000, .inl j153_cuwd)), (uwo, .inl (ct 1, 4000, .inl f55_2)), (uob, .inl (ct 1, 60000, .inl g_uob)), (ukk, .inl (ct 1, 11, .inl k_ukk14_15)), (ukl, .inl (ct 2, 11, .inr (.inl k_ukl14_16))), (ukh, .inl (ct 2, 11, .inr (.inl k_ukh14_17))), (uks, .inl (ct 2, 11, .inr (.inl k_uks14_18))), (uko, .inl (ct 2, 11, .inr (.inl k_uko14_19))), (uokd, .inl (ct 1, 44000, .inl k_ukd14_20)), (uolw, .inl (ct 2, 44000, .inr (.inl k_ulw14_21))), (uohg, .inl (ct 2, 44000, .inr (.inl k_uhg14_22))), (uokn, .inl (ct 2, 44000, .inr (.inl k_ukn14_23))), (uoon, .inl (ct 2, 44000, .inr (.inl k_uon14_24))), (uost, .inl (ct 2, 4000, .inr (.inl k_ust14_25))), (uocm, .inl (ct 3, 4000, .inl k_ucm14_26)), (upg, .inl (ct 2, PL, .inr (.inl g_upg))), (mm, .inr (16, j153_amm))]) [16, 0, 1, 2, 3, 4, 5, 6, 7, 8, 9, 10, 11, 12, 13, 14, 15] rfl
              have hD := hD.sub (ws' := [(uwd, .inl (ct 1, 60000, .inl j153_cuwd)), (uwo, .inl (ct 1, 4000, .inl f55_2)), (uob, .inl (ct 1, 60000, .inl g_uob)), (ukk, .inl (ct 1, 11, .inl k_ukk14_15)), (ukl, .inl (ct 2, 11, .inr (.inl k_ukl14_16))), (ukh, .inl (ct 2, 11, .inr (.inl k_ukh14_17))), (uks, .inl (ct 2, 11, .inr (.inl k_uks14_18))), (uko, .inl (ct 2, 11, .inr (.inl k_uko14_19))), (uokd, .inl (ct 1, 44000, .inl k_ukd14_20)), (uolw, .inl (ct 2, 44000, .inr (.inl k_ulw14_21))), (uohg, .inl (ct 2, 44000, .inr (.inl k_uhg14_22))), (uokn, .inl (ct 2, 44000, .inr (.inl k_ukn14_23))), (uoon, .inl (ct 2, 44000, .inr (.inl k_uon14_24))), (uost, .inl (ct 2, 4000, .inr (.inl k_ust14_25))), (uocm, .inl (ct 3, 4000, .inl k_ucm14_26)), (upg, .inl (ct 2, PL, .inr (.inl g_upg))), (mm, .inr (16, j153_amm))]) [16, 0, 1, 2, 3, 4, 5, 6, 7, 8, 9, 10, 11, 12, 13, 14, 15] (by decide) rfl
              exact ih41 x153_1 j153_cuwd f55_2 j153_amm j153_fmm_73 H locs ls (rg_w r153_2 (by decide)) hc55_3 hs153_1001 hf153_1002 hf153_1003 hf153_1004 hf153_1005 hf153_1006 hf153_1007 hf153_1008 hf153_1009 hf153_1010 hf153_1011 hf153_1012 hf153_1013 hf153_1014 hf153_1015 hf153_1016 hf153_1017 hf153_1018 hf153_1019 hf153_1020 hf153_1021 hf153_1022 hf153_1023 hf153_1024 hf153_1025 hf153_1026 hf153_1027 hf153_1028 r153_1029 hf153_1030 (WOk.step hg41_1033 ef55_2 rfl (show x153_1.toInt = j41_l3.toInt + 1 by have q0 := (eq_add ex153_1 r43_3 (show rg (1 : Int32) 1 1 from rg_l (by decide)) (by decide)); have q1 := (show (1 : Int32).toInt = 1 from by decide); omega) (show j41_l3.toInt ≤ j41_fmm_73.toInt ∧ j41_fmm_73.toInt ≤ 60000 by have q0 := r153_1029.2; have q1 := FF.out hi41_1034; have q2 := FF.out ho153_1031; omega)) (show j153_fmm_73.toInt ≤ 14 * x153_1.toInt + 6 * ((C4 g_upg x153_1.toNatClampNeg : Nat) : Int) ∧ x153_1.toInt ≤ j153_fmm_73.toInt by have q0 := (eq_add ex153_1 r43_3 (show rg (1 : Int32) 1 1 from rg_l (by decide)) (by decide)); have q1 := FF.out hi41_1034; have q2 := FF.out ho153_1031; have q3 := FF.out hi153_1032; have q4 := FF.out hi153_1034; have q5 := FF.out hk156_1; have q6 := (show (1 : Int32).toInt = 1 from by decide); omega) (show ((2147483647 : Int) - x153_1.toInt).toNat < n41 by have q0 := r43_3.2; have q1 := (eq_add ex153_1 r43_3 (show rg (1 : Int32) 1 1 from rg_l (by decide)) (by decide)); have q2 := (show (1 : Int32).toInt = 1 from by decide); have q3 := hms41; omega) (lv_sub hl [1, 2, 0] rfl) hP hD hS
            have b130 : ∀  (H : Heap) (locs : List Loc) (ls : Array Slot), lv_has ls 6 [(0, .ref mm), (2, .int z32_1), (3, .int j41_l3)] → va_P D vwCl [(uwd, .inl (ct 1, 60000, .inl j41_cuwd)), (uwo, .inl (ct 1, 4000, .inl f55_2)), (uob, .inl (ct 1, 60000, .inl g_uob)), (ukk, .inl (ct 1, 11, .inl k_ukk14_15)), (ukl, .inl (ct 2, 11, .inr (.inl k_ukl14_16))), (ukh, .inl (ct 2, 11, .inr (.inl k_ukh14_17))), (uks, .inl (ct 2, 11, .inr (.inl k_uks14_18))), (uko, .inl (ct 2, 11, .inr (.inl k_uko14_19))), (uokd, .inl (ct 1, 44000, .inl k_ukd14_20)), (uolw, .inl (ct 2, 44000, .inr (.inl k_ulw14_21))), (uohg, .inl (ct 2, 44000, .inr (.inl k_uhg14_22))), (uokn, .inl (ct 2, 44000, .inr (.inl k_ukn14_23))), (uoon, .inl (ct 2, 44000, .inr (.inl k_uon14_24))), (uost, .inl (ct 2, 4000, .inr (.inl k_ust14_25))), (uocm, .inl (ct 3, 4000, .inl k_ucm14_26)), (upg, .inl (ct 2, PL, .inr (.inl g_upg))), (mm, .inr (16, j41_amm))] H → va_D A [(uwd, .inl (ct 1, 60000, .inl j41_cuwd)), (uwo, .inl (ct 1, 4000, .inl f55_2)), (uob, .inl (ct 1, 60000, .inl g_uob)), (ukk, .inl (ct 1, 11, .inl k_ukk14_15)), (ukl, .inl (ct 2, 11, .inr (.inl k_ukl14_16))), (ukh, .inl (ct 2, 11, .inr (.inl k_ukh14_17))), (uks, .inl (ct 2, 11, .inr (.inl k_uks14_18))), (uko, .inl (ct 2, 11, .inr (.inl k_uko14_19))), (uokd, .inl (ct 1, 44000, .inl k_ukd14_20)), (uolw, .inl (ct 2, 44000, .inr (.inl k_ulw14_21))), (uohg, .inl (ct 2, 44000, .inr (.inl k_uhg14_22))), (uokn, .inl (ct 2, 44000, .inr (.inl k_ukn14_23))), (uoon, .inl (ct 2, 44000, .inr (.inl k_uon14_24))), (uost, .inl (ct 2, 4000, .inr (.inl k_ust14_25))), (uocm, .inl (ct 3, 4000, .inl k_ucm14_26)), (upg, .inl (ct 2, PL, .inr (.inl g_upg))), (mm, .inr (16, j41_amm))] → va_S A s.heap H locs → W p l e ({ frames := 10, cells := 0, slots := 0, locals := 242 }) s m [.ref mm].toArray below meth c H locs 0 0 Q (F0 m 130 ls []) := by
              intro  H locs ls  hl hP hD hS
              refine lv_aload_n hx hb dX16_translate_130 rfl (lv_at hl 0 rfl) ?_
              refine lv_aload_n hx hb dX16_translate_131 rfl (lv_at hl 0 rfl) ?_
              refine va_get (D := D) (ci := 16) (v := .ref upg) (C := RX16) (T := TX16) (N := 78) hx hb (htX16 hn) (fun _ h => h) hown hK hP 16 rfl rfl 26 (by decide) (hn.get mw_1565 rfl) (fun _ h9 => h9) (SB.get hs41_1003 (by decide) hf_mm_26) dX16_translate_132 ?_
              refine lv_iload_n hx hb dX16_translate_135 rfl (lv_at hl 2 rfl) ?_
              have hi136_1 : vp_in j41_l3 PL := (in_of (show 0 ≤ j41_l3.toInt ∧ j41_l3.toInt < ((PL : Nat) : Int) by have q0 := r43_3.1; have q1 := (eq_len ez32_1 (nat4 (FF.out hq0)) (by decide)); have q2 := FF.out t43_2; omega))
              refine va_lald hx hb hK hP 15 2 rfl rfl hi136_1 dX16_translate_136 ?_
              refine lv_topl (fun z136_2 ez136_2 => ?_)
              obtain rfl : z61_2 = z136_2 := ez61_2.trans ez136_2.symm
              refine go_v (k1 := 0) (n1 := 0) (wr := [(uwo, .inl (ct 1, 4000, .inl f55_2)), (uob, .inl (ct 1, 60000, .inl g_uob)), (ukk, .inl (ct 1, 11, .inl k_ukk14_15)), (ukl, .inl (ct 2, 11, .inr (.inl k_ukl14_16))), (ukh, .inl (ct 2, 11, .inr (.inl k_ukh14_17))), (uks, .inl (ct 2, 11, .inr (.inl k_uks14_18))), (uko, .inl (ct 2, 11, .inr (.inl k_uko14_19))), (uokd, .inl (ct 1, 44000, .inl k_ukd14_20)), (uolw, .inl (ct 2, 44000, .inr (.inl k_ulw14_21))), (uohg, .inl (ct 2, 44000, .inr (.inl k_uhg14_22))), (uokn, .inl (ct 2, 44000, .inr (.inl k_ukn14_23))), (uoon, .inl (ct 2, 44000, .inr (.inl k_uon14_24))), (uost, .inl (ct 2, 4000, .inr (.inl k_ust14_25))), (uocm, .inl (ct 3, 4000, .inl k_ucm14_26)), (upg, .inl (ct 2, PL, .inr (.inl g_upg)))]) [16, 0] [1, 2, 3, 4, 5, 6, 7, 8, 9, 10, 11, 12, 13, 14, 15] (rn_V (As := [.long z61_2]) (rest := []) (c_X16_memoryWords l D ct mm z61_2 j41_amm uwd j41_fmm_73 j41_cuwd (hs41_1003.1.trans hlen_mm) (SB.get hs41_1003 (by decide) hf_mm_72) (rg_of (show 0 ≤ j41_fmm_73.toInt ∧ j41_fmm_73.toInt ≤ 59994 by have q0 := r41_1031.1; have q1 := FF.out hi41_1034; have q2 := FF.out hk46_2; omega)) hf41_1032 _) (cb_of (n := 1) hn mw_2635 mw_13 mw_2632 mhX16_memoryWords ⟨(Nat.le_of_ble_eq_true rfl), (Nat.le_of_ble_eq_true rfl)⟩) hx hb hml hown hn hK hSK hZ hS mw_2634 mw_s270 (ci := 16) (q0 := 0) rfl rfl rfl rfl hl.1 (Nat.le_of_ble_eq_true rfl) dX16_translate_137 ⟨(Nat.le_of_ble_eq_true rfl), (Nat.le_of_ble_eq_true rfl)⟩) hP hD hS hA rfl rfl (by decide) (by decide) (by decide) (Nat.le_of_ble_eq_true rfl) (Nat.le_of_ble_eq_true rfl) (fun u137_2 H locs hp137_3 hP hD hS => ?_)
              obtain ⟨fs2_mm137_4, y_mm_73137_5, k_uwd137_6⟩ := u137_2
              obtain ⟨hp137_7, hp137_8, hp137_9, hp137_10⟩ := hp137_3
              have hs137_11 : SB fs_mm fs2_mm137_4 [39, 40, 41, 42, 43, 44, 45, 46, 47, 48, 49, 50, 51, 52, 53, 54, 60, 61, 62, 63, 64, 65, 66, 67, 68, 70, 71, 73] := SB.trans hs41_1003 hp137_7 (by decide)
              have hf137_12 : fs2_mm137_4[70]? = some (.int x_mm_70) := SB.get hp137_7 (by decide) hf41_1004
              have hf137_13 : fs2_mm137_4[71]? = some (.int x_mm_71) := SB.get hp137_7 (by decide) hf41_1005
              have hf137_14 : fs2_mm137_4[47]? = some (.long y_mm_4714_6) := SB.get hp137_7 (by decide) hf41_1006
              have hf137_15 : fs2_mm137_4[48]? = some (.long y_mm_4814_7) := SB.get hp137_7 (by decide) hf41_1007
              have hf137_16 : fs2_mm137_4[49]? = some (.long y_mm_4914_8) := SB.get hp137_7 (by decide) hf41_1008
              have hf137_17 : fs2_mm137_4[50]? = some (.long y_mm_5014_9) := SB.get hp137_7 (by decide) hf41_1009
              have hf137_18 : fs2_mm137_4[51]? = some (.long y_mm_5114_10) := SB.get hp137_7 (by decide) hf41_1010
              have hf137_19 : fs2_mm137_4[52]? = some (.long y_mm_5214_11) := SB.get hp137_7 (by decide) hf41_1011
              have hf137_20 : fs2_mm137_4[53]? = some (.long y_mm_5314_12) := SB.get hp137_7 (by decide) hf41_1012
              have hf137_21 : fs2_mm137_4[54]? = some (.long y_mm_5414_13) := SB.get hp137_7 (by decide) hf41_1013
              have hf137_22 : fs2_mm137_4[60]? = some (.long y_mm_6014_14) := SB.get hp137_7 (by decide) hf41_1014
              have hf137_23 : fs2_mm137_4[39]? = some (.ref ukd) := SB.get hp137_7 (by decide) hf41_1015
              have hf137_24 : fs2_mm137_4[40]? = some (.ref ulw) := SB.get hp137_7 (by decide) hf41_1016
              have hf137_25 : fs2_mm137_4[41]? = some (.ref uhg) := SB.get hp137_7 (by decide) hf41_1017
              have hf137_26 : fs2_mm137_4[42]? = some (.ref ukn) := SB.get hp137_7 (by decide) hf41_1018
              have hf137_27 : fs2_mm137_4[43]? = some (.ref uon) := SB.get hp137_7 (by decide) hf41_1019
              have hf137_28 : fs2_mm137_4[44]? = some (.ref ust) := SB.get hp137_7 (by decide) hf41_1020
              have hf137_29 : fs2_mm137_4[45]? = some (.ref ucm) := SB.get hp137_7 (by decide) hf41_1021
              have hf137_30 : fs2_mm137_4[46]? = some (.int x_mm_46) := SB.get hp137_7 (by decide) hf41_1022
              have hf137_31 : fs2_mm137_4[61]? = some (.ref uokd) := SB.get hp137_7 (by decide) hf41_1023
              have hf137_32 : fs2_mm137_4[62]? = some (.ref uolw) := SB.get hp137_7 (by decide) hf41_1024
              have hf137_33 : fs2_mm137_4[63]? = some (.ref uohg) := SB.get hp137_7 (by decide) hf41_1025
              have hf137_34 : fs2_mm137_4[64]? = some (.ref uokn) := SB.get hp137_7 (by decide) hf41_1026
              have hf137_35 : fs2_mm137_4[65]? = some (.ref uoon) := SB.get hp137_7 (by decide) hf41_1027
              have hf137_36 : fs2_mm137_4[66]? = some (.ref uost) := SB.get hp137_7 (by decide) hf41_1028
              have hf137_37 : fs2_mm137_4[67]? = some (.ref uocm) := SB.get hp137_7 (by decide) hf41_1029
              have hf137_38 : fs2_mm137_4[68]? = some (.int y_mm_4614_5) := SB.get hp137_7 (by decide) hf41_1030
              have hp137_8 : rg y_mm_73137_5 1 60000 := hp137_8
              replace hp137_10 : FF (j41_fmm_73.toInt + 1 ≤ y_mm_73137_5.toInt ∧ y_mm_73137_5.toInt ≤ j41_fmm_73.toInt + 6) := hp137_10
              have hP : va_P D vwCl [(uwo, .inl (ct 1, 4000, .inl f55_2)), (uob, .inl (ct 1, 60000, .inl g_uob)), (ukk, .inl (ct 1, 11, .inl k_ukk14_15)), (ukl, .inl (ct 2, 11, .inr (.inl k_ukl14_16))), (ukh, .inl (ct 2, 11, .inr (.inl k_ukh14_17))), (uks, .inl (ct 2, 11, .inr (.inl k_uks14_18))), (uko, .inl (ct 2, 11, .inr (.inl k_uko14_19))), (uokd, .inl (ct 1, 44000, .inl k_ukd14_20)), (uolw, .inl (ct 2, 44000, .inr (.inl k_ulw14_21))), (uohg, .inl (ct 2, 44000, .inr (.inl k_uhg14_22))), (uokn, .inl (ct 2, 44000, .inr (.inl k_ukn14_23))), (uoon, .inl (ct 2, 44000, .inr (.inl k_uon14_24))), (uost, .inl (ct 2, 4000, .inr (.inl k_ust14_25))), (uocm, .inl (ct 3, 4000, .inl k_ucm14_26)), (upg, .inl (ct 2, PL, .inr (.inl g_upg))), (mm, .inr (16, fs2_mm137_4)), (uwd, .inl (ct 1, 60000, .inl k_uwd137_6))] _ := hP
              have hD : va_D A [(uwo, .inl (ct 1, 4000, .inl f55_2)), (uob, .inl (ct 1, 60000, .inl g_uob)), (ukk, .inl (ct 1, 11, .inl k_ukk14_15)), (ukl, .inl (ct 2, 11, .inr (.inl k_ukl14_16))), (ukh, .inl (ct 2, 11, .inr (.inl k_ukh14_17))), (uks, .inl (ct 2, 11, .inr (.inl k_uks14_18))), (uko, .inl (ct 2, 11, .inr (.inl k_uko14_19))), (uokd, .inl (ct 1, 44000, .inl k_ukd14_20)), (uolw, .inl (ct 2, 44000, .inr (.inl k_ulw14_21))), (uohg, .inl (ct 2, 44000, .inr (.inl k_uhg14_22))), (uokn, .inl (ct 2, 44000, .inr (.inl k_ukn14_23))), (uoon, .inl (ct 2, 44000, .inr (.inl k_uon14_24))), (uost, .inl (ct 2, 4000, .inr (.inl k_ust14_25))), (uocm, .inl (ct 3, 4000, .inl k_ucm14_26)), (upg, .inl (ct 2, PL, .inr (.inl g_upg))), (mm, .inr (16, fs2_mm137_4)), (uwd, .inl (ct 1, 60000, .inl k_uwd137_6))] := hD
              refine lv_goto (tgt := 153) hx hb dX16_translate_140 (by decide) ?_
              exact b153 fs2_mm137_4 y_mm_73137_5 k_uwd137_6 H locs ls hs137_11 hf137_12 hf137_13 hf137_14 hf137_15 hf137_16 hf137_17 hf137_18 hf137_19 hf137_20 hf137_21 hf137_22 hf137_23 hf137_24 hf137_25 hf137_26 hf137_27 hf137_28 hf137_29 hf137_30 hf137_31 hf137_32 hf137_33 hf137_34 hf137_35 hf137_36 hf137_37 hf137_38 (rg_w hp137_8 (by decide)) hp137_9 (show j41_fmm_73.toInt + 1 ≤ y_mm_73137_5.toInt ∧ y_mm_73137_5.toInt ≤ j41_fmm_73.toInt + 20 by have q0 := FF.out hp137_10; omega) (show j41_l3.toInt + 1 ≤ y_mm_73137_5.toInt by have q0 := FF.out hi41_1034; have q1 := FF.out hp137_10; omega) (show y_mm_73137_5.toInt ≤ 60000 by have q0 := hp137_8.2; omega) (show ((g_upg j41_l3.toNatClampNeg).toInt % 256 = 32 ∨ (g_upg j41_l3.toNatClampNeg).toInt % 256 = 64) ∨ y_mm_73137_5.toInt ≤ j41_fmm_73.toInt + 14 by have q0 := FF.out hp137_10; omega) (lv_sub hl [0, 1, 2] rfl) hP hD hS
            by_cases h68_101 : r65_2.toInt = 0
            · have r68_102 : rg r65_2 0 0 := rg_at h68_101
              refine lv_tableIn (off := 36) (tgt := 104) hx hb dX16_translate_68 (by rw [h68_101]; decide) (by rw [h68_101]; decide) (by rw [h68_101]; rfl) (by decide) ?_
              refine lv_aload_n hx hb dX16_translate_104 rfl (lv_at hl 0 rfl) ?_
              refine lv_aload_n hx hb dX16_translate_105 rfl (lv_at hl 0 rfl) ?_
              refine va_get (D := D) (ci := 16) (v := .ref upg) (C := RX16) (T := TX16) (N := 78) hx hb (htX16 hn) (fun _ h => h) hown hK hP 16 rfl rfl 26 (by decide) (hn.get mw_1565 rfl) (fun _ h9 => h9) (SB.get hs41_1003 (by decide) hf_mm_26) dX16_translate_106 ?_
              refine lv_iload_n hx hb dX16_translate_109 rfl (lv_at hl 2 rfl) ?_
              have hi110_1 : vp_in j41_l3 PL := (in_of (show 0 ≤ j41_l3.toInt ∧ j41_l3.toInt < ((PL : Nat) : Int) by have q0 := r43_3.1; have q1 := (eq_len ez32_1 (nat4 (FF.out hq0)) (by decide)); have q2 := FF.out t43_2; omega))
              refine va_lald hx hb hK hP 15 2 rfl rfl hi110_1 dX16_translate_110 ?_
              refine lv_topl (fun z110_2 ez110_2 => ?_)
              obtain rfl : z61_2 = z110_2 := ez61_2.trans ez110_2.symm
              refine go_v (k1 := 0) (n1 := 0) (wr := [(uwo, .inl (ct 1, 4000, .inl f55_2)), (uob, .inl (ct 1, 60000, .inl g_uob)), (ukk, .inl (ct 1, 11, .inl k_ukk14_15)), (ukl, .inl (ct 2, 11, .inr (.inl k_ukl14_16))), (ukh, .inl (ct 2, 11, .inr (.inl k_ukh14_17))), (uks, .inl (ct 2, 11, .inr (.inl k_uks14_18))), (uko, .inl (ct 2, 11, .inr (.inl k_uko14_19))), (uokd, .inl (ct 1, 44000, .inl k_ukd14_20)), (uolw, .inl (ct 2, 44000, .inr (.inl k_ulw14_21))), (uohg, .inl (ct 2, 44000, .inr (.inl k_uhg14_22))), (uokn, .inl (ct 2, 44000, .inr (.inl k_ukn14_23))), (uoon, .inl (ct 2, 44000, .inr (.inl k_uon14_24))), (uost, .inl (ct 2, 4000, .inr (.inl k_ust14_25))), (uocm, .inl (ct 3, 4000, .inl k_ucm14_26)), (upg, .inl (ct 2, PL, .inr (.inl g_upg)))]) [16, 0] [1, 2, 3, 4, 5, 6, 7, 8, 9, 10, 11, 12, 13, 14, 15] (rn_V (As := [.long z61_2]) (rest := []) (c_X16_arithmeticWords l D ct mm z61_2 j41_amm uwd j41_fmm_73 j41_cuwd (hs41_1003.1.trans hlen_mm) (SB.get hs41_1003 (by decide) hf_mm_72) (rg_of (show 0 ≤ j41_fmm_73.toInt ∧ j41_fmm_73.toInt ≤ 59991 by have q0 := r41_1031.1; have q1 := FF.out hi41_1034; have q2 := FF.out hk46_2; omega)) hf41_1032 _) (cb_of (n := 1) hn mw_2568 mw_13 mw_2565 mhX16_arithmeticWords ⟨(Nat.le_of_ble_eq_true rfl), (Nat.le_of_ble_eq_true rfl)⟩) hx hb hml hown hn hK hSK hZ hS mw_2567 mw_s256 (ci := 16) (q0 := 0) rfl rfl rfl rfl hl.1 (Nat.le_of_ble_eq_true rfl) dX16_translate_111 ⟨(Nat.le_of_ble_eq_true rfl), (Nat.le_of_ble_eq_true rfl)⟩) hP hD hS hA rfl rfl (by decide) (by decide) (by decide) (Nat.le_of_ble_eq_true rfl) (Nat.le_of_ble_eq_true rfl) (fun u111_2 H locs hp111_3 hP hD hS => ?_)
              obtain ⟨fs2_mm111_4, y_mm_73111_5, k_uwd111_6⟩ := u111_2
              obtain ⟨hp111_7, hp111_8, hp111_9, hp111_10⟩ := hp111_3
              have hs111_11 : SB fs_mm fs2_mm111_4 [39, 40, 41, 42, 43, 44, 45, 46, 47, 48, 49, 50, 51, 52, 53, 54, 60, 61, 62, 63, 64, 65, 66, 67, 68, 70, 71, 73] := SB.trans hs41_1003 hp111_7 (by decide)
              have hf111_12 : fs2_mm111_4[70]? = some (.int x_mm_70) := SB.get hp111_7 (by decide) hf41_1004
              have hf111_13 : fs2_mm111_4[71]? = some (.int x_mm_71) := SB.get hp111_7 (by decide) hf41_1005
              have hf111_14 : fs2_mm111_4[47]? = some (.long y_mm_4714_6) := SB.get hp111_7 (by decide) hf41_1006
              have hf111_15 : fs2_mm111_4[48]? = some (.long y_mm_4814_7) := SB.get hp111_7 (by decide) hf41_1007
              have hf111_16 : fs2_mm111_4[49]? = some (.long y_mm_4914_8) := SB.get hp111_7 (by decide) hf41_1008
              have hf111_17 : fs2_mm111_4[50]? = some (.long y_mm_5014_9) := SB.get hp111_7 (by decide) hf41_1009
              have hf111_18 : fs2_mm111_4[51]? = some (.long y_mm_5114_10) := SB.get hp111_7 (by decide) hf41_1010
              have hf111_19 : fs2_mm111_4[52]? = some (.long y_mm_5214_11) := SB.get hp111_7 (by decide) hf41_1011
              have hf111_20 : fs2_mm111_4[53]? = some (.long y_mm_5314_12) := SB.get hp111_7 (by decide) hf41_1012
              have hf111_21 : fs2_mm111_4[54]? = some (.long y_mm_5414_13) := SB.get hp111_7 (by decide) hf41_1013
              have hf111_22 : fs2_mm111_4[60]? = some (.long y_mm_6014_14) := SB.get hp111_7 (by decide) hf41_1014
              have hf111_23 : fs2_mm111_4[39]? = some (.ref ukd) := SB.get hp111_7 (by decide) hf41_1015
              have hf111_24 : fs2_mm111_4[40]? = some (.ref ulw) := SB.get hp111_7 (by decide) hf41_1016
              have hf111_25 : fs2_mm111_4[41]? = some (.ref uhg) := SB.get hp111_7 (by decide) hf41_1017
              have hf111_26 : fs2_mm111_4[42]? = some (.ref ukn) := SB.get hp111_7 (by decide) hf41_1018
              have hf111_27 : fs2_mm111_4[43]? = some (.ref uon) := SB.get hp111_7 (by decide) hf41_1019
              have hf111_28 : fs2_mm111_4[44]? = some (.ref ust) := SB.get hp111_7 (by decide) hf41_1020
              have hf111_29 : fs2_mm111_4[45]? = some (.ref ucm) := SB.get hp111_7 (by decide) hf41_1021
              have hf111_30 : fs2_mm111_4[46]? = some (.int x_mm_46) := SB.get hp111_7 (by decide) hf41_1022
              have hf111_31 : fs2_mm111_4[61]? = some (.ref uokd) := SB.get hp111_7 (by decide) hf41_1023
              have hf111_32 : fs2_mm111_4[62]? = some (.ref uolw) := SB.get hp111_7 (by decide) hf41_1024
              have hf111_33 : fs2_mm111_4[63]? = some (.ref uohg) := SB.get hp111_7 (by decide) hf41_1025
              have hf111_34 : fs2_mm111_4[64]? = some (.ref uokn) := SB.get hp111_7 (by decide) hf41_1026
              have hf111_35 : fs2_mm111_4[65]? = some (.ref uoon) := SB.get hp111_7 (by decide) hf41_1027
              have hf111_36 : fs2_mm111_4[66]? = some (.ref uost) := SB.get hp111_7 (by decide) hf41_1028
              have hf111_37 : fs2_mm111_4[67]? = some (.ref uocm) := SB.get hp111_7 (by decide) hf41_1029
              have hf111_38 : fs2_mm111_4[68]? = some (.int y_mm_4614_5) := SB.get hp111_7 (by decide) hf41_1030
              have hp111_8 : rg y_mm_73111_5 1 60000 := hp111_8
              replace hp111_10 : FF (j41_fmm_73.toInt + 1 ≤ y_mm_73111_5.toInt ∧ y_mm_73111_5.toInt ≤ j41_fmm_73.toInt + 9) := hp111_10
              have hP : va_P D vwCl [(uwo, .inl (ct 1, 4000, .inl f55_2)), (uob, .inl (ct 1, 60000, .inl g_uob)), (ukk, .inl (ct 1, 11, .inl k_ukk14_15)), (ukl, .inl (ct 2, 11, .inr (.inl k_ukl14_16))), (ukh, .inl (ct 2, 11, .inr (.inl k_ukh14_17))), (uks, .inl (ct 2, 11, .inr (.inl k_uks14_18))), (uko, .inl (ct 2, 11, .inr (.inl k_uko14_19))), (uokd, .inl (ct 1, 44000, .inl k_ukd14_20)), (uolw, .inl (ct 2, 44000, .inr (.inl k_ulw14_21))), (uohg, .inl (ct 2, 44000, .inr (.inl k_uhg14_22))), (uokn, .inl (ct 2, 44000, .inr (.inl k_ukn14_23))), (uoon, .inl (ct 2, 44000, .inr (.inl k_uon14_24))), (uost, .inl (ct 2, 4000, .inr (.inl k_ust14_25))), (uocm, .inl (ct 3, 4000, .inl k_ucm14_26)), (upg, .inl (ct 2, PL, .inr (.inl g_upg))), (mm, .inr (16, fs2_mm111_4)), (uwd, .inl (ct 1, 60000, .inl k_uwd111_6))] _ := hP
              have hD : va_D A [(uwo, .inl (ct 1, 4000, .inl f55_2)), (uob, .inl (ct 1, 60000, .inl g_uob)), (ukk, .inl (ct 1, 11, .inl k_ukk14_15)), (ukl, .inl (ct 2, 11, .inr (.inl k_ukl14_16))), (ukh, .inl (ct 2, 11, .inr (.inl k_ukh14_17))), (uks, .inl (ct 2, 11, .inr (.inl k_uks14_18))), (uko, .inl (ct 2, 11, .inr (.inl k_uko14_19))), (uokd, .inl (ct 1, 44000, .inl k_ukd14_20)), (uolw, .inl (ct 2, 44000, .inr (.inl k_ulw14_21))), (uohg, .inl (ct 2, 44000, .inr (.inl k_uhg14_22))), (uokn, .inl (ct 2, 44000, .inr (.inl k_ukn14_23))), (uoon, .inl (ct 2, 44000, .inr (.inl k_uon14_24))), (uost, .inl (ct 2, 4000, .inr (.inl k_ust14_25))), (uocm, .inl (ct 3, 4000, .inl k_ucm14_26)), (upg, .inl (ct 2, PL, .inr (.inl g_upg))), (mm, .inr (16, fs2_mm111_4)), (uwd, .inl (ct 1, 60000, .inl k_uwd111_6))] := hD
              refine lv_goto (tgt := 153) hx hb dX16_translate_114 (by decide) ?_
              exact b153 fs2_mm111_4 y_mm_73111_5 k_uwd111_6 H locs ls hs111_11 hf111_12 hf111_13 hf111_14 hf111_15 hf111_16 hf111_17 hf111_18 hf111_19 hf111_20 hf111_21 hf111_22 hf111_23 hf111_24 hf111_25 hf111_26 hf111_27 hf111_28 hf111_29 hf111_30 hf111_31 hf111_32 hf111_33 hf111_34 hf111_35 hf111_36 hf111_37 hf111_38 (rg_w hp111_8 (by decide)) hp111_9 (show j41_fmm_73.toInt + 1 ≤ y_mm_73111_5.toInt ∧ y_mm_73111_5.toInt ≤ j41_fmm_73.toInt + 20 by have q0 := FF.out hp111_10; omega) (show j41_l3.toInt + 1 ≤ y_mm_73111_5.toInt by have q0 := FF.out hi41_1034; have q1 := FF.out hp111_10; omega) (show y_mm_73111_5.toInt ≤ 60000 by have q0 := hp111_8.2; omega) (show ((g_upg j41_l3.toNatClampNeg).toInt % 256 = 32 ∨ (g_upg j41_l3.toNatClampNeg).toInt % 256 = 64) ∨ y_mm_73111_5.toInt ≤ j41_fmm_73.toInt + 14 by have q0 := FF.out hp111_10; omega) (lv_sub hl [0, 1, 2] rfl) hP hD hS
            by_cases h68_111 : r65_2.toInt = 1
            · have r68_112 : rg r65_2 1 1 := rg_at h68_111
              refine lv_tableIn (off := 49) (tgt := 117) hx hb dX16_translate_68 (by rw [h68_111]; decide) (by rw [h68_111]; decide) (by rw [h68_111]; rfl) (by decide) ?_
              refine lv_aload_n hx hb dX16_translate_117 rfl (lv_at hl 0 rfl) ?_
              refine lv_aload_n hx hb dX16_translate_118 rfl (lv_at hl 0 rfl) ?_
              refine va_get (D := D) (ci := 16) (v := .ref upg) (C := RX16) (T := TX16) (N := 78) hx hb (htX16 hn) (fun _ h => h) hown hK hP 16 rfl rfl 26 (by decide) (hn.get mw_1565 rfl) (fun _ h9 => h9) (SB.get hs41_1003 (by decide) hf_mm_26) dX16_translate_119 ?_
              refine lv_iload_n hx hb dX16_translate_122 rfl (lv_at hl 2 rfl) ?_
              have hi123_1 : vp_in j41_l3 PL := (in_of (show 0 ≤ j41_l3.toInt ∧ j41_l3.toInt < ((PL : Nat) : Int) by have q0 := r43_3.1; have q1 := (eq_len ez32_1 (nat4 (FF.out hq0)) (by decide)); have q2 := FF.out t43_2; omega))
              refine va_lald hx hb hK hP 15 2 rfl rfl hi123_1 dX16_translate_123 ?_
              refine lv_topl (fun z123_2 ez123_2 => ?_)
              obtain rfl : z61_2 = z123_2 := ez61_2.trans ez123_2.symm
              refine go_v (k1 := 0) (n1 := 0) (wr := [(uwo, .inl (ct 1, 4000, .inl f55_2)), (uob, .inl (ct 1, 60000, .inl g_uob)), (ukk, .inl (ct 1, 11, .inl k_ukk14_15)), (ukl, .inl (ct 2, 11, .inr (.inl k_ukl14_16))), (ukh, .inl (ct 2, 11, .inr (.inl k_ukh14_17))), (uks, .inl (ct 2, 11, .inr (.inl k_uks14_18))), (uko, .inl (ct 2, 11, .inr (.inl k_uko14_19))), (uokd, .inl (ct 1, 44000, .inl k_ukd14_20)), (uolw, .inl (ct 2, 44000, .inr (.inl k_ulw14_21))), (uohg, .inl (ct 2, 44000, .inr (.inl k_uhg14_22))), (uokn, .inl (ct 2, 44000, .inr (.inl k_ukn14_23))), (uoon, .inl (ct 2, 44000, .inr (.inl k_uon14_24))), (uost, .inl (ct 2, 4000, .inr (.inl k_ust14_25))), (uocm, .inl (ct 3, 4000, .inl k_ucm14_26)), (upg, .inl (ct 2, PL, .inr (.inl g_upg)))]) [16, 0] [1, 2, 3, 4, 5, 6, 7, 8, 9, 10, 11, 12, 13, 14, 15] (rn_V (As := [.long z61_2]) (rest := []) (c_X16_wayWords l D ct mm z61_2 j41_amm uwd j41_fmm_73 j41_cuwd (hs41_1003.1.trans hlen_mm) (SB.get hs41_1003 (by decide) hf_mm_72) (rg_of (show 0 ≤ j41_fmm_73.toInt ∧ j41_fmm_73.toInt ≤ 59993 by have q0 := r41_1031.1; have q1 := FF.out hi41_1034; have q2 := FF.out hk46_2; omega)) hf41_1032 _) (cb_of (n := 1) hn mw_2625 mw_13 mw_2622 mhX16_wayWords ⟨(Nat.le_of_ble_eq_true rfl), (Nat.le_of_ble_eq_true rfl)⟩) hx hb hml hown hn hK hSK hZ hS mw_2624 mw_s268 (ci := 16) (q0 := 0) rfl rfl rfl rfl hl.1 (Nat.le_of_ble_eq_true rfl) dX16_translate_124 ⟨(Nat.le_of_ble_eq_true rfl), (Nat.le_of_ble_eq_true rfl)⟩) hP hD hS hA rfl rfl (by decide) (by decide) (by decide) (Nat.le_of_ble_eq_true rfl) (Nat.le_of_ble_eq_true rfl) (fun u124_2 H locs hp124_3 hP hD hS => ?_)
              obtain ⟨fs2_mm124_4, y_mm_73124_5, k_uwd124_6⟩ := u124_2
              obtain ⟨hp124_7, hp124_8, hp124_9, hp124_10⟩ := hp124_3
              have hs124_11 : SB fs_mm fs2_mm124_4 [39, 40, 41, 42, 43, 44, 45, 46, 47, 48, 49, 50, 51, 52, 53, 54, 60, 61, 62, 63, 64, 65, 66, 67, 68, 70, 71, 73] := SB.trans hs41_1003 hp124_7 (by decide)
              have hf124_12 : fs2_mm124_4[70]? = some (.int x_mm_70) := SB.get hp124_7 (by decide) hf41_1004
              have hf124_13 : fs2_mm124_4[71]? = some (.int x_mm_71) := SB.get hp124_7 (by decide) hf41_1005
              have hf124_14 : fs2_mm124_4[47]? = some (.long y_mm_4714_6) := SB.get hp124_7 (by decide) hf41_1006
              have hf124_15 : fs2_mm124_4[48]? = some (.long y_mm_4814_7) := SB.get hp124_7 (by decide) hf41_1007
              have hf124_16 : fs2_mm124_4[49]? = some (.long y_mm_4914_8) := SB.get hp124_7 (by decide) hf41_1008
              have hf124_17 : fs2_mm124_4[50]? = some (.long y_mm_5014_9) := SB.get hp124_7 (by decide) hf41_1009
              have hf124_18 : fs2_mm124_4[51]? = some (.long y_mm_5114_10) := SB.get hp124_7 (by decide) hf41_1010
              have hf124_19 : fs2_mm124_4[52]? = some (.long y_mm_5214_11) := SB.get hp124_7 (by decide) hf41_1011
              have hf124_20 : fs2_mm124_4[53]? = some (.long y_mm_5314_12) := SB.get hp124_7 (by decide) hf41_1012
              have hf124_21 : fs2_mm124_4[54]? = some (.long y_mm_5414_13) := SB.get hp124_7 (by decide) hf41_1013
              have hf124_22 : fs2_mm124_4[60]? = some (.long y_mm_6014_14) := SB.get hp124_7 (by decide) hf41_1014
              have hf124_23 : fs2_mm124_4[39]? = some (.ref ukd) := SB.get hp124_7 (by decide) hf41_1015
              have hf124_24 : fs2_mm124_4[40]? = some (.ref ulw) := SB.get hp124_7 (by decide) hf41_1016
              have hf124_25 : fs2_mm124_4[41]? = some (.ref uhg) := SB.get hp124_7 (by decide) hf41_1017
              have hf124_26 : fs2_mm124_4[42]? = some (.ref ukn) := SB.get hp124_7 (by decide) hf41_1018
              have hf124_27 : fs2_mm124_4[43]? = some (.ref uon) := SB.get hp124_7 (by decide) hf41_1019
              have hf124_28 : fs2_mm124_4[44]? = some (.ref ust) := SB.get hp124_7 (by decide) hf41_1020
              have hf124_29 : fs2_mm124_4[45]? = some (.ref ucm) := SB.get hp124_7 (by decide) hf41_1021
              have hf124_30 : fs2_mm124_4[46]? = some (.int x_mm_46) := SB.get hp124_7 (by decide) hf41_1022
              have hf124_31 : fs2_mm124_4[61]? = some (.ref uokd) := SB.get hp124_7 (by decide) hf41_1023
              have hf124_32 : fs2_mm124_4[62]? = some (.ref uolw) := SB.get hp124_7 (by decide) hf41_1024
              have hf124_33 : fs2_mm124_4[63]? = some (.ref uohg) := SB.get hp124_7 (by decide) hf41_1025
              have hf124_34 : fs2_mm124_4[64]? = some (.ref uokn) := SB.get hp124_7 (by decide) hf41_1026
              have hf124_35 : fs2_mm124_4[65]? = some (.ref uoon) := SB.get hp124_7 (by decide) hf41_1027
              have hf124_36 : fs2_mm124_4[66]? = some (.ref uost) := SB.get hp124_7 (by decide) hf41_1028
              have hf124_37 : fs2_mm124_4[67]? = some (.ref uocm) := SB.get hp124_7 (by decide) hf41_1029
              have hf124_38 : fs2_mm124_4[68]? = some (.int y_mm_4614_5) := SB.get hp124_7 (by decide) hf41_1030
              have hp124_8 : rg y_mm_73124_5 1 60000 := hp124_8
              replace hp124_10 : FF (j41_fmm_73.toInt + 1 ≤ y_mm_73124_5.toInt ∧ y_mm_73124_5.toInt ≤ j41_fmm_73.toInt + 7) := hp124_10
              have hP : va_P D vwCl [(uwo, .inl (ct 1, 4000, .inl f55_2)), (uob, .inl (ct 1, 60000, .inl g_uob)), (ukk, .inl (ct 1, 11, .inl k_ukk14_15)), (ukl, .inl (ct 2, 11, .inr (.inl k_ukl14_16))), (ukh, .inl (ct 2, 11, .inr (.inl k_ukh14_17))), (uks, .inl (ct 2, 11, .inr (.inl k_uks14_18))), (uko, .inl (ct 2, 11, .inr (.inl k_uko14_19))), (uokd, .inl (ct 1, 44000, .inl k_ukd14_20)), (uolw, .inl (ct 2, 44000, .inr (.inl k_ulw14_21))), (uohg, .inl (ct 2, 44000, .inr (.inl k_uhg14_22))), (uokn, .inl (ct 2, 44000, .inr (.inl k_ukn14_23))), (uoon, .inl (ct 2, 44000, .inr (.inl k_uon14_24))), (uost, .inl (ct 2, 4000, .inr (.inl k_ust14_25))), (uocm, .inl (ct 3, 4000, .inl k_ucm14_26)), (upg, .inl (ct 2, PL, .inr (.inl g_upg))), (mm, .inr (16, fs2_mm124_4)), (uwd, .inl (ct 1, 60000, .inl k_uwd124_6))] _ := hP
              have hD : va_D A [(uwo, .inl (ct 1, 4000, .inl f55_2)), (uob, .inl (ct 1, 60000, .inl g_uob)), (ukk, .inl (ct 1, 11, .inl k_ukk14_15)), (ukl, .inl (ct 2, 11, .inr (.inl k_ukl14_16))), (ukh, .inl (ct 2, 11, .inr (.inl k_ukh14_17))), (uks, .inl (ct 2, 11, .inr (.inl k_uks14_18))), (uko, .inl (ct 2, 11, .inr (.inl k_uko14_19))), (uokd, .inl (ct 1, 44000, .inl k_ukd14_20)), (uolw, .inl (ct 2, 44000, .inr (.inl k_ulw14_21))), (uohg, .inl (ct 2, 44000, .inr (.inl k_uhg14_22))), (uokn, .inl (ct 2, 44000, .inr (.inl k_ukn14_23))), (uoon, .inl (ct 2, 44000, .inr (.inl k_uon14_24))), (uost, .inl (ct 2, 4000, .inr (.inl k_ust14_25))), (uocm, .inl (ct 3, 4000, .inl k_ucm14_26)), (upg, .inl (ct 2, PL, .inr (.inl g_upg))), (mm, .inr (16, fs2_mm124_4)), (uwd, .inl (ct 1, 60000, .inl k_uwd124_6))] := hD
              refine lv_goto (tgt := 153) hx hb dX16_translate_127 (by decide) ?_
              exact b153 fs2_mm124_4 y_mm_73124_5 k_uwd124_6 H locs ls hs124_11 hf124_12 hf124_13 hf124_14 hf124_15 hf124_16 hf124_17 hf124_18 hf124_19 hf124_20 hf124_21 hf124_22 hf124_23 hf124_24 hf124_25 hf124_26 hf124_27 hf124_28 hf124_29 hf124_30 hf124_31 hf124_32 hf124_33 hf124_34 hf124_35 hf124_36 hf124_37 hf124_38 (rg_w hp124_8 (by decide)) hp124_9 (show j41_fmm_73.toInt + 1 ≤ y_mm_73124_5.toInt ∧ y_mm_73124_5.toInt ≤ j41_fmm_73.toInt + 20 by have q0 := FF.out hp124_10; omega) (show j41_l3.toInt + 1 ≤ y_mm_73124_5.toInt by have q0 := FF.out hi41_1034; have q1 := FF.out hp124_10; omega) (show y_mm_73124_5.toInt ≤ 60000 by have q0 := hp124_8.2; omega) (show ((g_upg j41_l3.toNatClampNeg).toInt % 256 = 32 ∨ (g_upg j41_l3.toNatClampNeg).toInt % 256 = 64) ∨ y_mm_73124_5.toInt ≤ j41_fmm_73.toInt + 14 by have q0 := FF.out hp124_10; omega) (lv_sub hl [0, 1, 2] rfl) hP hD hS
            by_cases h68_121 : r65_2.toInt = 2
            · have r68_122 : rg r65_2 2 2 := rg_at h68_121
              refine lv_tableIn (off := 62) (tgt := 130) hx hb dX16_translate_68 (by rw [h68_121]; decide) (by rw [h68_121]; decide) (by rw [h68_121]; rfl) (by decide) ?_
              exact b130  H locs ls  (lv_sub hl [0, 1, 2] rfl) hP hD hS
            by_cases h68_131 : r65_2.toInt = 3
            · have r68_132 : rg r65_2 3 3 := rg_at h68_131
              refine lv_tableIn (off := 62) (tgt := 130) hx hb dX16_translate_68 (by rw [h68_131]; decide) (by rw [h68_131]; decide) (by rw [h68_131]; rfl) (by decide) ?_
              exact b130  H locs ls  (lv_sub hl [0, 1, 2] rfl) hP hD hS
            by_cases h68_141 : r65_2.toInt = 4
            · have r68_142 : rg r65_2 4 4 := rg_at h68_141
              refine lv_tableIn (off := 62) (tgt := 130) hx hb dX16_translate_68 (by rw [h68_141]; decide) (by rw [h68_141]; decide) (by rw [h68_141]; rfl) (by decide) ?_
              exact b130  H locs ls  (lv_sub hl [0, 1, 2] rfl) hP hD hS
            refine lv_tableOut (tgt := 143) hx hb dX16_translate_68 (by have q0 := hp65_5; have q1 := q0.1; have q2 := q0.2; omega) (by decide) ?_
            have hl68_5001 := FF.mk h68_101
            have hl68_5002 := FF.mk h68_111
            have hl68_5003 := FF.mk h68_121
            have hl68_5004 := FF.mk h68_131
            have hl68_5005 := FF.mk h68_141
            refine lv_aload_n hx hb dX16_translate_143 rfl (lv_at hl 0 rfl) ?_
            refine lv_aload_n hx hb dX16_translate_144 rfl (lv_at hl 0 rfl) ?_
            refine va_get (D := D) (ci := 16) (v := .ref upg) (C := RX16) (T := TX16) (N := 78) hx hb (htX16 hn) (fun _ h => h) hown hK hP 16 rfl rfl 26 (by decide) (hn.get mw_1565 rfl) (fun _ h9 => h9) (SB.get hs41_1003 (by decide) hf_mm_26) dX16_translate_145 ?_
            refine lv_iload_n hx hb dX16_translate_148 rfl (lv_at hl 2 rfl) ?_
            have hi149_1 : vp_in j41_l3 PL := (in_of (show 0 ≤ j41_l3.toInt ∧ j41_l3.toInt < ((PL : Nat) : Int) by have q0 := r43_3.1; have q1 := (eq_len ez32_1 (nat4 (FF.out hq0)) (by decide)); have q2 := FF.out t43_2; omega))
            refine va_lald hx hb hK hP 15 2 rfl rfl hi149_1 dX16_translate_149 ?_
            refine lv_topl (fun z149_2 ez149_2 => ?_)
            obtain rfl : z61_2 = z149_2 := ez61_2.trans ez149_2.symm
            refine go_v (k1 := 0) (n1 := 0) (wr := [(uwo, .inl (ct 1, 4000, .inl f55_2)), (uob, .inl (ct 1, 60000, .inl g_uob)), (ukk, .inl (ct 1, 11, .inl k_ukk14_15)), (ukl, .inl (ct 2, 11, .inr (.inl k_ukl14_16))), (ukh, .inl (ct 2, 11, .inr (.inl k_ukh14_17))), (uks, .inl (ct 2, 11, .inr (.inl k_uks14_18))), (uko, .inl (ct 2, 11, .inr (.inl k_uko14_19))), (uokd, .inl (ct 1, 44000, .inl k_ukd14_20)), (uolw, .inl (ct 2, 44000, .inr (.inl k_ulw14_21))), (uohg, .inl (ct 2, 44000, .inr (.inl k_uhg14_22))), (uokn, .inl (ct 2, 44000, .inr (.inl k_ukn14_23))), (uoon, .inl (ct 2, 44000, .inr (.inl k_uon14_24))), (uost, .inl (ct 2, 4000, .inr (.inl k_ust14_25))), (uocm, .inl (ct 3, 4000, .inl k_ucm14_26)), (upg, .inl (ct 2, PL, .inr (.inl g_upg)))]) [16, 0] [1, 2, 3, 4, 5, 6, 7, 8, 9, 10, 11, 12, 13, 14, 15] (rn_V (As := [.long z61_2]) (rest := []) (c_X16_readWords l D ct mm z61_2 j41_amm uwd j41_fmm_73 j41_cuwd (hs41_1003.1.trans hlen_mm) (SB.get hs41_1003 (by decide) hf_mm_72) (rg_of (show 0 ≤ j41_fmm_73.toInt ∧ j41_fmm_73.toInt ≤ 59980 by have q0 := r41_1031.1; have q1 := FF.out hi41_1034; have q2 := FF.out hk46_2; omega)) hf41_1032 (show (z61_2.toInt % 256 = 32 ∨ z61_2.toInt % 256 = 40 ∨ z61_2.toInt % 256 = 48 ∨ z61_2.toInt % 256 = 64 ∨ z61_2.toInt % 256 = 72 ∨ z61_2.toInt % 256 = 80) by have q0 := hp65_5.2; have q1 := FF.out hk46_1; have q2 := FF.out hp62_5; have q3 := FF.out hk65_1; have q4 := FF.out hp65_6; have q5 := FF.out hp65_7; have q6 := FF.out hl68_5001; have q7 := FF.out hl68_5002; have q8 := FF.out hl68_5003; have q9 := FF.out hl68_5004; have q10 := FF.out hl68_5005; omega) _) (cb_of (n := 1) hn mw_2648 mw_13 mw_2645 mhX16_readWords ⟨(Nat.le_of_ble_eq_true rfl), (Nat.le_of_ble_eq_true rfl)⟩) hx hb hml hown hn hK hSK hZ hS mw_2647 mw_s273 (ci := 16) (q0 := 0) rfl rfl rfl rfl hl.1 (Nat.le_of_ble_eq_true rfl) dX16_translate_150 ⟨(Nat.le_of_ble_eq_true rfl), (Nat.le_of_ble_eq_true rfl)⟩) hP hD hS hA rfl rfl (by decide) (by decide) (by decide) (Nat.le_of_ble_eq_true rfl) (Nat.le_of_ble_eq_true rfl) (fun u150_2 H locs hp150_3 hP hD hS => ?_)
            obtain ⟨fs2_mm150_4, y_mm_73150_5, k_uwd150_6⟩ := u150_2
            obtain ⟨hp150_7, hp150_8, hp150_9, hp150_10, hp150_11⟩ := hp150_3
            have hs150_12 : SB fs_mm fs2_mm150_4 [39, 40, 41, 42, 43, 44, 45, 46, 47, 48, 49, 50, 51, 52, 53, 54, 60, 61, 62, 63, 64, 65, 66, 67, 68, 70, 71, 73] := SB.trans hs41_1003 hp150_7 (by decide)
            have hf150_13 : fs2_mm150_4[70]? = some (.int x_mm_70) := SB.get hp150_7 (by decide) hf41_1004
            have hf150_14 : fs2_mm150_4[71]? = some (.int x_mm_71) := SB.get hp150_7 (by decide) hf41_1005
            have hf150_15 : fs2_mm150_4[47]? = some (.long y_mm_4714_6) := SB.get hp150_7 (by decide) hf41_1006
            have hf150_16 : fs2_mm150_4[48]? = some (.long y_mm_4814_7) := SB.get hp150_7 (by decide) hf41_1007
            have hf150_17 : fs2_mm150_4[49]? = some (.long y_mm_4914_8) := SB.get hp150_7 (by decide) hf41_1008
            have hf150_18 : fs2_mm150_4[50]? = some (.long y_mm_5014_9) := SB.get hp150_7 (by decide) hf41_1009
            have hf150_19 : fs2_mm150_4[51]? = some (.long y_mm_5114_10) := SB.get hp150_7 (by decide) hf41_1010
            have hf150_20 : fs2_mm150_4[52]? = some (.long y_mm_5214_11) := SB.get hp150_7 (by decide) hf41_1011
            have hf150_21 : fs2_mm150_4[53]? = some (.long y_mm_5314_12) := SB.get hp150_7 (by decide) hf41_1012
            have hf150_22 : fs2_mm150_4[54]? = some (.long y_mm_5414_13) := SB.get hp150_7 (by decide) hf41_1013
            have hf150_23 : fs2_mm150_4[60]? = some (.long y_mm_6014_14) := SB.get hp150_7 (by decide) hf41_1014
            have hf150_24 : fs2_mm150_4[39]? = some (.ref ukd) := SB.get hp150_7 (by decide) hf41_1015
            have hf150_25 : fs2_mm150_4[40]? = some (.ref ulw) := SB.get hp150_7 (by decide) hf41_1016
            have hf150_26 : fs2_mm150_4[41]? = some (.ref uhg) := SB.get hp150_7 (by decide) hf41_1017
            have hf150_27 : fs2_mm150_4[42]? = some (.ref ukn) := SB.get hp150_7 (by decide) hf41_1018
            have hf150_28 : fs2_mm150_4[43]? = some (.ref uon) := SB.get hp150_7 (by decide) hf41_1019
            have hf150_29 : fs2_mm150_4[44]? = some (.ref ust) := SB.get hp150_7 (by decide) hf41_1020
            have hf150_30 : fs2_mm150_4[45]? = some (.ref ucm) := SB.get hp150_7 (by decide) hf41_1021
            have hf150_31 : fs2_mm150_4[46]? = some (.int x_mm_46) := SB.get hp150_7 (by decide) hf41_1022
            have hf150_32 : fs2_mm150_4[61]? = some (.ref uokd) := SB.get hp150_7 (by decide) hf41_1023
            have hf150_33 : fs2_mm150_4[62]? = some (.ref uolw) := SB.get hp150_7 (by decide) hf41_1024
            have hf150_34 : fs2_mm150_4[63]? = some (.ref uohg) := SB.get hp150_7 (by decide) hf41_1025
            have hf150_35 : fs2_mm150_4[64]? = some (.ref uokn) := SB.get hp150_7 (by decide) hf41_1026
            have hf150_36 : fs2_mm150_4[65]? = some (.ref uoon) := SB.get hp150_7 (by decide) hf41_1027
            have hf150_37 : fs2_mm150_4[66]? = some (.ref uost) := SB.get hp150_7 (by decide) hf41_1028
            have hf150_38 : fs2_mm150_4[67]? = some (.ref uocm) := SB.get hp150_7 (by decide) hf41_1029
            have hf150_39 : fs2_mm150_4[68]? = some (.int y_mm_4614_5) := SB.get hp150_7 (by decide) hf41_1030
            have hp150_8 : rg y_mm_73150_5 0 60000 := hp150_8
            replace hp150_10 : FF (j41_fmm_73.toInt + 1 ≤ y_mm_73150_5.toInt ∧ y_mm_73150_5.toInt ≤ j41_fmm_73.toInt + 20) := hp150_10
            replace hp150_11 : FF (¬ (z61_2.toInt % 256 = 32 ∨ z61_2.toInt % 256 = 64) → y_mm_73150_5.toInt ≤ j41_fmm_73.toInt + 14) := hp150_11
            have hP : va_P D vwCl [(uwo, .inl (ct 1, 4000, .inl f55_2)), (uob, .inl (ct 1, 60000, .inl g_uob)), (ukk, .inl (ct 1, 11, .inl k_ukk14_15)), (ukl, .inl (ct 2, 11, .inr (.inl k_ukl14_16))), (ukh, .inl (ct 2, 11, .inr (.inl k_ukh14_17))), (uks, .inl (ct 2, 11, .inr (.inl k_uks14_18))), (uko, .inl (ct 2, 11, .inr (.inl k_uko14_19))), (uokd, .inl (ct 1, 44000, .inl k_ukd14_20)), (uolw, .inl (ct 2, 44000, .inr (.inl k_ulw14_21))), (uohg, .inl (ct 2, 44000, .inr (.inl k_uhg14_22))), (uokn, .inl (ct 2, 44000, .inr (.inl k_ukn14_23))), (uoon, .inl (ct 2, 44000, .inr (.inl k_uon14_24))), (uost, .inl (ct 2, 4000, .inr (.inl k_ust14_25))), (uocm, .inl (ct 3, 4000, .inl k_ucm14_26)), (upg, .inl (ct 2, PL, .inr (.inl g_upg))), (mm, .inr (16, fs2_mm150_4)), (uwd, .inl (ct 1, 60000, .inl k_uwd150_6))] _ := hP
            have hD : va_D A [(uwo, .inl (ct 1, 4000, .inl f55_2)), (uob, .inl (ct 1, 60000, .inl g_uob)), (ukk, .inl (ct 1, 11, .inl k_ukk14_15)), (ukl, .inl (ct 2, 11, .inr (.inl k_ukl14_16))), (ukh, .inl (ct 2, 11, .inr (.inl k_ukh14_17))), (uks, .inl (ct 2, 11, .inr (.inl k_uks14_18))), (uko, .inl (ct 2, 11, .inr (.inl k_uko14_19))), (uokd, .inl (ct 1, 44000, .inl k_ukd14_20)), (uolw, .inl (ct 2, 44000, .inr (.inl k_ulw14_21))), (uohg, .inl (ct 2, 44000, .inr (.inl k_uhg14_22))), (uokn, .inl (ct 2, 44000, .inr (.inl k_ukn14_23))), (uoon, .inl (ct 2, 44000, .inr (.inl k_uon14_24))), (uost, .inl (ct 2, 4000, .inr (.inl k_ust14_25))), (uocm, .inl (ct 3, 4000, .inl k_ucm14_26)), (upg, .inl (ct 2, PL, .inr (.inl g_upg))), (mm, .inr (16, fs2_mm150_4)), (uwd, .inl (ct 1, 60000, .inl k_uwd150_6))] := hD
            exact b153 fs2_mm150_4 y_mm_73150_5 k_uwd150_6 H locs ls hs150_12 hf150_13 hf150_14 hf150_15 hf150_16 hf150_17 hf150_18 hf150_19 hf150_20 hf150_21 hf150_22 hf150_23 hf150_24 hf150_25 hf150_26 hf150_27 hf150_28 hf150_29 hf150_30 hf150_31 hf150_32 hf150_33 hf150_34 hf150_35 hf150_36 hf150_37 hf150_38 hf150_39 hp150_8 hp150_9 (show j41_fmm_73.toInt + 1 ≤ y_mm_73150_5.toInt ∧ y_mm_73150_5.toInt ≤ j41_fmm_73.toInt + 20 by have q0 := FF.out hp150_10; omega) (show j41_l3.toInt + 1 ≤ y_mm_73150_5.toInt by have q0 := FF.out hi41_1034; have q1 := FF.out hp150_10; omega) (show y_mm_73150_5.toInt ≤ 60000 by have q0 := hp150_8.2; omega) (show ((g_upg j41_l3.toNatClampNeg).toInt % 256 = 32 ∨ (g_upg j41_l3.toNatClampNeg).toInt % 256 = 64) ∨ y_mm_73150_5.toInt ≤ j41_fmm_73.toInt + 14 by have q0 := (congrArg Int64.toInt ez61_2); have q1 := FF.out hp150_11; omega) (lv_sub hl [0, 1, 2] rfl) hP hD hS
      exact b41 _ (0 : Int32) g_uwd g_uwo m36_1 (0 : Int32) H locs ls (rg_w (show rg (0 : Int32) 0 0 from rg_l (by decide)) (by decide)) h_g_uwo hsm36_1 hfm36_1_70 hfm36_1_71 hfm36_1_47 hfm36_1_48 hfm36_1_49 hfm36_1_50 hfm36_1_51 hfm36_1_52 hfm36_1_53 hfm36_1_54 hfm36_1_60 hfm36_1_39 hfm36_1_40 hfm36_1_41 hfm36_1_42 hfm36_1_43 hfm36_1_44 hfm36_1_45 hfm36_1_46 hfm36_1_61 hfm36_1_62 hfm36_1_63 hfm36_1_64 hfm36_1_65 hfm36_1_66 hfm36_1_67 hfm36_1_68 (rg_w (show rg (0 : Int32) 0 0 from rg_l (by decide)) (by decide)) hfm36_1_73 (WOk.zero (by decide)) (show (0 : Int32).toInt ≤ 14 * (0 : Int32).toInt + 6 * ((C4 g_upg (0 : Int32).toNatClampNeg : Nat) : Int) ∧ (0 : Int32).toInt ≤ (0 : Int32).toInt by have q0 := (show (0 : Int32).toInt = 0 from by decide); omega) (Nat.lt_succ_self _) (lv_sub hl [3, 1, 0] rfl) hP hD hS
    · have t23_2 := FF.mk (i_ne c23_1)
      have r23_3 : rg r14_1 1 63991 := rg_neAl t23_2 hp14_27 (show rg (0 : Int32) 0 0 from rg_l (by decide)) (by decide)
      refine lv_iconst (v := (-1)) hx hb dX16_translate_26 (by decide) ?_
      exact endq_i hQ hx hb hr hlocks dX16_translate_27 rfl (u19_2, y_mm_4714_6, y_mm_4814_7, y_mm_4914_8, y_mm_5014_9, y_mm_5114_10, y_mm_5214_11, y_mm_5314_12, y_mm_5414_13, y_mm_6014_14, y_mm_4614_5, x_mm_70, x_mm_71, x_mm_73, k_ukk14_15, k_ukl14_16, k_ukh14_17, k_uks14_18, k_uko14_19, k_ukd14_20, k_ulw14_21, k_uhg14_22, k_ukn14_23, k_uon14_24, k_ust14_25, k_ucm14_26, g_uwd, g_uwo, g_uob) ⟨(rg_w (show rg ((-1) : Int32) (-1) (-1) from rg_l (by decide)) (by decide)), hs19_21, hp19_5, hp19_6, hp19_7, hp19_8, hp19_9, hp19_10, hp19_11, hp19_12, hf19_25, hf19_26, hf19_27, hf19_28, hf19_29, hf19_30, hf19_31, hf19_32, hf19_33, hp19_13, hp19_14, hp19_15, hp19_16, hp19_17, hp19_18, hp19_19, hp14_29, hp19_20, h_x_mm_70, hf19_22, h_x_mm_71, hf19_23, h_x_mm_73, hf19_24, hp14_40, hp14_41, hp14_42, h_g_uwo, hp14_44, hp14_45⟩ hP hD hS [16, 3, 4, 5, 6, 7, 8, 9, 10, 11, 12, 13, 14, 15, 0, 1, 2] rfl (by decide) rfl (Nat.le_of_ble_eq_true rfl) (Nat.le_of_ble_eq_true rfl)
  · have t4_2 := FF.mk (i_eq c4_1)
    have r4_3 : rg x_mm_27 0 0 := rg_eqA t4_2 h_x_mm_27 (show rg (0 : Int32) 0 0 from rg_l (by decide)) (by decide)
    refine lv_iconst (v := (-1)) hx hb dX16_translate_7 (by decide) ?_
    exact endq_i hQ hx hb hr hlocks dX16_translate_8 rfl (fs_mm, x_mm_47, x_mm_48, x_mm_49, x_mm_50, x_mm_51, x_mm_52, x_mm_53, x_mm_54, x_mm_60, x_mm_68, x_mm_70, x_mm_71, x_mm_73, g_ukk, g_ukl, g_ukh, g_uks, g_uko, g_uokd, g_uolw, g_uohg, g_uokn, g_uoon, g_uost, g_uocm, g_uwd, g_uwo, g_uob) ⟨(rg_w (show rg ((-1) : Int32) (-1) (-1) from rg_l (by decide)) (by decide)), (SB.rf _ _), hf_mm_39, hf_mm_40, hf_mm_41, hf_mm_42, hf_mm_43, hf_mm_44, hf_mm_45, hf_mm_46, hf_mm_47, hf_mm_48, hf_mm_49, hf_mm_50, hf_mm_51, hf_mm_52, hf_mm_53, hf_mm_54, hf_mm_60, hf_mm_61, hf_mm_62, hf_mm_63, hf_mm_64, hf_mm_65, hf_mm_66, hf_mm_67, h_x_mm_68, hf_mm_68, h_x_mm_70, hf_mm_70, h_x_mm_71, hf_mm_71, h_x_mm_73, hf_mm_73, h_g_ukk, h_g_uokd, h_g_uocm, h_g_uwo, hg0, hg1⟩ hP hD hS [0, 1, 2, 3, 4, 5, 6, 7, 8, 9, 10, 11, 12, 13, 14, 15, 16] rfl (by decide) rfl (Nat.le_of_ble_eq_true rfl) (Nat.le_of_ble_eq_true rfl)
set_option maxHeartbeats 2000000 in
theorem c_X16_load (l : Launch) (D : va_G) (ct : Nat → ClassId) (mm : Nat) (fs_mm : List Value) (utape : Nat) (x_mm_1 : Int32) (upg : Nat) (x_mm_27 : Int32) (g_utape : Nat → Int32) (g_upg : Nat → Int64) (PL : Nat) (hlen_mm : fs_mm.length = 78) (hf_mm_0 : fs_mm[0]? = some (.ref utape)) (h_x_mm_1 : rg x_mm_1 0 2000) (hf_mm_1 : fs_mm[1]? = some (.int x_mm_1)) (hf_mm_26 : fs_mm[26]? = some (.ref upg)) (h_x_mm_27 : rg x_mm_27 0 1) (hf_mm_27 : fs_mm[27]? = some (.int x_mm_27)) (h_g_utape : Rg g_utape 2000 0 255) (hq0 : ((PL : Nat) : Int) ≤ 4000) (hq1 : x_mm_27.toInt = 1 → 1 ≤ ((PL : Nat) : Int)) (hg0 : PB g_upg PL) : KI (S := List Value × Nat × Int32 × (Nat → Int64) × Nat) l yX16_load cX16_load 3 (some .int) 1 20 D ct [.ref mm] [(mm, .inr (16, fs_mm)), (utape, .inl (ct 1, 2000, .inl g_utape)), (upg, .inl (ct 2, PL, .inr (.inl g_upg)))] 1 250 (fun (r : Int32) (u : List Value × Nat × Int32 × (Nat → Int64) × Nat) => match u with | (fs2_mm, a_mm_26, y_mm_27, k_upg, PL2) => rg r (-1) 250 ∧ SB fs_mm fs2_mm [1, 26, 27] ∧ fs2_mm[1]? = some (.int 0) ∧ fs2_mm[26]? = some (.ref a_mm_26) ∧ rg y_mm_27 0 1 ∧ fs2_mm[27]? = some (.int y_mm_27) ∧ (((PL2 : Nat) : Int) ≤ 4000) ∧ (y_mm_27.toInt = 1 → 1 ≤ ((PL2 : Nat) : Int)) ∧ (PB k_upg PL2)) (fun (u : List Value × Nat × Int32 × (Nat → Int64) × Nat) => match u with | (fs2_mm, a_mm_26, y_mm_27, k_upg, PL2) => [(mm, .inr (16, fs2_mm)), (utape, .inl (ct 1, 2000, .inl g_utape)), (a_mm_26, .inl (ct 2, PL2, .inr (.inl k_upg)))]) := by
  refine KIq_of (by decide) (Nat.le_of_ble_eq_true rfl) (fun p e s m below meth c A Q C0 hA H locs hS hP hD hQ ls hl => ?_)
  obtain ⟨hx, hb, hr, hown, hin, hml, hlocks, hn, hK, hZ, hSK⟩ := C0
  have hl : lv_has ls 3 [(0, .ref mm)] := hl
  replace hq0 := FF.mk hq0
  replace hq1 := FF.mk hq1
  refine lv_aload_n hx hb dX16_load_0 rfl (lv_at hl 0 rfl) ?_
  refine va_get (D := D) (ci := 16) (v := .int x_mm_1) (C := RX16) (T := TX16) (N := 78) hx hb (htX16 hn) (fun _ h => h) hown hK hP 0 rfl rfl 1 (by decide) (hn.get mw_1540 rfl) (fun _ h9 => h9) hf_mm_1 dX16_load_1 ?_
  refine lv_istore_n (lv' := [(1, .int x_mm_1), (0, .ref mm)]) hx hb dX16_load_4 rfl hl (by decide) rfl (fun ls hl => ?_)
  refine lv_aload_n hx hb dX16_load_5 rfl (lv_at hl 1 rfl) ?_
  refine lv_iconst (v := 0) hx hb dX16_load_6 (by decide) ?_
  refine va_put (D := D) (ci := 16) (v := .int 0) (ty := .int) (C := RX16) (T := TX16) (N := 78) hx hb (htX16 hn) (fun _ h => h) tyX16 tyX16_ok nmX16 hown hK hP hD hS 0 rfl rfl 1 (by decide) (hn.get mw_1540 rfl) (fun _ h9 => h9) rfl (by decide +kernel) rfl rfl (by rw [hlen_mm]; decide) dX16_load_7 (fun H locs hP hD hS => ?_)
  have hP : va_P D vwCl [(mm, .inr (16, (fs_mm.set 1 (.int 0)))), (utape, .inl (ct 1, 2000, .inl g_utape)), (upg, .inl (ct 2, PL, .inr (.inl g_upg)))] _ := hP
  have hD : va_D A [(mm, .inr (16, (fs_mm.set 1 (.int 0)))), (utape, .inl (ct 1, 2000, .inl g_utape)), (upg, .inl (ct 2, PL, .inr (.inl g_upg)))] := hD
  obtain ⟨m7_1, em7_1⟩ : ∃ z, z = (fs_mm.set 1 (.int 0)) := ⟨_, rfl⟩
  rw [← em7_1] at hP hD
  have hsm7_1 : SB fs_mm m7_1 [1, 26, 27] := by rw [em7_1]; exact SB.set (SB.rf _ _) (by decide)
  have hfm7_1_26 : m7_1[26]? = some (.ref upg) := by rw [em7_1]; exact fs_ne (by decide) hf_mm_26
  have hfm7_1_27 : m7_1[27]? = some (.int x_mm_27) := by rw [em7_1]; exact fs_ne (by decide) hf_mm_27
  have hfm7_1_1 : m7_1[1]? = some (.int 0) := by rw [em7_1]; exact fs_eq (by rw [hlen_mm]; decide)
  have hP : va_P D vwCl [(mm, .inr (16, m7_1)), (utape, .inl (ct 1, 2000, .inl g_utape)), (upg, .inl (ct 2, PL, .inr (.inl g_upg)))] _ := hP
  have hD : va_D A [(mm, .inr (16, m7_1)), (utape, .inl (ct 1, 2000, .inl g_utape)), (upg, .inl (ct 2, PL, .inr (.inl g_upg)))] := hD
  refine lv_iload_n hx hb dX16_load_10 rfl (lv_at hl 0 rfl) ?_
  refine lv_if_eq (tgt := 21) hx hb dX16_load_11 (by decide) (fun c11_1 => ?_) (fun c11_1 => ?_)
  · have t11_2 := FF.mk (i_eq c11_1)
    have r11_3 : rg x_mm_1 0 0 := rg_eqA t11_2 h_x_mm_1 (show rg (0 : Int32) 0 0 from rg_l (by decide)) (by decide)
    refine lv_iconst (v := (-1)) hx hb dX16_load_21 (by decide) ?_
    exact endq_i hQ hx hb hr hlocks dX16_load_22 rfl (m7_1, upg, x_mm_27, g_upg, PL) ⟨(rg_w (show rg ((-1) : Int32) (-1) (-1) from rg_l (by decide)) (by decide)), hsm7_1, hfm7_1_1, hfm7_1_26, h_x_mm_27, hfm7_1_27, (show ((PL : Nat) : Int) ≤ 4000 by have q0 := FF.out hq0; omega), (show x_mm_27.toInt = 1 → 1 ≤ ((PL : Nat) : Int) by have q0 := h_x_mm_27.2; have q1 := FF.out hq1; omega), hg0⟩ hP hD hS [0, 1, 2] rfl (by decide) rfl (Nat.le_of_ble_eq_true rfl) (Nat.le_of_ble_eq_true rfl)
  · have t11_2 := FF.mk (i_ne c11_1)
    have r11_3 : rg x_mm_1 1 2000 := rg_neAl t11_2 h_x_mm_1 (show rg (0 : Int32) 0 0 from rg_l (by decide)) (by decide)
    refine lv_iload_n hx hb dX16_load_14 rfl (lv_at hl 0 rfl) ?_
    refine lv_bipush (v := 8) hx hb dX16_load_15 (by decide) ?_
    refine lv_irem hx hb dX16_load_17 (by decide) ?_
    refine lv_topi (fun z17_1 ez17_1 => ?_)
    have r17_2 : rg z17_1 0 7 := rg_rem (k := 8) ez17_1 (by decide) r11_3 (by decide)
    refine lv_if_eq (tgt := 23) hx hb dX16_load_18 (by decide) (fun c18_1 => ?_) (fun c18_1 => ?_)
    · have t18_2 := FF.mk (i_eq c18_1)
      have r18_3 : rg z17_1 0 0 := rg_eqA t18_2 r17_2 (show rg (0 : Int32) 0 0 from rg_l (by decide)) (by decide)
      refine lv_aload_n hx hb dX16_load_23 rfl (lv_at hl 1 rfl) ?_
      refine lv_iload_n hx hb dX16_load_24 rfl (lv_at hl 0 rfl) ?_
      refine lv_bipush (v := 8) hx hb dX16_load_25 (by decide) ?_
      refine lv_idiv hx hb dX16_load_27 (by decide) ?_
      refine lv_topi (fun z27_1 ez27_1 => ?_)
      have r27_2 : rg z27_1 0 250 := rg_div (k := 8) ez27_1 (by decide) r11_3 (by decide)
      obtain ⟨R2, hR2⟩ : ∃ k : Nat, z27_1.toNatClampNeg = k := ⟨_, rfl⟩
      have hR2i := FF.mk (ncn_up hR2 (show 0 ≤ z27_1.toInt by have q0 := r27_2.1; omega))
      refine na_new (atype := .long) (k1 := 1) (n1 := 250) hx hb hn mw_123 rfl hK hP hD hS hA 2 rfl R2 (R2, .inr (.inl (fun _ => 0))) (fun _ => rfl) (nneg_of (show 0 ≤ z27_1.toInt by have q0 := r27_2.1; omega)) hR2 (show R2 * 8 ≤ 536870912 by have h9 := (show ((R2 : Nat) : Int) ≤ 250 by have q0 := r27_2.2; have q1 := FF.out hR2i; omega); omega) (Nat.le_of_ble_eq_true rfl) (show 0 + R2 ≤ 250 by have h9 := (show ((R2 : Nat) : Int) ≤ 250 by have q0 := r27_2.2; have q1 := FF.out hR2i; omega); omega) (Nat.le_of_ble_eq_true rfl) (Nat.le_of_ble_eq_true rfl) dX16_load_28 (fun q28_1 H hP hD hS => ?_)
      have hP : va_P D vwCl [(mm, .inr (16, m7_1)), (utape, .inl (ct 1, 2000, .inl g_utape)), (upg, .inl (ct 2, PL, .inr (.inl g_upg))), (q28_1, .inl (ct 2, R2, .inr (.inl (fun _ => 0))))] _ := hP
      have hD : va_D A [(mm, .inr (16, m7_1)), (utape, .inl (ct 1, 2000, .inl g_utape)), (upg, .inl (ct 2, PL, .inr (.inl g_upg))), (q28_1, .inl (ct 2, R2, .inr (.inl (fun _ => 0))))] := hD
      refine va_put (D := D) (ci := 16) (v := .ref q28_1) (ty := .array .long) (C := RX16) (T := TX16) (N := 78) hx hb (htX16 hn) (fun _ h => h) tyX16 tyX16_ok nmX16 hown hK hP hD hS 0 rfl rfl 26 (by decide) (hn.get mw_1565 rfl) (fun _ h9 => h9) rfl (by decide +kernel) rfl rfl (by rw [hsm7_1.1, hlen_mm]; decide) dX16_load_30 (fun H locs hP hD hS => ?_)
      have hP : va_P D vwCl [(mm, .inr (16, (m7_1.set 26 (.ref q28_1)))), (utape, .inl (ct 1, 2000, .inl g_utape)), (upg, .inl (ct 2, PL, .inr (.inl g_upg))), (q28_1, .inl (ct 2, R2, .inr (.inl (fun _ => 0))))] _ := hP
      have hD : va_D A [(mm, .inr (16, (m7_1.set 26 (.ref q28_1)))), (utape, .inl (ct 1, 2000, .inl g_utape)), (upg, .inl (ct 2, PL, .inr (.inl g_upg))), (q28_1, .inl (ct 2, R2, .inr (.inl (fun _ => 0))))] := hD
      obtain ⟨m30_1, em30_1⟩ : ∃ z, z = (m7_1.set 26 (.ref q28_1)) := ⟨_, rfl⟩
      rw [← em30_1] at hP hD
      have hsm30_1 : SB fs_mm m30_1 [1, 26, 27] := by rw [em30_1]; exact SB.set hsm7_1 (by decide)
      have hfm30_1_27 : m30_1[27]? = some (.int x_mm_27) := by rw [em30_1]; exact fs_ne (by decide) hfm7_1_27
      have hfm30_1_1 : m30_1[1]? = some (.int 0) := by rw [em30_1]; exact fs_ne (by decide) hfm7_1_1
      have hfm30_1_26 : m30_1[26]? = some (.ref q28_1) := by rw [em30_1]; exact fs_eq (by rw [hsm7_1.1, hlen_mm]; decide)
      have hP : va_P D vwCl [(mm, .inr (16, m30_1)), (utape, .inl (ct 1, 2000, .inl g_utape)), (upg, .inl (ct 2, PL, .inr (.inl g_upg))), (q28_1, .inl (ct 2, R2, .inr (.inl (fun _ => 0))))] _ := hP
      have hD : va_D A [(mm, .inr (16, m30_1)), (utape, .inl (ct 1, 2000, .inl g_utape)), (upg, .inl (ct 2, PL, .inr (.inl g_upg))), (q28_1, .inl (ct 2, R2, .inr (.inl (fun _ => 0))))] := hD
      refine lv_iconst (v := 0) hx hb dX16_load_33 (by decide) ?_
      refine lv_istore_n (lv' := [(2, .int 0), (1, .int x_mm_1), (0, .ref mm)]) hx hb dX16_load_34 rfl hl (by decide) rfl (fun ls hl => ?_)
      have b35 : ∀ (n35 : Nat) (j35_l2 : Int32) (j35_cq28_1 : Nat → Int64) (H : Heap) (locs : List Loc) (ls : Array Slot), (rg j35_l2 0 2147483647) → ((2147483647 : Int) - j35_l2.toInt).toNat < n35 → lv_has ls 3 [(0, .ref mm), (1, .int x_mm_1), (2, .int j35_l2)] → va_P D vwCl [(mm, .inr (16, m30_1)), (utape, .inl (ct 1, 2000, .inl g_utape)), (upg, .inl (ct 2, PL, .inr (.inl g_upg))), (q28_1, .inl (ct 2, R2, .inr (.inl j35_cq28_1)))] H → va_D A [(mm, .inr (16, m30_1)), (utape, .inl (ct 1, 2000, .inl g_utape)), (upg, .inl (ct 2, PL, .inr (.inl g_upg))), (q28_1, .inl (ct 2, R2, .inr (.inl j35_cq28_1)))] → va_S A s.heap H locs → W p l e ({ frames := 1, cells := 1, slots := 250, locals := 20 }) s m [.ref mm].toArray below meth c H locs 1 250 Q (F0 m 35 ls []) := by
        intro n35
        induction n35 with
        | zero => intros; rename_i hms _ _ _ _; exact absurd hms (Nat.not_lt_zero _)
        | succ n35 ih35 =>
          intro j35_l2 j35_cq28_1 H locs ls r35_1001 hms35 hl hP hD hS
          refine lv_iload_n hx hb dX16_load_35 rfl (lv_at hl 2 rfl) ?_
          refine lv_iload_n hx hb dX16_load_36 rfl (lv_at hl 1 rfl) ?_
          refine lv_icmp_ge (tgt := 73) hx hb dX16_load_37 (by decide) (fun c37_1 => ?_) (fun c37_1 => ?_)
          · have t37_2 := FF.mk (i_le c37_1)
            have r37_3 : rg j35_l2 1 2147483647 := rg_leB t37_2 r11_3 r35_1001 (by decide)
            refine lv_aload_n hx hb dX16_load_73 rfl (lv_at hl 0 rfl) ?_
            refine lv_iconst (v := 1) hx hb dX16_load_74 (by decide) ?_
            refine va_put (D := D) (ci := 16) (v := .int 1) (ty := .boolean) (C := RX16) (T := TX16) (N := 78) hx hb (htX16 hn) (fun _ h => h) tyX16 tyX16_ok nmX16 hown hK hP hD hS 0 rfl rfl 27 (by decide) (hn.get mw_1566 rfl) (fun _ h9 => h9) rfl (by decide +kernel) (by decide) rfl (by rw [hsm30_1.1, hlen_mm]; decide) dX16_load_75 (fun H locs hP hD hS => ?_)
            have hP : va_P D vwCl [(mm, .inr (16, (m30_1.set 27 (.int 1)))), (utape, .inl (ct 1, 2000, .inl g_utape)), (upg, .inl (ct 2, PL, .inr (.inl g_upg))), (q28_1, .inl (ct 2, R2, .inr (.inl j35_cq28_1)))] _ := hP
            have hD : va_D A [(mm, .inr (16, (m30_1.set 27 (.int 1)))), (utape, .inl (ct 1, 2000, .inl g_utape)), (upg, .inl (ct 2, PL, .inr (.inl g_upg))), (q28_1, .inl (ct 2, R2, .inr (.inl j35_cq28_1)))] := hD
            obtain ⟨m75_1, em75_1⟩ : ∃ z, z = (m30_1.set 27 (.int 1)) := ⟨_, rfl⟩
            rw [← em75_1] at hP hD
            have hsm75_1 : SB fs_mm m75_1 [1, 26, 27] := by rw [em75_1]; exact SB.set hsm30_1 (by decide)
            have hfm75_1_1 : m75_1[1]? = some (.int 0) := by rw [em75_1]; exact fs_ne (by decide) hfm30_1_1
            have hfm75_1_26 : m75_1[26]? = some (.ref q28_1) := by rw [em75_1]; exact fs_ne (by decide) hfm30_1_26
            have hfm75_1_27 : m75_1[27]? = some (.int 1) := by rw [em75_1]; exact fs_eq (by rw [hsm30_1.1, hlen_mm]; decide)
            have hP : va_P D vwCl [(mm, .inr (16, m75_1)), (utape, .inl (ct 1, 2000, .inl g_utape)), (upg, .inl (ct 2, PL, .inr (.inl g_upg))), (q28_1, .inl (ct 2, R2, .inr (.inl j35_cq28_1)))] _ := hP
            have hD : va_D A [(mm, .inr (16, m75_1)), (utape, .inl (ct 1, 2000, .inl g_utape)), (upg, .inl (ct 2, PL, .inr (.inl g_upg))), (q28_1, .inl (ct 2, R2, .inr (.inl j35_cq28_1)))] := hD
            refine lv_iload_n hx hb dX16_load_78 rfl (lv_at hl 1 rfl) ?_
            refine lv_bipush (v := 8) hx hb dX16_load_79 (by decide) ?_
            refine lv_idiv hx hb dX16_load_81 (by decide) ?_
            refine lv_topi (fun z81_1 ez81_1 => ?_)
            have r81_2 : rg z81_1 0 250 := rg_div (k := 8) ez81_1 (by decide) r11_3 (by decide)
            exact endq_i hQ hx hb hr hlocks dX16_load_82 rfl (m75_1, q28_1, (1 : Int32), j35_cq28_1, R2) ⟨(rg_w r81_2 (by decide)), hsm75_1, hfm75_1_1, hfm75_1_26, (rg_w (show rg (1 : Int32) 1 1 from rg_l (by decide)) (by decide)), hfm75_1_27, (show ((R2 : Nat) : Int) ≤ 4000 by have q0 := r27_2.2; have q1 := FF.out hR2i; omega), (show (1 : Int32).toInt = 1 → 1 ≤ ((R2 : Nat) : Int) by have q0 := (eq_div (c := 8) (k := 8) ez27_1 (by decide) r11_3 (by decide)); have q1 := r11_3.1; have q2 := (eq_rem (c := 8) (k := 8) ez17_1 (by decide) r11_3 (by decide)); have q3 := FF.out t18_2; have q4 := FF.out hR2i; have q5 := (show (0 : Int32).toInt = 0 from by decide); have q6 := (show (1 : Int32).toInt = 1 from by decide); omega), (PB.small (Int.ofNat_le.mp (show ((R2 : Nat) : Int) ≤ 250 by have q0 := r27_2.2; have q1 := FF.out hR2i; omega)))⟩ hP hD hS [0, 1, 3] rfl (by decide) rfl (Nat.le_of_ble_eq_true rfl) (Nat.le_of_ble_eq_true rfl)
          · have t37_2 := FF.mk (i_nle c37_1)
            have r37_3 : rg j35_l2 0 1999 := rg_ltA t37_2 r35_1001 r11_3 (by decide)
            refine lv_aload_n hx hb dX16_load_40 rfl (lv_at hl 0 rfl) ?_
            refine va_get (D := D) (ci := 16) (v := .ref q28_1) (C := RX16) (T := TX16) (N := 78) hx hb (htX16 hn) (fun _ h => h) hown hK hP 0 rfl rfl 26 (by decide) (hn.get mw_1565 rfl) (fun _ h9 => h9) hfm30_1_26 dX16_load_41 ?_
            refine lv_iload_n hx hb dX16_load_44 rfl (lv_at hl 2 rfl) ?_
            refine lv_bipush (v := 8) hx hb dX16_load_45 (by decide) ?_
            refine lv_idiv hx hb dX16_load_47 (by decide) ?_
            refine lv_topi (fun z47_1 ez47_1 => ?_)
            have r47_2 : rg z47_1 0 249 := rg_div (k := 8) ez47_1 (by decide) r37_3 (by decide)
            refine lv_dup2_11 hx hb dX16_load_48 rfl rfl ?_
            have hi49_1 : vp_in z47_1 R2 := (in_of (show 0 ≤ z47_1.toInt ∧ z47_1.toInt < ((R2 : Nat) : Int) by have q0 := r47_2.1; have q1 := (eq_div (c := 8) (k := 8) ez47_1 (by decide) r37_3 (by decide)); have q2 := r18_3.2; have q3 := (eq_rem (c := 8) (k := 8) ez17_1 (by decide) r11_3 (by decide)); have q4 := (eq_div (c := 8) (k := 8) ez27_1 (by decide) r11_3 (by decide)); have q5 := FF.out hR2i; have q6 := FF.out t37_2; omega))
            refine va_lald hx hb hK hP 3 2 rfl rfl hi49_1 dX16_load_49 ?_
            refine lv_topl (fun z49_2 ez49_2 => ?_)
            refine lv_aload_n hx hb dX16_load_50 rfl (lv_at hl 0 rfl) ?_
            refine va_get (D := D) (ci := 16) (v := .ref utape) (C := RX16) (T := TX16) (N := 78) hx hb (htX16 hn) (fun _ h => h) hown hK hP 0 rfl rfl 0 (by decide) (hn.get mw_1539 rfl) (fun _ h9 => h9) (SB.get hsm30_1 (by decide) hf_mm_0) dX16_load_51 ?_
            refine lv_iload_n hx hb dX16_load_54 rfl (lv_at hl 2 rfl) ?_
            have hi55_1 : vp_in j35_l2 2000 := (in_rg r37_3 (by decide))
            refine va_iald hx hb hK hP 1 1 rfl rfl hi55_1 dX16_load_55 ?_
            refine lv_topi (fun z55_2 ez55_2 => ?_)
            have r55_3 : rg z55_2 0 255 := Rg_at h_g_utape hi55_1 ez55_2
            refine lv_i2l hx hb dX16_load_56 rfl ?_
            refine lv_topl (fun z56_1 ez56_1 => ?_)
            have r56_2 : rl z56_1 0 255 := rl_i2l ez56_1 r55_3
            refine lv_bipush (v := 8) hx hb dX16_load_57 (by decide) ?_
            refine lv_iload_n hx hb dX16_load_59 rfl (lv_at hl 2 rfl) ?_
            refine lv_bipush (v := 8) hx hb dX16_load_60 (by decide) ?_
            refine lv_irem hx hb dX16_load_62 (by decide) ?_
            refine lv_topi (fun z62_1 ez62_1 => ?_)
            have r62_2 : rg z62_1 0 7 := rg_rem (k := 8) ez62_1 (by decide) r37_3 (by decide)
            refine lv_imul hx hb dX16_load_63 ?_
            refine lv_topi (fun z63_1 ez63_1 => ?_)
            have r63_2 : rg z63_1 0 56 := rg_mul ez63_1 (show rg (8 : Int32) 8 8 from rg_l (by decide)) r62_2 (by decide)
            refine lv_lshl hx hb dX16_load_64 rfl ?_
            refine lv_topl (fun z64_1 ez64_1 => ?_)
            refine lv_lor hx hb dX16_load_65 ?_
            refine lv_topl (fun z65_1 ez65_1 => ?_)
            have hi66_1 : vp_in z47_1 R2 := (in_of (show 0 ≤ z47_1.toInt ∧ z47_1.toInt < ((R2 : Nat) : Int) by have q0 := r47_2.1; have q1 := (eq_div (c := 8) (k := 8) ez47_1 (by decide) r37_3 (by decide)); have q2 := r18_3.2; have q3 := (eq_rem (c := 8) (k := 8) ez17_1 (by decide) r11_3 (by decide)); have q4 := (eq_div (c := 8) (k := 8) ez27_1 (by decide) r11_3 (by decide)); have q5 := FF.out hR2i; have q6 := FF.out t37_2; omega))
            refine va_last hx hb hK hP hD hS 3 2 rfl rfl hi66_1 dX16_load_66 (fun H locs hP hD hS => ?_)
            have hP : va_P D vwCl [(mm, .inr (16, m30_1)), (utape, .inl (ct 1, 2000, .inl g_utape)), (upg, .inl (ct 2, PL, .inr (.inl g_upg))), (q28_1, .inl (ct 2, R2, .inr (.inl (vp_updL j35_cq28_1 z47_1.toNatClampNeg z65_1))))] _ := hP
            have hD : va_D A [(mm, .inr (16, m30_1)), (utape, .inl (ct 1, 2000, .inl g_utape)), (upg, .inl (ct 2, PL, .inr (.inl g_upg))), (q28_1, .inl (ct 2, R2, .inr (.inl (vp_updL j35_cq28_1 z47_1.toNatClampNeg z65_1))))] := hD
            obtain ⟨f66_2, ef66_2⟩ : ∃ z, z = (vp_updL j35_cq28_1 z47_1.toNatClampNeg z65_1) := ⟨_, rfl⟩
            rw [← ef66_2] at hP hD
            obtain ⟨x67_1, ex67_1⟩ : ∃ z : Int32, z = j35_l2 + 1 := ⟨_, rfl⟩
            have r67_2 : rg x67_1 1 2000 := rg_add ex67_1 r37_3 (show rg (1 : Int32) 1 1 from rg_l (by decide)) (by decide)
            refine lv_iinc (v := x67_1) (lv' := [(2, .int x67_1), (0, .ref mm), (1, .int x_mm_1)]) hx hb dX16_load_67 hl (k := 2) rfl (by rw [ex67_1]; rfl) (by decide) rfl (fun ls hl => ?_)
            refine lv_goto (tgt := 35) hx hb dX16_load_70 (by decide) ?_
            exact ih35 x67_1 f66_2 H locs ls (rg_w r67_2 (by decide)) (show ((2147483647 : Int) - x67_1.toInt).toNat < n35 by have q0 := r37_3.2; have q1 := (eq_add ex67_1 r37_3 (show rg (1 : Int32) 1 1 from rg_l (by decide)) (by decide)); have q2 := (show (1 : Int32).toInt = 1 from by decide); have q3 := hms35; omega) (lv_sub hl [1, 2, 0] rfl) hP hD hS
      exact b35 _ (0 : Int32) (fun _ => 0) H locs ls (rg_w (show rg (0 : Int32) 0 0 from rg_l (by decide)) (by decide)) (Nat.lt_succ_self _) (lv_sub hl [2, 1, 0] rfl) hP hD hS
    · have t18_2 := FF.mk (i_ne c18_1)
      have r18_3 : rg z17_1 1 7 := rg_neAl t18_2 r17_2 (show rg (0 : Int32) 0 0 from rg_l (by decide)) (by decide)
      refine lv_iconst (v := (-1)) hx hb dX16_load_21 (by decide) ?_
      exact endq_i hQ hx hb hr hlocks dX16_load_22 rfl (m7_1, upg, x_mm_27, g_upg, PL) ⟨(rg_w (show rg ((-1) : Int32) (-1) (-1) from rg_l (by decide)) (by decide)), hsm7_1, hfm7_1_1, hfm7_1_26, h_x_mm_27, hfm7_1_27, (show ((PL : Nat) : Int) ≤ 4000 by have q0 := FF.out hq0; omega), (show x_mm_27.toInt = 1 → 1 ≤ ((PL : Nat) : Int) by have q0 := h_x_mm_27.2; have q1 := FF.out hq1; omega), hg0⟩ hP hD hS [0, 1, 2] rfl (by decide) rfl (Nat.le_of_ble_eq_true rfl) (Nat.le_of_ble_eq_true rfl)
set_option maxHeartbeats 2000000 in
theorem c_X16_raw (l : Launch) (D : va_G) (ct : Nat → ClassId) (mm : Nat) (fs_mm : List Value) (utape : Nat) (x_mm_1 : Int32) (uob : Nat) (x_mm_70 : Int32) (x_mm_71 : Int32) (g_uob : Nat → Int32) (g_utape : Nat → Int32) (hlen_mm : fs_mm.length = 78) (hf_mm_0 : fs_mm[0]? = some (.ref utape)) (h_x_mm_1 : rg x_mm_1 0 2000) (hf_mm_1 : fs_mm[1]? = some (.int x_mm_1)) (hf_mm_69 : fs_mm[69]? = some (.ref uob)) (h_x_mm_70 : rg x_mm_70 0 60000) (hf_mm_70 : fs_mm[70]? = some (.int x_mm_70)) (h_x_mm_71 : rg x_mm_71 0 1) (hf_mm_71 : fs_mm[71]? = some (.int x_mm_71)) (h_g_utape : Rg g_utape 2000 0 255) : KI (S := List Value × Int32 × Int32 × (Nat → Int32)) l yX16_raw cX16_raw 3 (some .int) 1 20 D ct [.ref mm] [(mm, .inr (16, fs_mm)), (uob, .inl (ct 1, 60000, .inl g_uob)), (utape, .inl (ct 1, 2000, .inl g_utape))] 0 0 (fun (r : Int32) (u : List Value × Int32 × Int32 × (Nat → Int32)) => match u with | (fs2_mm, y_mm_70, y_mm_71, k_uob) => rg r (-1) 500 ∧ SB fs_mm fs2_mm [1, 70, 71] ∧ fs2_mm[1]? = some (.int 0) ∧ rg y_mm_70 0 60000 ∧ fs2_mm[70]? = some (.int y_mm_70) ∧ rg y_mm_71 0 1 ∧ fs2_mm[71]? = some (.int y_mm_71)) (fun (u : List Value × Int32 × Int32 × (Nat → Int32)) => match u with | (fs2_mm, y_mm_70, y_mm_71, k_uob) => [(mm, .inr (16, fs2_mm)), (uob, .inl (ct 1, 60000, .inl k_uob)), (utape, .inl (ct 1, 2000, .inl g_utape))]) := by
  refine KIq_of (by decide) (Nat.le_of_ble_eq_true rfl) (fun p e s m below meth c A Q C0 hA H locs hS hP hD hQ ls hl => ?_)
  obtain ⟨hx, hb, hr, hown, hin, hml, hlocks, hn, hK, hZ, hSK⟩ := C0
  have hl : lv_has ls 3 [(0, .ref mm)] := hl
  refine lv_aload_n hx hb dX16_raw_0 rfl (lv_at hl 0 rfl) ?_
  refine va_get (D := D) (ci := 16) (v := .int x_mm_1) (C := RX16) (T := TX16) (N := 78) hx hb (htX16 hn) (fun _ h => h) hown hK hP 0 rfl rfl 1 (by decide) (hn.get mw_1540 rfl) (fun _ h9 => h9) hf_mm_1 dX16_raw_1 ?_
  refine lv_istore_n (lv' := [(1, .int x_mm_1), (0, .ref mm)]) hx hb dX16_raw_4 rfl hl (by decide) rfl (fun ls hl => ?_)
  refine lv_aload_n hx hb dX16_raw_5 rfl (lv_at hl 1 rfl) ?_
  refine lv_iconst (v := 0) hx hb dX16_raw_6 (by decide) ?_
  refine va_put (D := D) (ci := 16) (v := .int 0) (ty := .int) (C := RX16) (T := TX16) (N := 78) hx hb (htX16 hn) (fun _ h => h) tyX16 tyX16_ok nmX16 hown hK hP hD hS 0 rfl rfl 1 (by decide) (hn.get mw_1540 rfl) (fun _ h9 => h9) rfl (by decide +kernel) rfl rfl (by rw [hlen_mm]; decide) dX16_raw_7 (fun H locs hP hD hS => ?_)
  have hP : va_P D vwCl [(mm, .inr (16, (fs_mm.set 1 (.int 0)))), (uob, .inl (ct 1, 60000, .inl g_uob)), (utape, .inl (ct 1, 2000, .inl g_utape))] _ := hP
  have hD : va_D A [(mm, .inr (16, (fs_mm.set 1 (.int 0)))), (uob, .inl (ct 1, 60000, .inl g_uob)), (utape, .inl (ct 1, 2000, .inl g_utape))] := hD
  obtain ⟨m7_1, em7_1⟩ : ∃ z, z = (fs_mm.set 1 (.int 0)) := ⟨_, rfl⟩
  rw [← em7_1] at hP hD
  have hsm7_1 : SB fs_mm m7_1 [1, 70, 71] := by rw [em7_1]; exact SB.set (SB.rf _ _) (by decide)
  have hfm7_1_70 : m7_1[70]? = some (.int x_mm_70) := by rw [em7_1]; exact fs_ne (by decide) hf_mm_70
  have hfm7_1_71 : m7_1[71]? = some (.int x_mm_71) := by rw [em7_1]; exact fs_ne (by decide) hf_mm_71
  have hfm7_1_1 : m7_1[1]? = some (.int 0) := by rw [em7_1]; exact fs_eq (by rw [hlen_mm]; decide)
  have hP : va_P D vwCl [(mm, .inr (16, m7_1)), (uob, .inl (ct 1, 60000, .inl g_uob)), (utape, .inl (ct 1, 2000, .inl g_utape))] _ := hP
  have hD : va_D A [(mm, .inr (16, m7_1)), (uob, .inl (ct 1, 60000, .inl g_uob)), (utape, .inl (ct 1, 2000, .inl g_utape))] := hD
  refine lv_iload_n hx hb dX16_raw_10 rfl (lv_at hl 0 rfl) ?_
  refine lv_if_eq (tgt := 20) hx hb dX16_raw_11 (by decide) (fun c11_1 => ?_) (fun c11_1 => ?_)
  · have t11_2 := FF.mk (i_eq c11_1)
    have r11_3 : rg x_mm_1 0 0 := rg_eqA t11_2 h_x_mm_1 (show rg (0 : Int32) 0 0 from rg_l (by decide)) (by decide)
    refine lv_iconst (v := (-1)) hx hb dX16_raw_20 (by decide) ?_
    exact endq_i hQ hx hb hr hlocks dX16_raw_21 rfl (m7_1, x_mm_70, x_mm_71, g_uob) ⟨(rg_w (show rg ((-1) : Int32) (-1) (-1) from rg_l (by decide)) (by decide)), hsm7_1, hfm7_1_1, h_x_mm_70, hfm7_1_70, h_x_mm_71, hfm7_1_71⟩ hP hD hS [0, 1, 2] rfl (by decide) rfl (Nat.le_of_ble_eq_true rfl) (Nat.le_of_ble_eq_true rfl)
  · have t11_2 := FF.mk (i_ne c11_1)
    have r11_3 : rg x_mm_1 1 2000 := rg_neAl t11_2 h_x_mm_1 (show rg (0 : Int32) 0 0 from rg_l (by decide)) (by decide)
    refine lv_iload_n hx hb dX16_raw_14 rfl (lv_at hl 0 rfl) ?_
    refine lv_iconst (v := 4) hx hb dX16_raw_15 (by decide) ?_
    refine lv_irem hx hb dX16_raw_16 (by decide) ?_
    refine lv_topi (fun z16_1 ez16_1 => ?_)
    have r16_2 : rg z16_1 0 3 := rg_rem (k := 4) ez16_1 (by decide) r11_3 (by decide)
    refine lv_if_eq (tgt := 22) hx hb dX16_raw_17 (by decide) (fun c17_1 => ?_) (fun c17_1 => ?_)
    · have t17_2 := FF.mk (i_eq c17_1)
      have r17_3 : rg z16_1 0 0 := rg_eqA t17_2 r16_2 (show rg (0 : Int32) 0 0 from rg_l (by decide)) (by decide)
      refine lv_iconst (v := 0) hx hb dX16_raw_22 (by decide) ?_
      refine lv_istore_n (lv' := [(2, .int 0), (1, .int x_mm_1), (0, .ref mm)]) hx hb dX16_raw_23 rfl hl (by decide) rfl (fun ls hl => ?_)
      have b24 : ∀ (n24 : Nat) (j24_l2 : Int32) (j24_cuob : Nat → Int32) (H : Heap) (locs : List Loc) (ls : Array Slot), (rg j24_l2 0 2147483647) → ((2147483647 : Int) - j24_l2.toInt).toNat < n24 → lv_has ls 3 [(0, .ref mm), (1, .int x_mm_1), (2, .int j24_l2)] → va_P D vwCl [(mm, .inr (16, m7_1)), (uob, .inl (ct 1, 60000, .inl j24_cuob)), (utape, .inl (ct 1, 2000, .inl g_utape))] H → va_D A [(mm, .inr (16, m7_1)), (uob, .inl (ct 1, 60000, .inl j24_cuob)), (utape, .inl (ct 1, 2000, .inl g_utape))] → va_S A s.heap H locs → W p l e ({ frames := 1, cells := 0, slots := 0, locals := 20 }) s m [.ref mm].toArray below meth c H locs 0 0 Q (F0 m 24 ls []) := by
        intro n24
        induction n24 with
        | zero => intros; rename_i hms _ _ _ _; exact absurd hms (Nat.not_lt_zero _)
        | succ n24 ih24 =>
          intro j24_l2 j24_cuob H locs ls r24_1001 hms24 hl hP hD hS
          refine lv_iload_n hx hb dX16_raw_24 rfl (lv_at hl 2 rfl) ?_
          refine lv_iload_n hx hb dX16_raw_25 rfl (lv_at hl 1 rfl) ?_
          refine lv_icmp_ge (tgt := 75) hx hb dX16_raw_26 (by decide) (fun c26_1 => ?_) (fun c26_1 => ?_)
          · have t26_2 := FF.mk (i_le c26_1)
            have r26_3 : rg j24_l2 1 2147483647 := rg_leB t26_2 r11_3 r24_1001 (by decide)
            refine lv_aload_n hx hb dX16_raw_75 rfl (lv_at hl 0 rfl) ?_
            refine lv_iload_n hx hb dX16_raw_76 rfl (lv_at hl 1 rfl) ?_
            refine lv_iconst (v := 4) hx hb dX16_raw_77 (by decide) ?_
            refine lv_idiv hx hb dX16_raw_78 (by decide) ?_
            refine lv_topi (fun z78_1 ez78_1 => ?_)
            have r78_2 : rg z78_1 0 500 := rg_div (k := 4) ez78_1 (by decide) r11_3 (by decide)
            refine va_put (D := D) (ci := 16) (v := .int z78_1) (ty := .int) (C := RX16) (T := TX16) (N := 78) hx hb (htX16 hn) (fun _ h => h) tyX16 tyX16_ok nmX16 hown hK hP hD hS 0 rfl rfl 70 (by decide) (hn.get mw_1609 rfl) (fun _ h9 => h9) rfl (by decide +kernel) rfl rfl (by rw [hsm7_1.1, hlen_mm]; decide) dX16_raw_79 (fun H locs hP hD hS => ?_)
            have hP : va_P D vwCl [(mm, .inr (16, (m7_1.set 70 (.int z78_1)))), (uob, .inl (ct 1, 60000, .inl j24_cuob)), (utape, .inl (ct 1, 2000, .inl g_utape))] _ := hP
            have hD : va_D A [(mm, .inr (16, (m7_1.set 70 (.int z78_1)))), (uob, .inl (ct 1, 60000, .inl j24_cuob)), (utape, .inl (ct 1, 2000, .inl g_utape))] := hD
            obtain ⟨m79_1, em79_1⟩ : ∃ z, z = (m7_1.set 70 (.int z78_1)) := ⟨_, rfl⟩
            rw [← em79_1] at hP hD
            have hsm79_1 : SB fs_mm m79_1 [1, 70, 71] := by rw [em79_1]; exact SB.set hsm7_1 (by decide)
            have hfm79_1_71 : m79_1[71]? = some (.int x_mm_71) := by rw [em79_1]; exact fs_ne (by decide) hfm7_1_71
            have hfm79_1_1 : m79_1[1]? = some (.int 0) := by rw [em79_1]; exact fs_ne (by decide) hfm7_1_1
            have hfm79_1_70 : m79_1[70]? = some (.int z78_1) := by rw [em79_1]; exact fs_eq (by rw [hsm7_1.1, hlen_mm]; decide)
            have hP : va_P D vwCl [(mm, .inr (16, m79_1)), (uob, .inl (ct 1, 60000, .inl j24_cuob)), (utape, .inl (ct 1, 2000, .inl g_utape))] _ := hP
            have hD : va_D A [(mm, .inr (16, m79_1)), (uob, .inl (ct 1, 60000, .inl j24_cuob)), (utape, .inl (ct 1, 2000, .inl g_utape))] := hD
            refine lv_aload_n hx hb dX16_raw_82 rfl (lv_at hl 0 rfl) ?_
            refine lv_iconst (v := 1) hx hb dX16_raw_83 (by decide) ?_
            refine va_put (D := D) (ci := 16) (v := .int 1) (ty := .boolean) (C := RX16) (T := TX16) (N := 78) hx hb (htX16 hn) (fun _ h => h) tyX16 tyX16_ok nmX16 hown hK hP hD hS 0 rfl rfl 71 (by decide) (hn.get mw_1610 rfl) (fun _ h9 => h9) rfl (by decide +kernel) (by decide) rfl (by rw [hsm79_1.1, hlen_mm]; decide) dX16_raw_84 (fun H locs hP hD hS => ?_)
            have hP : va_P D vwCl [(mm, .inr (16, (m79_1.set 71 (.int 1)))), (uob, .inl (ct 1, 60000, .inl j24_cuob)), (utape, .inl (ct 1, 2000, .inl g_utape))] _ := hP
            have hD : va_D A [(mm, .inr (16, (m79_1.set 71 (.int 1)))), (uob, .inl (ct 1, 60000, .inl j24_cuob)), (utape, .inl (ct 1, 2000, .inl g_utape))] := hD
            obtain ⟨m84_1, em84_1⟩ : ∃ z, z = (m79_1.set 71 (.int 1)) := ⟨_, rfl⟩
            rw [← em84_1] at hP hD
            have hsm84_1 : SB fs_mm m84_1 [1, 70, 71] := by rw [em84_1]; exact SB.set hsm79_1 (by decide)
            have hfm84_1_1 : m84_1[1]? = some (.int 0) := by rw [em84_1]; exact fs_ne (by decide) hfm79_1_1
            have hfm84_1_70 : m84_1[70]? = some (.int z78_1) := by rw [em84_1]; exact fs_ne (by decide) hfm79_1_70
            have hfm84_1_71 : m84_1[71]? = some (.int 1) := by rw [em84_1]; exact fs_eq (by rw [hsm79_1.1, hlen_mm]; decide)
            have hP : va_P D vwCl [(mm, .inr (16, m84_1)), (uob, .inl (ct 1, 60000, .inl j24_cuob)), (utape, .inl (ct 1, 2000, .inl g_utape))] _ := hP
            have hD : va_D A [(mm, .inr (16, m84_1)), (uob, .inl (ct 1, 60000, .inl j24_cuob)), (utape, .inl (ct 1, 2000, .inl g_utape))] := hD
            refine lv_iload_n hx hb dX16_raw_87 rfl (lv_at hl 1 rfl) ?_
            refine lv_iconst (v := 4) hx hb dX16_raw_88 (by decide) ?_
            refine lv_idiv hx hb dX16_raw_89 (by decide) ?_
            refine lv_topi (fun z89_1 ez89_1 => ?_)
            have r89_2 : rg z89_1 0 500 := rg_div (k := 4) ez89_1 (by decide) r11_3 (by decide)
            exact endq_i hQ hx hb hr hlocks dX16_raw_90 rfl (m84_1, z78_1, (1 : Int32), j24_cuob) ⟨(rg_w r89_2 (by decide)), hsm84_1, hfm84_1_1, (rg_w r78_2 (by decide)), hfm84_1_70, (rg_w (show rg (1 : Int32) 1 1 from rg_l (by decide)) (by decide)), hfm84_1_71⟩ hP hD hS [0, 1, 2] rfl (by decide) rfl (Nat.le_of_ble_eq_true rfl) (Nat.le_of_ble_eq_true rfl)
          · have t26_2 := FF.mk (i_nle c26_1)
            have r26_3 : rg j24_l2 0 1999 := rg_ltA t26_2 r24_1001 r11_3 (by decide)
            refine lv_aload_n hx hb dX16_raw_29 rfl (lv_at hl 0 rfl) ?_
            refine va_get (D := D) (ci := 16) (v := .ref uob) (C := RX16) (T := TX16) (N := 78) hx hb (htX16 hn) (fun _ h => h) hown hK hP 0 rfl rfl 69 (by decide) (hn.get mw_1608 rfl) (fun _ h9 => h9) (SB.get hsm7_1 (by decide) hf_mm_69) dX16_raw_30 ?_
            refine lv_iload_n hx hb dX16_raw_33 rfl (lv_at hl 2 rfl) ?_
            refine lv_iconst (v := 4) hx hb dX16_raw_34 (by decide) ?_
            refine lv_idiv hx hb dX16_raw_35 (by decide) ?_
            refine lv_topi (fun z35_1 ez35_1 => ?_)
            have r35_2 : rg z35_1 0 499 := rg_div (k := 4) ez35_1 (by decide) r26_3 (by decide)
            refine lv_iload_n hx hb dX16_raw_36 rfl (lv_at hl 2 rfl) ?_
            refine lv_iconst (v := 4) hx hb dX16_raw_37 (by decide) ?_
            refine lv_irem hx hb dX16_raw_38 (by decide) ?_
            refine lv_topi (fun z38_1 ez38_1 => ?_)
            have r38_2 : rg z38_1 0 3 := rg_rem (k := 4) ez38_1 (by decide) r26_3 (by decide)
            have b54 : ∀ (j54_s0 : Int32) (H : Heap) (locs : List Loc) (ls : Array Slot), lv_has ls 3 [(0, .ref mm), (1, .int x_mm_1), (2, .int j24_l2)] → va_P D vwCl [(mm, .inr (16, m7_1)), (uob, .inl (ct 1, 60000, .inl j24_cuob)), (utape, .inl (ct 1, 2000, .inl g_utape))] H → va_D A [(mm, .inr (16, m7_1)), (uob, .inl (ct 1, 60000, .inl j24_cuob)), (utape, .inl (ct 1, 2000, .inl g_utape))] → va_S A s.heap H locs → W p l e ({ frames := 1, cells := 0, slots := 0, locals := 20 }) s m [.ref mm].toArray below meth c H locs 0 0 Q (F0 m 54 ls [.int j54_s0, .int z35_1, .ref uob]) := by
              intro j54_s0 H locs ls  hl hP hD hS
              refine lv_aload_n hx hb dX16_raw_54 rfl (lv_at hl 0 rfl) ?_
              refine va_get (D := D) (ci := 16) (v := .ref utape) (C := RX16) (T := TX16) (N := 78) hx hb (htX16 hn) (fun _ h => h) hown hK hP 0 rfl rfl 0 (by decide) (hn.get mw_1539 rfl) (fun _ h9 => h9) (SB.get hsm7_1 (by decide) hf_mm_0) dX16_raw_55 ?_
              refine lv_iload_n hx hb dX16_raw_58 rfl (lv_at hl 2 rfl) ?_
              have hi59_1 : vp_in j24_l2 2000 := (in_rg r26_3 (by decide))
              refine va_iald hx hb hK hP 2 1 rfl rfl hi59_1 dX16_raw_59 ?_
              refine lv_topi (fun z59_2 ez59_2 => ?_)
              have r59_3 : rg z59_2 0 255 := Rg_at h_g_utape hi59_1 ez59_2
              refine lv_bipush (v := 8) hx hb dX16_raw_60 (by decide) ?_
              refine lv_iload_n hx hb dX16_raw_62 rfl (lv_at hl 2 rfl) ?_
              refine lv_iconst (v := 4) hx hb dX16_raw_63 (by decide) ?_
              refine lv_irem hx hb dX16_raw_64 (by decide) ?_
              refine lv_topi (fun z64_1 ez64_1 => ?_)
              have r64_2 : rg z64_1 0 3 := rg_rem (k := 4) ez64_1 (by decide) r26_3 (by decide)
              refine lv_imul hx hb dX16_raw_65 ?_
              refine lv_topi (fun z65_1 ez65_1 => ?_)
              have r65_2 : rg z65_1 0 24 := rg_mul ez65_1 (show rg (8 : Int32) 8 8 from rg_l (by decide)) r64_2 (by decide)
              refine lv_ishl hx hb dX16_raw_66 ?_
              refine lv_topi (fun z66_1 ez66_1 => ?_)
              refine lv_ior hx hb dX16_raw_67 ?_
              refine lv_topi (fun z67_1 ez67_1 => ?_)
              have hi68_1 : vp_in z35_1 60000 := (in_rg r35_2 (by decide))
              refine va_iast hx hb hK hP hD hS 1 1 rfl rfl hi68_1 dX16_raw_68 (fun H locs hP hD hS => ?_)
              have hP : va_P D vwCl [(mm, .inr (16, m7_1)), (uob, .inl (ct 1, 60000, .inl (upd j24_cuob z35_1.toNatClampNeg z67_1))), (utape, .inl (ct 1, 2000, .inl g_utape))] _ := hP
              have hD : va_D A [(mm, .inr (16, m7_1)), (uob, .inl (ct 1, 60000, .inl (upd j24_cuob z35_1.toNatClampNeg z67_1))), (utape, .inl (ct 1, 2000, .inl g_utape))] := hD
              obtain ⟨f68_2, ef68_2⟩ : ∃ z, z = (upd j24_cuob z35_1.toNatClampNeg z67_1) := ⟨_, rfl⟩
              rw [← ef68_2] at hP hD
              obtain ⟨x69_1, ex69_1⟩ : ∃ z : Int32, z = j24_l2 + 1 := ⟨_, rfl⟩
              have r69_2 : rg x69_1 1 2000 := rg_add ex69_1 r26_3 (show rg (1 : Int32) 1 1 from rg_l (by decide)) (by decide)
              refine lv_iinc (v := x69_1) (lv' := [(2, .int x69_1), (0, .ref mm), (1, .int x_mm_1)]) hx hb dX16_raw_69 hl (k := 2) rfl (by rw [ex69_1]; rfl) (by decide) rfl (fun ls hl => ?_)
              refine lv_goto (tgt := 24) hx hb dX16_raw_72 (by decide) ?_
              exact ih24 x69_1 f68_2 H locs ls (rg_w r69_2 (by decide)) (show ((2147483647 : Int) - x69_1.toInt).toNat < n24 by have q0 := r26_3.2; have q1 := (eq_add ex69_1 r26_3 (show rg (1 : Int32) 1 1 from rg_l (by decide)) (by decide)); have q2 := (show (1 : Int32).toInt = 1 from by decide); have q3 := hms24; omega) (lv_sub hl [1, 2, 0] rfl) hP hD hS
            refine lv_if_ne (tgt := 46) hx hb dX16_raw_39 (by decide) (fun c39_1 => ?_) (fun c39_1 => ?_)
            · have t39_2 := FF.mk (i_ne c39_1)
              have r39_3 : rg z38_1 1 3 := rg_neAl t39_2 r38_2 (show rg (0 : Int32) 0 0 from rg_l (by decide)) (by decide)
              refine lv_aload_n hx hb dX16_raw_46 rfl (lv_at hl 0 rfl) ?_
              refine va_get (D := D) (ci := 16) (v := .ref uob) (C := RX16) (T := TX16) (N := 78) hx hb (htX16 hn) (fun _ h => h) hown hK hP 0 rfl rfl 69 (by decide) (hn.get mw_1608 rfl) (fun _ h9 => h9) (SB.get hsm7_1 (by decide) hf_mm_69) dX16_raw_47 ?_
              refine lv_iload_n hx hb dX16_raw_50 rfl (lv_at hl 2 rfl) ?_
              refine lv_iconst (v := 4) hx hb dX16_raw_51 (by decide) ?_
              refine lv_idiv hx hb dX16_raw_52 (by decide) ?_
              refine lv_topi (fun z52_1 ez52_1 => ?_)
              have r52_2 : rg z52_1 0 499 := rg_div (k := 4) ez52_1 (by decide) r26_3 (by decide)
              have hi53_1 : vp_in z52_1 60000 := (in_rg r52_2 (by decide))
              refine va_iald hx hb hK hP 1 1 rfl rfl hi53_1 dX16_raw_53 ?_
              refine lv_topi (fun z53_2 ez53_2 => ?_)
              exact b54 z53_2 H locs ls  (lv_sub hl [0, 1, 2] rfl) hP hD hS
            · have t39_2 := FF.mk (i_eq c39_1)
              have r39_3 : rg z38_1 0 0 := rg_eqA t39_2 r38_2 (show rg (0 : Int32) 0 0 from rg_l (by decide)) (by decide)
              refine lv_iconst (v := 0) hx hb dX16_raw_42 (by decide) ?_
              refine lv_goto (tgt := 54) hx hb dX16_raw_43 (by decide) ?_
              exact b54 (0 : Int32) H locs ls  (lv_sub hl [0, 1, 2] rfl) hP hD hS
      exact b24 _ (0 : Int32) g_uob H locs ls (rg_w (show rg (0 : Int32) 0 0 from rg_l (by decide)) (by decide)) (Nat.lt_succ_self _) (lv_sub hl [2, 1, 0] rfl) hP hD hS
    · have t17_2 := FF.mk (i_ne c17_1)
      have r17_3 : rg z16_1 1 3 := rg_neAl t17_2 r16_2 (show rg (0 : Int32) 0 0 from rg_l (by decide)) (by decide)
      refine lv_iconst (v := (-1)) hx hb dX16_raw_20 (by decide) ?_
      exact endq_i hQ hx hb hr hlocks dX16_raw_21 rfl (m7_1, x_mm_70, x_mm_71, g_uob) ⟨(rg_w (show rg ((-1) : Int32) (-1) (-1) from rg_l (by decide)) (by decide)), hsm7_1, hfm7_1_1, h_x_mm_70, hfm7_1_70, h_x_mm_71, hfm7_1_71⟩ hP hD hS [0, 1, 2] rfl (by decide) rfl (Nat.le_of_ble_eq_true rfl) (Nat.le_of_ble_eq_true rfl)
