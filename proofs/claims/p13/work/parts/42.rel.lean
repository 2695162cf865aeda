set_option maxHeartbeats 2000000 in
theorem c_X16_readRelation (l : Launch) (hst : l.stackTraces = false) (D : va_G) (ct : Nat → ClassId) (MC : Nat) (MS : Nat) (mm : Nat) (fs_mm : List Value) (utape : Nat) (x_mm_5 : Int32) (x_mm_6 : Int32) (x_mm_7 : Int32) (x_mm_8 : Int32) (x_mm_10 : Int32) (x_mm_11 : Int32) (ugu : Nat) (g_utape : Nat → Int32) (g_ugu : Nat → Int32) (hlen_mm : fs_mm.length = 78) (hf_mm_0 : fs_mm[0]? = some (.ref utape)) (h_x_mm_5 : rg x_mm_5 0 2) (hf_mm_5 : fs_mm[5]? = some (.int x_mm_5)) (h_x_mm_6 : rg x_mm_6 0 2000) (hf_mm_6 : fs_mm[6]? = some (.int x_mm_6)) (h_x_mm_7 : rg x_mm_7 0 2001) (hf_mm_7 : fs_mm[7]? = some (.int x_mm_7)) (h_x_mm_8 : rg x_mm_8 0 2000) (hf_mm_8 : fs_mm[8]? = some (.int x_mm_8)) (h_x_mm_10 : rg x_mm_10 0 2) (hf_mm_10 : fs_mm[10]? = some (.int x_mm_10)) (h_x_mm_11 : rg x_mm_11 (-1) 6) (hf_mm_11 : fs_mm[11]? = some (.int x_mm_11)) (hf_mm_12 : fs_mm[12]? = some (.ref ugu)) (h_g_utape : Rg g_utape 2000 0 255) (h_g_ugu : Rg g_ugu 7 0 6) (hq0 : x_mm_7.toInt ≤ 2000) (hq1 : x_mm_7.toInt ≤ x_mm_8.toInt) (hq2 : x_mm_6.toInt ≤ x_mm_8.toInt) (hq3 : x_mm_5.toInt ≠ 0 → x_mm_6.toInt + 1 ≤ x_mm_7.toInt) (hq4 : 17 * (x_mm_8.toInt - x_mm_6.toInt) + 120 ≤ ((MC : Nat) : Int)) (hq5 : 100 * (x_mm_8.toInt - x_mm_6.toInt) + 700 ≤ ((MS : Nat) : Int)) : KT (V := Nat) (S := List Value × Int32 × Int32 × Int32 × Int32 × Int32 × Int32 × (Nat → Int32) × FT × Nat × Nat) (SX := List Value × Int32 × Int32 × Int32 × Int32 × Int32 × (Nat → Int32)) l yX16_readRelation cX16_readRelation 5 (some (.object "FilterForgeModel$Filter")) 171 8122 D ct [.ref mm] [(mm, .inr (16, fs_mm)), (utape, .inl (ct 1, 2000, .inl g_utape)), (ugu, .inl (ct 1, 7, .inl g_ugu))] MC MS (fun r : Nat => some (.ref r)) (fun (r : Nat) (u : List Value × Int32 × Int32 × Int32 × Int32 × Int32 × Int32 × (Nat → Int32) × FT × Nat × Nat) => match u with | (fs2_mm, y_mm_5, y_mm_6, y_mm_7, y_mm_10, y_mm_11, y_mm_13, k_ugu, T, kc, kn) => SB fs_mm fs2_mm [5, 6, 7, 10, 11, 13] ∧ rg y_mm_5 0 2 ∧ fs2_mm[5]? = some (.int y_mm_5) ∧ rg y_mm_6 0 2000 ∧ fs2_mm[6]? = some (.int y_mm_6) ∧ rg y_mm_7 0 2001 ∧ fs2_mm[7]? = some (.int y_mm_7) ∧ rg y_mm_10 0 2 ∧ fs2_mm[10]? = some (.int y_mm_10) ∧ rg y_mm_11 (-1) 6 ∧ fs2_mm[11]? = some (.int y_mm_11) ∧ rg y_mm_13 0 6 ∧ fs2_mm[13]? = some (.int y_mm_13) ∧ Rg k_ugu 7 0 6 ∧ r = T.root ∧ T.ok ∧ (y_mm_7.toInt ≤ x_mm_8.toInt) ∧ (y_mm_6.toInt ≤ x_mm_8.toInt) ∧ (y_mm_5.toInt ≠ 0 → y_mm_6.toInt + 1 ≤ y_mm_7.toInt) ∧ (x_mm_7.toInt ≤ y_mm_6.toInt) ∧ (1 ≤ y_mm_6.toInt - x_mm_6.toInt) ∧ (((kc : Nat) : Int) ≤ 10 * (y_mm_6.toInt - x_mm_6.toInt) + 0) ∧ (((kn : Nat) : Int) ≤ 60 * (y_mm_6.toInt - x_mm_6.toInt) + 0) ∧ (((T.sz : Nat) : Int) ≤ 10 * (y_mm_6.toInt - x_mm_6.toInt) + 0) ∧ (4 * ((T.c4 : Nat) : Int) ≤ (y_mm_6.toInt - x_mm_6.toInt)) ∧ (((T.dep : Nat) : Int) ≤ 83) ∧ (y_mm_10.toInt = x_mm_10.toInt)) (fun (u : List Value × Int32 × Int32 × Int32 × Int32 × Int32 × Int32 × (Nat → Int32) × FT × Nat × Nat) => match u with | (fs2_mm, y_mm_5, y_mm_6, y_mm_7, y_mm_10, y_mm_11, y_mm_13, k_ugu, T, kc, kn) => [(mm, .inr (16, fs2_mm)), (utape, .inl (ct 1, 2000, .inl g_utape)), (ugu, .inl (ct 1, 7, .inl k_ugu))] ++ (T.cells Z0)) (fun (u : List Value × Int32 × Int32 × Int32 × Int32 × Int32 × Int32 × (Nat → Int32) × FT × Nat × Nat) => match u with | (fs2_mm, y_mm_5, y_mm_6, y_mm_7, y_mm_10, y_mm_11, y_mm_13, k_ugu, T, kc, kn) => kc) (fun (u : List Value × Int32 × Int32 × Int32 × Int32 × Int32 × Int32 × (Nat → Int32) × FT × Nat × Nat) => match u with | (fs2_mm, y_mm_5, y_mm_6, y_mm_7, y_mm_10, y_mm_11, y_mm_13, k_ugu, T, kc, kn) => kn) 15 RX15 peW (fun (u : List Value × Int32 × Int32 × Int32 × Int32 × Int32 × (Nat → Int32)) => match u with | (fs2_mm, y_mm_6, y_mm_7, y_mm_10, y_mm_11, y_mm_13, k_ugu) => SB fs_mm fs2_mm [5, 6, 7, 10, 11, 13] ∧ rg y_mm_6 0 2000 ∧ fs2_mm[6]? = some (.int y_mm_6) ∧ rg y_mm_7 0 2002 ∧ fs2_mm[7]? = some (.int y_mm_7) ∧ rg y_mm_10 0 2 ∧ fs2_mm[10]? = some (.int y_mm_10) ∧ rg y_mm_11 (-1) 6 ∧ fs2_mm[11]? = some (.int y_mm_11) ∧ rg y_mm_13 0 6 ∧ fs2_mm[13]? = some (.int y_mm_13) ∧ Rg k_ugu 7 0 6) (fun (u : List Value × Int32 × Int32 × Int32 × Int32 × Int32 × (Nat → Int32)) => match u with | (fs2_mm, y_mm_6, y_mm_7, y_mm_10, y_mm_11, y_mm_13, k_ugu) => [(mm, .inr (16, fs2_mm)), (utape, .inl (ct 1, 2000, .inl g_utape)), (ugu, .inl (ct 1, 7, .inl k_ugu))]) := by
  refine KT_of (by decide) (Nat.le_of_ble_eq_true rfl) (fun p e s m below meth c A Q C0 htab hA H locs hS hP hD hQ ls hl => ?_)
  obtain ⟨hx, hb, hr, hown, hin, hml, hlocks, hn, hK, hZ, hSK⟩ := C0
  have hl : lv_has ls 5 [(0, .ref mm)] := hl
  have hP : va_P D vwCl ([(mm, .inr (16, fs_mm)), (utape, .inl (ct 1, 2000, .inl g_utape)), (ugu, .inl (ct 1, 7, .inl g_ugu))] ++ (([] : va_W))) H := by rw [List.append_nil]; exact hP
  have hD : va_D A ([(mm, .inr (16, fs_mm)), (utape, .inl (ct 1, 2000, .inl g_utape)), (ugu, .inl (ct 1, 7, .inl g_ugu))] ++ (([] : va_W))) := by rw [List.append_nil]; exact hD
  replace hq0 := FF.mk hq0
  replace hq1 := FF.mk hq1
  replace hq2 := FF.mk hq2
  replace hq3 := FF.mk hq3
  replace hq4 := FF.mk hq4
  replace hq5 := FF.mk hq5
  refine lv_aload_n hx hb dX16_readRelation_0 rfl (lv_at hl 0 rfl) ?_
  refine lv_iconst (v := 0) hx hb dX16_readRelation_1 (by decide) ?_
  refine va_put (D := D) (ci := 16) (v := .int 0) (ty := .int) (C := RX16) (T := TX16) (N := 78) hx hb (htX16 hn) (fun _ h => h) tyX16 tyX16_ok nmX16 hown hK hP hD hS 0 rfl rfl 13 (by decide) (hn.get mw_1552 rfl) (fun _ h9 => h9) rfl (by decide +kernel) rfl rfl (by rw [hlen_mm]; decide) dX16_readRelation_2 (fun H locs hP hD hS => ?_)
  have hP : va_P D vwCl ([(mm, .inr (16, (fs_mm.set 13 (.int 0)))), (utape, .inl (ct 1, 2000, .inl g_utape)), (ugu, .inl (ct 1, 7, .inl g_ugu))] ++ (([] : va_W))) _ := hP
  have hD : va_D A ([(mm, .inr (16, (fs_mm.set 13 (.int 0)))), (utape, .inl (ct 1, 2000, .inl g_utape)), (ugu, .inl (ct 1, 7, .inl g_ugu))] ++ (([] : va_W))) := hD
  obtain ⟨m2_1, em2_1⟩ : ∃ z, z = (fs_mm.set 13 (.int 0)) := ⟨_, rfl⟩
  rw [← em2_1] at hP hD
  have hsm2_1 : SB fs_mm m2_1 [5, 6, 7, 10, 11, 13] := by rw [em2_1]; exact SB.set (SB.rf _ _) (by decide)
  have hfm2_1_5 : m2_1[5]? = some (.int x_mm_5) := by rw [em2_1]; exact fs_ne (by decide) hf_mm_5
  have hfm2_1_6 : m2_1[6]? = some (.int x_mm_6) := by rw [em2_1]; exact fs_ne (by decide) hf_mm_6
  have hfm2_1_7 : m2_1[7]? = some (.int x_mm_7) := by rw [em2_1]; exact fs_ne (by decide) hf_mm_7
  have hfm2_1_10 : m2_1[10]? = some (.int x_mm_10) := by rw [em2_1]; exact fs_ne (by decide) hf_mm_10
  have hfm2_1_11 : m2_1[11]? = some (.int x_mm_11) := by rw [em2_1]; exact fs_ne (by decide) hf_mm_11
  have hfm2_1_13 : m2_1[13]? = some (.int 0) := by rw [em2_1]; exact fs_eq (by rw [hlen_mm]; decide)
  have hP : va_P D vwCl ([(mm, .inr (16, m2_1)), (utape, .inl (ct 1, 2000, .inl g_utape)), (ugu, .inl (ct 1, 7, .inl g_ugu))] ++ (([] : va_W))) _ := hP
  have hD : va_D A ([(mm, .inr (16, m2_1)), (utape, .inl (ct 1, 2000, .inl g_utape)), (ugu, .inl (ct 1, 7, .inl g_ugu))] ++ (([] : va_W))) := hD
  refine lv_aload_n hx hb dX16_readRelation_5 rfl (lv_at hl 0 rfl) ?_
  obtain ⟨m6_1, gm6_1⟩ : ∃ m9 : Nat, m9 + 0 = MC := ⟨MC - 0, Nat.sub_add_cancel (Nat.zero_le MC)⟩
  have em6_1 := FF.mk gm6_1
  obtain ⟨m6_2, gm6_2⟩ : ∃ m9 : Nat, m9 + 0 = MS := ⟨MS - 0, Nat.sub_add_cancel (Nat.zero_le MS)⟩
  have em6_2 := FF.mk gm6_2
  refine gt_q (pl := (([] : va_W))) (wr := []) [0, 1, 2] [] (rt_V (As := []) (rest := []) (c_X16_readSum_g l hst D ct m6_1 m6_2 mm m2_1 utape x_mm_5 x_mm_6 x_mm_7 x_mm_8 x_mm_10 x_mm_11 ugu (0 : Int32) g_utape g_ugu (hsm2_1.1.trans hlen_mm) (SB.get hsm2_1 (by decide) hf_mm_0) h_x_mm_5 hfm2_1_5 h_x_mm_6 hfm2_1_6 h_x_mm_7 hfm2_1_7 h_x_mm_8 (SB.get hsm2_1 (by decide) hf_mm_8) h_x_mm_10 hfm2_1_10 h_x_mm_11 hfm2_1_11 (SB.get hsm2_1 (by decide) hf_mm_12) (rg_w (show rg (0 : Int32) 0 0 from rg_l (by decide)) (by decide)) hfm2_1_13 h_g_utape h_g_ugu (show x_mm_7.toInt ≤ 2000 by have q0 := FF.out hq0; omega) (show x_mm_7.toInt ≤ x_mm_8.toInt by have q0 := FF.out hq1; omega) (show x_mm_6.toInt ≤ x_mm_8.toInt by have q0 := FF.out hq2; omega) (show x_mm_5.toInt ≠ 0 → x_mm_6.toInt + 1 ≤ x_mm_7.toInt by have q0 := h_x_mm_5.1; have q1 := FF.out hq3; omega) (show (x_mm_8.toInt - x_mm_6.toInt) + 80 ≤ ((m6_1 : Nat) : Int) by have q0 := FF.out hq2; have q1 := FF.out hq4; have q2 := FF.out em6_1; omega) (show 5 * (x_mm_8.toInt - x_mm_6.toInt) + 500 ≤ ((m6_2 : Nat) : Int) by have q0 := FF.out hq2; have q1 := FF.out hq5; have q2 := FF.out em6_2; omega) (show ((0 : Nat) : Int) ≤ 9 * x_mm_10.toInt by have q0 := h_x_mm_10.1; omega) (GU.zero (by decide)) _) (cb_of (n := 0) hn mw_2031 mw_13 mw_2028 mhX16_readSum ⟨(Nat.le_of_ble_eq_true rfl), (Nat.le_of_ble_eq_true rfl)⟩) hx hb hml hown hn hK hSK hZ hS mw_2030 mw_s192 (ci := 16) (q0 := 0) rfl rfl rfl rfl hl.1 (Nat.le_of_ble_eq_true rfl) dX16_readRelation_6 ⟨(Nat.le_of_eq ((Nat.add_comm _ _).trans gm6_1)), (Nat.le_of_eq ((Nat.add_comm _ _).trans gm6_2))⟩) hP hD hS hA rfl rfl (by decide) (by decide) (by decide) (fun xq6_6 ux6_7 xfs6_8 H locs hpx6_9 hpexfs6_8 hP hD hS => ?_) (fun r6_3 u6_4 H locs hp6_5 hP hD hS => ?_)
  · obtain ⟨fs2_mm6_10, y_mm_66_11, y_mm_76_12, y_mm_106_13, y_mm_116_14, y_mm_136_15, k_ugu6_16⟩ := ux6_7
    obtain ⟨hp6_17, hp6_18, hp6_19, hp6_20, hp6_21, hp6_22, hp6_23, hp6_24, hp6_25, hp6_26, hp6_27, hp6_28⟩ := hpx6_9
    have hs6_29 : SB fs_mm fs2_mm6_10 [5, 6, 7, 10, 11, 13] := SB.trans hsm2_1 hp6_17 (by decide)
    have hp6_18 : rg y_mm_66_11 0 2000 := hp6_18
    have hp6_20 : rg y_mm_76_12 0 2002 := hp6_20
    have hp6_22 : rg y_mm_106_13 0 2 := hp6_22
    have hp6_24 : rg y_mm_116_14 (-1) 6 := hp6_24
    have hp6_26 : rg y_mm_136_15 0 6 := hp6_26
    have hP : va_P D vwCl [(mm, .inr (16, fs2_mm6_10)), (utape, .inl (ct 1, 2000, .inl g_utape)), (ugu, .inl (ct 1, 7, .inl k_ugu6_16)), (xq6_6, .inr (15, xfs6_8))] _ := hP
    have hD : va_D A [(mm, .inr (16, fs2_mm6_10)), (utape, .inl (ct 1, 2000, .inl g_utape)), (ugu, .inl (ct 1, 7, .inl k_ugu6_16)), (xq6_6, .inr (15, xfs6_8))] := hD
    refine vx_widen (k := MC) (n := MS) (Nat.le_of_eq ((Nat.add_comm _ _).trans gm6_1)) (Nat.le_of_eq ((Nat.add_comm _ _).trans gm6_2)) ?_
    exact xo hQ htab hlocks hK rfl hP hD hS (fs2_mm6_10, y_mm_66_11, y_mm_76_12, y_mm_106_13, y_mm_116_14, y_mm_136_15, k_ugu6_16) (fs := xfs6_8) ⟨hs6_29, hp6_18, hp6_19, hp6_20, hp6_21, hp6_22, hp6_23, hp6_24, hp6_25, hp6_26, hp6_27, hp6_28⟩ hpexfs6_8 [0, 1, 2, 3] (by decide) rfl (kq := 3) rfl (Nat.le_refl _) (Nat.le_refl _)
  obtain ⟨fs2_mm6_310, y_mm_56_311, y_mm_66_312, y_mm_76_313, y_mm_106_314, y_mm_116_315, y_mm_136_316, k_ugu6_317, T6_318, kc6_319, kn6_320⟩ := u6_4
  obtain ⟨hp6_321, hp6_322, hp6_323, hp6_324, hp6_325, hp6_326, hp6_327, hp6_328, hp6_329, hp6_330, hp6_331, hp6_332, hp6_333, hp6_334, hp6_335, hp6_336, hp6_337, hp6_338, hp6_339, hp6_340, hp6_341, hp6_342, hp6_343, hp6_344, hp6_345, hp6_346, hp6_347, hp6_348, hp6_349, hp6_350⟩ := hp6_5
  have hs6_351 : SB fs_mm fs2_mm6_310 [5, 6, 7, 10, 11, 13] := SB.trans hsm2_1 hp6_321 (by decide)
  have hp6_322 : rg y_mm_56_311 0 2 := hp6_322
  have hp6_324 : rg y_mm_66_312 0 2000 := hp6_324
  have hp6_326 : rg y_mm_76_313 0 2001 := hp6_326
  have hp6_328 : rg y_mm_106_314 0 2 := hp6_328
  have hp6_330 : rg y_mm_116_315 (-1) 6 := hp6_330
  have hp6_332 : rg y_mm_136_316 0 6 := hp6_332
  subst hp6_335
  replace hp6_337 : FF (y_mm_76_313.toInt ≤ x_mm_8.toInt) := hp6_337
  replace hp6_338 : FF (y_mm_66_312.toInt ≤ x_mm_8.toInt) := hp6_338
  replace hp6_339 : FF (y_mm_56_311.toInt ≠ 0 → y_mm_66_312.toInt + 1 ≤ y_mm_76_313.toInt) := hp6_339
  replace hp6_340 : FF (x_mm_7.toInt ≤ y_mm_66_312.toInt) := hp6_340
  replace hp6_341 : FF (1 ≤ y_mm_66_312.toInt - x_mm_6.toInt) := hp6_341
  replace hp6_342 : FF (((kc6_319 : Nat) : Int) ≤ (y_mm_66_312.toInt - x_mm_6.toInt)) := hp6_342
  replace hp6_343 : FF (((kn6_320 : Nat) : Int) ≤ 5 * (y_mm_66_312.toInt - x_mm_6.toInt)) := hp6_343
  replace hp6_344 : FF (((T6_318.sz : Nat) : Int) ≤ (y_mm_66_312.toInt - x_mm_6.toInt)) := hp6_344
  replace hp6_345 : FF (4 * ((T6_318.c4 : Nat) : Int) ≤ (y_mm_66_312.toInt - x_mm_6.toInt)) := hp6_345
  replace hp6_346 : FF (2 * (y_mm_136_316.toInt - (0 : Int32).toInt) ≤ (y_mm_66_312.toInt - x_mm_6.toInt)) := hp6_346
  replace hp6_347 : FF ((0 : Int32).toInt ≤ y_mm_136_316.toInt) := hp6_347
  replace hp6_348 : FF (((T6_318.dep : Nat) : Int) ≤ 83 - 27 * x_mm_10.toInt) := hp6_348
  replace hp6_349 : FF (y_mm_106_314.toInt = x_mm_10.toInt) := hp6_349
  have hp6_350 : GU k_ugu6_317 y_mm_136_316.toInt := hp6_350
  obtain ⟨c6_352, ec6_352⟩ : ∃ x9 : Nat, x9 = 0 + kc6_319 := ⟨_, rfl⟩
  have ec6_352 := FF.mk ec6_352
  have mc6_352 : FF (c6_352 ≤ MC) := FF.mk (Int.ofNat_le.mp (show ((c6_352 : Nat) : Int) ≤ ((MC : Nat) : Int) by have q0 := FF.out hq2; have q1 := FF.out hq4; have q2 := FF.out hp6_338; have q3 := FF.out hp6_342; have q4 := FF.out ec6_352; omega))
  obtain ⟨k6_353, ek6_353⟩ : ∃ x9 : Nat, x9 = 0 + kn6_320 := ⟨_, rfl⟩
  have ek6_353 := FF.mk ek6_353
  have mk6_353 : FF (k6_353 ≤ MS) := FF.mk (Int.ofNat_le.mp (show ((k6_353 : Nat) : Int) ≤ ((MS : Nat) : Int) by have q0 := FF.out hq2; have q1 := FF.out hq5; have q2 := FF.out hp6_338; have q3 := FF.out hp6_343; have q4 := FF.out ek6_353; omega))
  have hP : va_P D vwCl (([(mm, .inr (16, fs2_mm6_310)), (utape, .inl (ct 1, 2000, .inl g_utape)), (ugu, .inl (ct 1, 7, .inl k_ugu6_317))] ++ (T6_318.cells)) ++ (([] : va_W))) _ := hP
  have hD : va_D A (([(mm, .inr (16, fs2_mm6_310)), (utape, .inl (ct 1, 2000, .inl g_utape)), (ugu, .inl (ct 1, 7, .inl k_ugu6_317))] ++ (T6_318.cells)) ++ (([] : va_W))) := hD
  have hP := pool_in hP
  have hD := pool_inD hD
  obtain ⟨p6_354, ep6_354⟩ : ∃ p9 : va_W, p9 = (([] : va_W) ++ (T6_318.cells)) := ⟨_, rfl⟩
  rw [← ep6_354] at hP hD
  have hk6_355 : FF (0 ≤ ((T6_318.sz : Nat) : Int)) := Int.natCast_nonneg _
  have hk6_356 : FF (0 ≤ ((T6_318.dep : Nat) : Int)) := Int.natCast_nonneg _
  have hk6_357 : FF (0 ≤ ((T6_318.c4 : Nat) : Int)) := Int.natCast_nonneg _
  have hP : va_P D vwCl ([(mm, .inr (16, fs2_mm6_310)), (utape, .inl (ct 1, 2000, .inl g_utape)), (ugu, .inl (ct 1, 7, .inl k_ugu6_317))] ++ (p6_354)) _ := hP
  have hD : va_D A ([(mm, .inr (16, fs2_mm6_310)), (utape, .inl (ct 1, 2000, .inl g_utape)), (ugu, .inl (ct 1, 7, .inl k_ugu6_317))] ++ (p6_354)) := hD
  refine W.widen (k := c6_352) (n := k6_353) (Nat.le_of_eq (FF.out ec6_352).symm) (Nat.le_of_eq (FF.out ek6_353).symm) (W.eq (g2 := F0 m 9 ls [.ref T6_318.root]) rfl ?_)
  refine lv_astore_n (lv' := [(1, .ref T6_318.root), (0, .ref mm)]) hx hb dX16_readRelation_9 rfl hl (by decide) rfl (fun ls hl => ?_)
  refine lv_aload_n hx hb dX16_readRelation_10 rfl (lv_at hl 1 rfl) ?_
  refine va_ldcwS (own := RX16) (tx := "=") (index := 426) (q := (ct (100 + 46))) hx hb hown (hSK 46 (by decide)) dX16_readRelation_11 ?_
  refine gq_i (k1 := c6_352) (n1 := k6_353) (wr := [(ugu, .inl (ct 1, 7, .inl k_ugu6_317))]) [0, 1] [2] (rn_V (As := [.ref (ct (100 + 46))]) (rest := []) (c_X16_is l D ct mm 46 1 fs2_mm6_310 utape y_mm_56_311 y_mm_66_312 y_mm_76_313 g_utape ⟨by decide, rfl⟩ (hs6_351.1.trans hlen_mm) (SB.get hs6_351 (by decide) hf_mm_0) hp6_322 hp6_323 hp6_324 hp6_325 hp6_326 hp6_327 h_g_utape (show y_mm_76_313.toInt ≤ 2000 by have q0 := h_x_mm_8.2; have q1 := FF.out hp6_337; omega) (show y_mm_56_311.toInt ≠ 0 → y_mm_66_312.toInt + 1 ≤ y_mm_76_313.toInt by have q0 := hp6_322.1; have q1 := FF.out hp6_339; omega) _) (cb_of (n := 1) hn mw_1962 mw_13 mw_1959 mhX16_is ⟨(Nat.le_of_ble_eq_true rfl), (Nat.le_of_ble_eq_true rfl)⟩) hx hb hml hown hn hK hSK hZ hS mw_1961 mw_s186 (ci := 16) (q0 := 0) rfl rfl rfl rfl hl.1 (Nat.le_of_ble_eq_true rfl) dX16_readRelation_14 ⟨(FF.out mc6_352), (FF.out mk6_353)⟩) hP hD hS hA rfl rfl (by decide) (by decide) (by decide) (Nat.le_refl _) (Nat.le_refl _) (fun r14_1 u14_2 H locs hp14_3 hP hD hS => ?_)
  obtain ⟨hp14_4, hp14_5⟩ := hp14_3
  have hp14_4 : rg r14_1 0 1 := hp14_4
  replace hp14_5 : FF (r14_1.toInt = 1 → y_mm_56_311.toInt ≠ 0 ∧ y_mm_76_313.toInt - y_mm_66_312.toInt = ((1 : Nat) : Int)) := hp14_5
  have hP : va_P D vwCl ([(ugu, .inl (ct 1, 7, .inl k_ugu6_317)), (mm, .inr (16, fs2_mm6_310)), (utape, .inl (ct 1, 2000, .inl g_utape))] ++ (p6_354)) _ := hP
  have hD : va_D A ([(ugu, .inl (ct 1, 7, .inl k_ugu6_317)), (mm, .inr (16, fs2_mm6_310)), (utape, .inl (ct 1, 2000, .inl g_utape))] ++ (p6_354)) := hD
  have b97 : ∀ (j97_s0 : Int32) (H : Heap) (locs : List Loc) (ls : Array Slot), (rg j97_s0 (-1) 11) → (FF (j97_s0.toInt ≥ 0 → y_mm_56_311.toInt ≠ 0)) → lv_has ls 5 [(0, .ref mm), (1, .ref T6_318.root)] → va_P D vwCl ([(ugu, .inl (ct 1, 7, .inl k_ugu6_317)), (mm, .inr (16, fs2_mm6_310)), (utape, .inl (ct 1, 2000, .inl g_utape))] ++ ((T6_318.cells))) H → va_D A ([(ugu, .inl (ct 1, 7, .inl k_ugu6_317)), (mm, .inr (16, fs2_mm6_310)), (utape, .inl (ct 1, 2000, .inl g_utape))] ++ ((T6_318.cells))) → va_S A s.heap H locs → W p l e ({ frames := 171, cells := MC, slots := MS, locals := 8122 }) s m [.ref mm].toArray below meth c H locs c6_352 k6_353 Q (F0 m 97 ls [.int j97_s0]) := by
    intro j97_s0 H locs ls r97_1001 hi97_1002 hl hP hD hS
    refine lv_istore_n (lv' := [(2, .int j97_s0), (0, .ref mm), (1, .ref T6_318.root)]) hx hb dX16_readRelation_97 rfl hl (by decide) rfl (fun ls hl => ?_)
    refine lv_aload_n hx hb dX16_readRelation_98 rfl (lv_at hl 1 rfl) ?_
    refine lv_iload_n hx hb dX16_readRelation_99 rfl (lv_at hl 0 rfl) ?_
    have b108 : ∀ (j108_s0 : Int32) (H : Heap) (locs : List Loc) (ls : Array Slot), (rg j108_s0 0 1) → (FF (j108_s0.toInt = 1 → y_mm_56_311.toInt ≠ 0)) → lv_has ls 5 [(0, .ref mm), (1, .ref T6_318.root), (2, .int j97_s0)] → va_P D vwCl ([(ugu, .inl (ct 1, 7, .inl k_ugu6_317)), (mm, .inr (16, fs2_mm6_310)), (utape, .inl (ct 1, 2000, .inl g_utape))] ++ ((T6_318.cells))) H → va_D A ([(ugu, .inl (ct 1, 7, .inl k_ugu6_317)), (mm, .inr (16, fs2_mm6_310)), (utape, .inl (ct 1, 2000, .inl g_utape))] ++ ((T6_318.cells))) → va_S A s.heap H locs → W p l e ({ frames := 171, cells := MC, slots := MS, locals := 8122 }) s m [.ref mm].toArray below meth c H locs c6_352 k6_353 Q (F0 m 108 ls [.int j108_s0, .ref mm]) := by
      intro j108_s0 H locs ls r108_1001 hi108_1002 hl hP hD hS
      obtain ⟨c108_1, ec108_1⟩ : ∃ x9 : Nat, x9 = c6_352 + 1 := ⟨_, rfl⟩
      have ec108_1 := FF.mk ec108_1
      have mc108_1 : FF (c108_1 ≤ MC) := FF.mk (Int.ofNat_le.mp (show ((c108_1 : Nat) : Int) ≤ ((MC : Nat) : Int) by have q0 := FF.out hq2; have q1 := FF.out hq4; have q2 := FF.out hp6_338; have q3 := FF.out hp6_342; have q4 := FF.out ec6_352; have q5 := FF.out ec108_1; omega))
      obtain ⟨k108_2, ek108_2⟩ : ∃ x9 : Nat, x9 = k6_353 + 7 := ⟨_, rfl⟩
      have ek108_2 := FF.mk ek108_2
      have mk108_2 : FF (k108_2 ≤ MS) := FF.mk (Int.ofNat_le.mp (show ((k108_2 : Nat) : Int) ≤ ((MS : Nat) : Int) by have q0 := FF.out hq2; have q1 := FF.out hq5; have q2 := FF.out hp6_338; have q3 := FF.out hp6_343; have q4 := FF.out ek6_353; have q5 := FF.out ek108_2; omega))
      refine gt_q (pl := ((T6_318.cells))) (wr := [(ugu, .inl (ct 1, 7, .inl k_ugu6_317)), (utape, .inl (ct 1, 2000, .inl g_utape))]) [1] [0, 2] (rt_V (As := [.int j108_s0]) (rest := []) (c_X16_must l hst D ct mm j108_s0 fs2_mm6_310 y_mm_66_312 r108_1001 (hs6_351.1.trans hlen_mm) hp6_324 hp6_325 _) (cb_of (n := 1) hn mw_1927 mw_13 mw_1924 mhX16_must ⟨(Nat.le_of_ble_eq_true rfl), (Nat.le_of_ble_eq_true rfl)⟩) hx hb hml hown hn hK hSK hZ hS mw_1926 mw_s182 (ci := 16) (q0 := 0) rfl rfl rfl rfl hl.1 (Nat.le_of_ble_eq_true rfl) dX16_readRelation_108 ⟨(Nat.le_trans (Nat.le_of_eq (FF.out ec108_1).symm) (FF.out mc108_1)), (Nat.le_trans (Nat.le_of_eq (FF.out ek108_2).symm) (FF.out mk108_2))⟩) hP hD hS hA rfl rfl (by decide) (by decide) (by decide) (fun xq108_6 ux108_7 xfs108_8 H locs hpx108_9 hpexfs108_8 hP hD hS => ?_) (fun r108_3 u108_4 H locs hp108_5 hP hD hS => ?_)
      · have hP : va_P D vwCl [(ugu, .inl (ct 1, 7, .inl k_ugu6_317)), (utape, .inl (ct 1, 2000, .inl g_utape)), (mm, .inr (16, fs2_mm6_310)), (xq108_6, .inr (15, xfs108_8))] _ := hP
        have hD : va_D A [(ugu, .inl (ct 1, 7, .inl k_ugu6_317)), (utape, .inl (ct 1, 2000, .inl g_utape)), (mm, .inr (16, fs2_mm6_310)), (xq108_6, .inr (15, xfs108_8))] := hD
        refine vx_widen (k := c108_1) (n := k108_2) (Nat.le_of_eq (FF.out ec108_1).symm) (Nat.le_of_eq (FF.out ek108_2).symm) ?_
        exact xo hQ htab hlocks hK rfl hP hD hS (fs2_mm6_310, y_mm_66_312, y_mm_76_313, y_mm_106_314, y_mm_116_315, y_mm_136_316, k_ugu6_317) (fs := xfs108_8) ⟨hs6_351, hp6_324, hp6_325, (rg_w hp6_326 (by decide)), hp6_327, hp6_328, hp6_329, hp6_330, hp6_331, hp6_332, hp6_333, hp6_334⟩ hpexfs108_8 [2, 1, 0, 3] (by decide) rfl (kq := 3) rfl (FF.out mc108_1) (FF.out mk108_2)
      have hp108_310 := hp108_5
      replace hp108_310 : FF (j108_s0.toInt = 1) := hp108_310
      have hP : va_P D vwCl ([(ugu, .inl (ct 1, 7, .inl k_ugu6_317)), (utape, .inl (ct 1, 2000, .inl g_utape)), (mm, .inr (16, fs2_mm6_310))] ++ ((T6_318.cells))) _ := hP
      have hD : va_D A ([(ugu, .inl (ct 1, 7, .inl k_ugu6_317)), (utape, .inl (ct 1, 2000, .inl g_utape)), (mm, .inr (16, fs2_mm6_310))] ++ ((T6_318.cells))) := hD
      refine W.widen (k := c6_352) (n := k6_353) (Nat.le_refl _) (Nat.le_refl _) (W.eq (g2 := F0 m 111 ls []) rfl ?_)
      refine lv_aload_n hx hb dX16_readRelation_111 rfl (lv_at hl 0 rfl) ?_
      obtain ⟨c112_1, ec112_1⟩ : ∃ x9 : Nat, x9 = c6_352 + 1 := ⟨_, rfl⟩
      have ec112_1 := FF.mk ec112_1
      have mc112_1 : FF (c112_1 ≤ MC) := FF.mk (Int.ofNat_le.mp (show ((c112_1 : Nat) : Int) ≤ ((MC : Nat) : Int) by have q0 := FF.out hq2; have q1 := FF.out hq4; have q2 := FF.out hp6_338; have q3 := FF.out hp6_342; have q4 := FF.out ec6_352; have q5 := FF.out ec112_1; omega))
      obtain ⟨k112_2, ek112_2⟩ : ∃ x9 : Nat, x9 = k6_353 + 7 := ⟨_, rfl⟩
      have ek112_2 := FF.mk ek112_2
      have mk112_2 : FF (k112_2 ≤ MS) := FF.mk (Int.ofNat_le.mp (show ((k112_2 : Nat) : Int) ≤ ((MS : Nat) : Int) by have q0 := FF.out hq2; have q1 := FF.out hq5; have q2 := FF.out hp6_338; have q3 := FF.out hp6_343; have q4 := FF.out ek6_353; have q5 := FF.out ek112_2; omega))
      refine gt_q (pl := ((T6_318.cells))) (wr := [(ugu, .inl (ct 1, 7, .inl k_ugu6_317))]) [2, 1] [0] (rt_V (As := []) (rest := []) (c_X16_next l hst D ct mm fs2_mm6_310 utape y_mm_76_313 x_mm_8 g_utape (hs6_351.1.trans hlen_mm) (SB.get hs6_351 (by decide) hf_mm_0) hp6_326 hp6_327 h_x_mm_8 (SB.get hs6_351 (by decide) hf_mm_8) h_g_utape (show y_mm_76_313.toInt ≤ x_mm_8.toInt by have q0 := FF.out hp6_337; omega) _) (cb_of (n := 0) hn mw_1912 mw_13 mw_1909 mhX16_next ⟨(Nat.le_of_ble_eq_true rfl), (Nat.le_of_ble_eq_true rfl)⟩) hx hb hml hown hn hK hSK hZ hS mw_1911 mw_s179 (ci := 16) (q0 := 0) rfl rfl rfl rfl hl.1 (Nat.le_of_ble_eq_true rfl) dX16_readRelation_112 ⟨(Nat.le_trans (Nat.le_of_eq (FF.out ec112_1).symm) (FF.out mc112_1)), (Nat.le_trans (Nat.le_of_eq (FF.out ek112_2).symm) (FF.out mk112_2))⟩) hP hD hS hA rfl rfl (by decide) (by decide) (by decide) (fun xq112_6 ux112_7 xfs112_8 H locs hpx112_9 hpexfs112_8 hP hD hS => ?_) (fun r112_3 u112_4 H locs hp112_5 hP hD hS => ?_)
      · obtain ⟨fs2_mm112_10, y_mm_6112_11⟩ := ux112_7
        obtain ⟨hp112_12, hp112_13, hp112_14, hp112_15⟩ := hpx112_9
        have hs112_16 : SB fs_mm fs2_mm112_10 [5, 6, 7, 10, 11, 13] := SB.trans hs6_351 hp112_12 (by decide)
        have hf112_17 : fs2_mm112_10[10]? = some (.int y_mm_106_314) := SB.get hp112_12 (by decide) hp6_329
        have hf112_18 : fs2_mm112_10[11]? = some (.int y_mm_116_315) := SB.get hp112_12 (by decide) hp6_331
        have hf112_19 : fs2_mm112_10[13]? = some (.int y_mm_136_316) := SB.get hp112_12 (by decide) hp6_333
        have hp112_13 : rg y_mm_6112_11 0 2000 := hp112_13
        have hP : va_P D vwCl [(ugu, .inl (ct 1, 7, .inl k_ugu6_317)), (mm, .inr (16, fs2_mm112_10)), (utape, .inl (ct 1, 2000, .inl g_utape)), (xq112_6, .inr (15, xfs112_8))] _ := hP
        have hD : va_D A [(ugu, .inl (ct 1, 7, .inl k_ugu6_317)), (mm, .inr (16, fs2_mm112_10)), (utape, .inl (ct 1, 2000, .inl g_utape)), (xq112_6, .inr (15, xfs112_8))] := hD
        refine vx_widen (k := c112_1) (n := k112_2) (Nat.le_of_eq (FF.out ec112_1).symm) (Nat.le_of_eq (FF.out ek112_2).symm) ?_
        exact xo hQ htab hlocks hK rfl hP hD hS (fs2_mm112_10, y_mm_6112_11, y_mm_76_313, y_mm_106_314, y_mm_116_315, y_mm_136_316, k_ugu6_317) (fs := xfs112_8) ⟨hs112_16, hp112_13, hp112_14, (rg_w hp6_326 (by decide)), hp112_15, hp6_328, hf112_17, hp6_330, hf112_18, hp6_332, hf112_19, hp6_334⟩ hpexfs112_8 [1, 2, 0, 3] (by decide) rfl (kq := 3) rfl (FF.out mc112_1) (FF.out mk112_2)
      obtain ⟨fs2_mm112_310, y_mm_5112_311, y_mm_6112_312, y_mm_7112_313⟩ := u112_4
      obtain ⟨hp112_314, hp112_315, hp112_316, hp112_317, hp112_318, hp112_319, hp112_320, hp112_321, hp112_322, hp112_323, hp112_324⟩ := hp112_5
      have hs112_325 : SB fs_mm fs2_mm112_310 [5, 6, 7, 10, 11, 13] := SB.trans hs6_351 hp112_314 (by decide)
      have hf112_326 : fs2_mm112_310[10]? = some (.int y_mm_106_314) := SB.get hp112_314 (by decide) hp6_329
      have hf112_327 : fs2_mm112_310[11]? = some (.int y_mm_116_315) := SB.get hp112_314 (by decide) hp6_331
      have hf112_328 : fs2_mm112_310[13]? = some (.int y_mm_136_316) := SB.get hp112_314 (by decide) hp6_333
      have hp112_315 : rg y_mm_5112_311 0 2 := hp112_315
      have hp112_317 : rg y_mm_6112_312 0 2000 := hp112_317
      have hp112_319 : rg y_mm_7112_313 0 2002 := hp112_319
      replace hp112_321 : FF (y_mm_7112_313.toInt ≤ x_mm_8.toInt) := hp112_321
      replace hp112_322 : FF (y_mm_6112_312.toInt ≤ x_mm_8.toInt) := hp112_322
      replace hp112_323 : FF (y_mm_5112_311.toInt ≠ 0 → y_mm_6112_312.toInt + 1 ≤ y_mm_7112_313.toInt) := hp112_323
      replace hp112_324 : FF (y_mm_76_313.toInt ≤ y_mm_6112_312.toInt) := hp112_324
      have hP : va_P D vwCl ([(ugu, .inl (ct 1, 7, .inl k_ugu6_317)), (mm, .inr (16, fs2_mm112_310)), (utape, .inl (ct 1, 2000, .inl g_utape))] ++ ((T6_318.cells))) _ := hP
      have hD : va_D A ([(ugu, .inl (ct 1, 7, .inl k_ugu6_317)), (mm, .inr (16, fs2_mm112_310)), (utape, .inl (ct 1, 2000, .inl g_utape))] ++ ((T6_318.cells))) := hD
      refine W.widen (k := c6_352) (n := k6_353) (Nat.le_refl _) (Nat.le_refl _) (W.eq (g2 := F0 m 115 ls []) rfl ?_)
      obtain ⟨c115_2, ec115_2⟩ : ∃ x9 : Nat, x9 = c6_352 + 1 := ⟨_, rfl⟩
      have ec115_2 := FF.mk ec115_2
      have mc115_2 : FF (c115_2 ≤ MC) := FF.mk (Int.ofNat_le.mp (show ((c115_2 : Nat) : Int) ≤ ((MC : Nat) : Int) by have q0 := FF.out hq2; have q1 := FF.out hq4; have q2 := FF.out hp6_338; have q3 := FF.out hp6_342; have q4 := FF.out ec6_352; have q5 := FF.out ec115_2; omega))
      obtain ⟨k115_3, ek115_3⟩ : ∃ x9 : Nat, x9 = k6_353 + 7 := ⟨_, rfl⟩
      have ek115_3 := FF.mk ek115_3
      have mk115_3 : FF (k115_3 ≤ MS) := FF.mk (Int.ofNat_le.mp (show ((k115_3 : Nat) : Int) ≤ ((MS : Nat) : Int) by have q0 := FF.out hq2; have q1 := FF.out hq5; have q2 := FF.out hp6_338; have q3 := FF.out hp6_343; have q4 := FF.out ek6_353; have q5 := FF.out ek115_3; omega))
      refine nw_O (k1 := c115_2) (n1 := k115_3) (ci := 12) hx hb (htX12 hn) (fun _ h => h) tyX12 tyX12_ok hown (hn.get mw_1533 rfl) (hn.get mw_1969 rfl) (hn.get mw_22 rfl) hK hP hD hS hA rfl dfX12 (Nat.le_of_eq (FF.out ec115_2).symm) (Nat.le_of_eq (FF.out ek115_3).symm) (FF.out mc115_2) (FF.out mk115_3) dX16_readRelation_115 (fun q115_1 H hP hD hS => ?_)
      have hP : va_P D vwCl ([(ugu, .inl (ct 1, 7, .inl k_ugu6_317)), (mm, .inr (16, fs2_mm112_310)), (utape, .inl (ct 1, 2000, .inl g_utape)), (q115_1, .inr (12, [.int 0, .null, .null, .null, .null, .int 0, .int 0]))] ++ ((T6_318.cells))) _ := hP
      have hD : va_D A ([(ugu, .inl (ct 1, 7, .inl k_ugu6_317)), (mm, .inr (16, fs2_mm112_310)), (utape, .inl (ct 1, 2000, .inl g_utape)), (q115_1, .inr (12, [.int 0, .null, .null, .null, .null, .int 0, .int 0]))] ++ ((T6_318.cells))) := hD
      refine lv_dup hx hb dX16_readRelation_118 rfl ?_
      refine lv_aload_n hx hb dX16_readRelation_119 rfl (lv_at hl 1 rfl) ?_
      refine lv_iload_n hx hb dX16_readRelation_120 rfl (lv_at hl 2 rfl) ?_
      refine lv_aload_n hx hb dX16_readRelation_121 rfl (lv_at hl 0 rfl) ?_
      obtain ⟨m122_1, gm122_1⟩ : ∃ m9 : Nat, m9 + c115_2 = MC := ⟨MC - c115_2, Nat.sub_add_cancel (FF.out mc115_2)⟩
      have em122_1 := FF.mk gm122_1
      obtain ⟨m122_2, gm122_2⟩ : ∃ m9 : Nat, m9 + k115_3 = MS := ⟨MS - k115_3, Nat.sub_add_cancel (FF.out mk115_3)⟩
      have em122_2 := FF.mk gm122_2
      refine gt_q (pl := ((T6_318.cells))) (wr := [(q115_1, .inr (12, [.int 0, .null, .null, .null, .null, .int 0, .int 0]))]) [1, 2, 0] [3] (rt_V (As := []) (rest := [.int j97_s0, .ref T6_318.root, .ref q115_1, .ref q115_1]) (c_X16_readSum_g l hst D ct m122_1 m122_2 mm fs2_mm112_310 utape y_mm_5112_311 y_mm_6112_312 y_mm_7112_313 x_mm_8 y_mm_106_314 y_mm_116_315 ugu y_mm_136_316 g_utape k_ugu6_317 (hs112_325.1.trans hlen_mm) (SB.get hs112_325 (by decide) hf_mm_0) hp112_315 hp112_316 hp112_317 hp112_318 (rg_of (show 0 ≤ y_mm_7112_313.toInt ∧ y_mm_7112_313.toInt ≤ 2001 by have q0 := hp112_319.1; have q1 := h_x_mm_8.2; have q2 := FF.out hp112_321; omega)) hp112_320 h_x_mm_8 (SB.get hs112_325 (by decide) hf_mm_8) hp6_328 hf112_326 hp6_330 hf112_327 (SB.get hs112_325 (by decide) hf_mm_12) hp6_332 hf112_328 h_g_utape hp6_334 (show y_mm_7112_313.toInt ≤ 2000 by have q0 := h_x_mm_8.2; have q1 := FF.out hp112_321; omega) (show y_mm_7112_313.toInt ≤ x_mm_8.toInt by have q0 := FF.out hp112_321; omega) (show y_mm_6112_312.toInt ≤ x_mm_8.toInt by have q0 := FF.out hp112_322; omega) (show y_mm_5112_311.toInt ≠ 0 → y_mm_6112_312.toInt + 1 ≤ y_mm_7112_313.toInt by have q0 := hp112_315.1; have q1 := FF.out hp112_323; omega) (show (x_mm_8.toInt - y_mm_6112_312.toInt) + 80 ≤ ((m122_1 : Nat) : Int) by have q0 := hp6_322.1; have q1 := r108_1001.2; have q2 := FF.out hq2; have q3 := FF.out hq4; have q4 := FF.out hp6_339; have q5 := FF.out hp6_342; have q6 := FF.out ec6_352; have q7 := FF.out hi108_1002; have q8 := FF.out hp108_310; have q9 := FF.out hp112_324; have q10 := FF.out ec115_2; have q11 := FF.out em122_1; omega) (show 5 * (x_mm_8.toInt - y_mm_6112_312.toInt) + 500 ≤ ((m122_2 : Nat) : Int) by have q0 := hp6_322.1; have q1 := r108_1001.2; have q2 := FF.out hq5; have q3 := FF.out hp6_337; have q4 := FF.out hp6_339; have q5 := FF.out hp6_341; have q6 := FF.out hp6_343; have q7 := FF.out ek6_353; have q8 := FF.out hi108_1002; have q9 := FF.out hp108_310; have q10 := FF.out hp112_324; have q11 := FF.out ek115_3; have q12 := FF.out em122_2; omega) (show ((0 : Nat) : Int) ≤ 9 * y_mm_106_314.toInt by have q0 := hp6_328.1; omega) hp6_350 _) (cb_of (n := 0) hn mw_2031 mw_13 mw_2028 mhX16_readSum ⟨(Nat.le_of_ble_eq_true rfl), (Nat.le_of_ble_eq_true rfl)⟩) hx hb hml hown hn hK hSK hZ hS mw_2030 mw_s192 (ci := 16) (q0 := 0) rfl rfl rfl rfl hl.1 (Nat.le_of_ble_eq_true rfl) dX16_readRelation_122 ⟨(Nat.le_of_eq ((Nat.add_comm _ _).trans gm122_1)), (Nat.le_of_eq ((Nat.add_comm _ _).trans gm122_2))⟩) hP hD hS hA rfl rfl (by decide) (by decide) (by decide) (fun xq122_6 ux122_7 xfs122_8 H locs hpx122_9 hpexfs122_8 hP hD hS => ?_) (fun r122_3 u122_4 H locs hp122_5 hP hD hS => ?_)
      · obtain ⟨fs2_mm122_10, y_mm_6122_11, y_mm_7122_12, y_mm_10122_13, y_mm_11122_14, y_mm_13122_15, k_ugu122_16⟩ := ux122_7
        obtain ⟨hp122_17, hp122_18, hp122_19, hp122_20, hp122_21, hp122_22, hp122_23, hp122_24, hp122_25, hp122_26, hp122_27, hp122_28⟩ := hpx122_9
        have hs122_29 : SB fs_mm fs2_mm122_10 [5, 6, 7, 10, 11, 13] := SB.trans hs112_325 hp122_17 (by decide)
        have hp122_18 : rg y_mm_6122_11 0 2000 := hp122_18
        have hp122_20 : rg y_mm_7122_12 0 2002 := hp122_20
        have hp122_22 : rg y_mm_10122_13 0 2 := hp122_22
        have hp122_24 : rg y_mm_11122_14 (-1) 6 := hp122_24
        have hp122_26 : rg y_mm_13122_15 0 6 := hp122_26
        have hP : va_P D vwCl [(q115_1, .inr (12, [.int 0, .null, .null, .null, .null, .int 0, .int 0])), (mm, .inr (16, fs2_mm122_10)), (utape, .inl (ct 1, 2000, .inl g_utape)), (ugu, .inl (ct 1, 7, .inl k_ugu122_16)), (xq122_6, .inr (15, xfs122_8))] _ := hP
        have hD : va_D A [(q115_1, .inr (12, [.int 0, .null, .null, .null, .null, .int 0, .int 0])), (mm, .inr (16, fs2_mm122_10)), (utape, .inl (ct 1, 2000, .inl g_utape)), (ugu, .inl (ct 1, 7, .inl k_ugu122_16)), (xq122_6, .inr (15, xfs122_8))] := hD
        refine vx_widen (k := MC) (n := MS) (Nat.le_of_eq ((Nat.add_comm _ _).trans gm122_1)) (Nat.le_of_eq ((Nat.add_comm _ _).trans gm122_2)) ?_
        exact xo hQ htab hlocks hK rfl hP hD hS (fs2_mm122_10, y_mm_6122_11, y_mm_7122_12, y_mm_10122_13, y_mm_11122_14, y_mm_13122_15, k_ugu122_16) (fs := xfs122_8) ⟨hs122_29, hp122_18, hp122_19, hp122_20, hp122_21, hp122_22, hp122_23, hp122_24, hp122_25, hp122_26, hp122_27, hp122_28⟩ hpexfs122_8 [1, 2, 3, 4] (by decide) rfl (kq := 4) rfl (Nat.le_refl _) (Nat.le_refl _)
      obtain ⟨fs2_mm122_310, y_mm_5122_311, y_mm_6122_312, y_mm_7122_313, y_mm_10122_314, y_mm_11122_315, y_mm_13122_316, k_ugu122_317, T122_318, kc122_319, kn122_320⟩ := u122_4
      obtain ⟨hp122_321, hp122_322, hp122_323, hp122_324, hp122_325, hp122_326, hp122_327, hp122_328, hp122_329, hp122_330, hp122_331, hp122_332, hp122_333, hp122_334, hp122_335, hp122_336, hp122_337, hp122_338, hp122_339, hp122_340, hp122_341, hp122_342, hp122_343, hp122_344, hp122_345, hp122_346, hp122_347, hp122_348, hp122_349, hp122_350⟩ := hp122_5
      have hs122_351 : SB fs_mm fs2_mm122_310 [5, 6, 7, 10, 11, 13] := SB.trans hs112_325 hp122_321 (by decide)
      have hp122_322 : rg y_mm_5122_311 0 2 := hp122_322
      have hp122_324 : rg y_mm_6122_312 0 2000 := hp122_324
      have hp122_326 : rg y_mm_7122_313 0 2001 := hp122_326
      have hp122_328 : rg y_mm_10122_314 0 2 := hp122_328
      have hp122_330 : rg y_mm_11122_315 (-1) 6 := hp122_330
      have hp122_332 : rg y_mm_13122_316 0 6 := hp122_332
      subst hp122_335
      replace hp122_337 : FF (y_mm_7122_313.toInt ≤ x_mm_8.toInt) := hp122_337
      replace hp122_338 : FF (y_mm_6122_312.toInt ≤ x_mm_8.toInt) := hp122_338
      replace hp122_339 : FF (y_mm_5122_311.toInt ≠ 0 → y_mm_6122_312.toInt + 1 ≤ y_mm_7122_313.toInt) := hp122_339
      replace hp122_340 : FF (y_mm_7112_313.toInt ≤ y_mm_6122_312.toInt) := hp122_340
      replace hp122_341 : FF (1 ≤ y_mm_6122_312.toInt - y_mm_6112_312.toInt) := hp122_341
      replace hp122_342 : FF (((kc122_319 : Nat) : Int) ≤ (y_mm_6122_312.toInt - y_mm_6112_312.toInt)) := hp122_342
      replace hp122_343 : FF (((kn122_320 : Nat) : Int) ≤ 5 * (y_mm_6122_312.toInt - y_mm_6112_312.toInt)) := hp122_343
      replace hp122_344 : FF (((T122_318.sz : Nat) : Int) ≤ (y_mm_6122_312.toInt - y_mm_6112_312.toInt)) := hp122_344
      replace hp122_345 : FF (4 * ((T122_318.c4 : Nat) : Int) ≤ (y_mm_6122_312.toInt - y_mm_6112_312.toInt)) := hp122_345
      replace hp122_346 : FF (2 * (y_mm_13122_316.toInt - y_mm_136_316.toInt) ≤ (y_mm_6122_312.toInt - y_mm_6112_312.toInt)) := hp122_346
      replace hp122_347 : FF (y_mm_136_316.toInt ≤ y_mm_13122_316.toInt) := hp122_347
      replace hp122_348 : FF (((T122_318.dep : Nat) : Int) ≤ 83 - 27 * y_mm_106_314.toInt) := hp122_348
      replace hp122_349 : FF (y_mm_10122_314.toInt = y_mm_106_314.toInt) := hp122_349
      have hp122_350 : GU k_ugu122_317 y_mm_13122_316.toInt := hp122_350
      obtain ⟨c122_352, ec122_352⟩ : ∃ x9 : Nat, x9 = c115_2 + kc122_319 := ⟨_, rfl⟩
      have ec122_352 := FF.mk ec122_352
      have mc122_352 : FF (c122_352 ≤ MC) := FF.mk (Int.ofNat_le.mp (show ((c122_352 : Nat) : Int) ≤ ((MC : Nat) : Int) by have q0 := hp6_322.1; have q1 := r108_1001.2; have q2 := FF.out hq2; have q3 := FF.out hq4; have q4 := FF.out hp6_339; have q5 := FF.out hp6_342; have q6 := FF.out ec6_352; have q7 := FF.out hi108_1002; have q8 := FF.out hp108_310; have q9 := FF.out hp112_324; have q10 := FF.out ec115_2; have q11 := FF.out hp122_338; have q12 := FF.out hp122_342; have q13 := FF.out ec122_352; omega))
      obtain ⟨k122_353, ek122_353⟩ : ∃ x9 : Nat, x9 = k115_3 + kn122_320 := ⟨_, rfl⟩
      have ek122_353 := FF.mk ek122_353
      have mk122_353 : FF (k122_353 ≤ MS) := FF.mk (Int.ofNat_le.mp (show ((k122_353 : Nat) : Int) ≤ ((MS : Nat) : Int) by have q0 := hp6_322.1; have q1 := r108_1001.2; have q2 := FF.out hq2; have q3 := FF.out hq5; have q4 := FF.out hp6_339; have q5 := FF.out hp6_343; have q6 := FF.out ek6_353; have q7 := FF.out hi108_1002; have q8 := FF.out hp108_310; have q9 := FF.out hp112_324; have q10 := FF.out ek115_3; have q11 := FF.out hp122_338; have q12 := FF.out hp122_343; have q13 := FF.out ek122_353; omega))
      have hP : va_P D vwCl (([(q115_1, .inr (12, [.int 0, .null, .null, .null, .null, .int 0, .int 0])), (mm, .inr (16, fs2_mm122_310)), (utape, .inl (ct 1, 2000, .inl g_utape)), (ugu, .inl (ct 1, 7, .inl k_ugu122_317))] ++ (T122_318.cells)) ++ ((T6_318.cells))) _ := hP
      have hD : va_D A (([(q115_1, .inr (12, [.int 0, .null, .null, .null, .null, .int 0, .int 0])), (mm, .inr (16, fs2_mm122_310)), (utape, .inl (ct 1, 2000, .inl g_utape)), (ugu, .inl (ct 1, 7, .inl k_ugu122_317))] ++ (T122_318.cells)) ++ ((T6_318.cells))) := hD
      have hP := pool_in hP
      have hD := pool_inD hD
      obtain ⟨p122_354, ep122_354⟩ : ∃ p9 : va_W, p9 = ((T6_318.cells) ++ (T122_318.cells)) := ⟨_, rfl⟩
      rw [← ep122_354] at hP hD
      have hk122_355 : FF (0 ≤ ((T122_318.sz : Nat) : Int)) := Int.natCast_nonneg _
      have hk122_356 : FF (0 ≤ ((T122_318.dep : Nat) : Int)) := Int.natCast_nonneg _
      have hk122_357 : FF (0 ≤ ((T122_318.c4 : Nat) : Int)) := Int.natCast_nonneg _
      have hP : va_P D vwCl ([(q115_1, .inr (12, [.int 0, .null, .null, .null, .null, .int 0, .int 0])), (mm, .inr (16, fs2_mm122_310)), (utape, .inl (ct 1, 2000, .inl g_utape)), (ugu, .inl (ct 1, 7, .inl k_ugu122_317))] ++ (p122_354)) _ := hP
      have hD : va_D A ([(q115_1, .inr (12, [.int 0, .null, .null, .null, .null, .int 0, .int 0])), (mm, .inr (16, fs2_mm122_310)), (utape, .inl (ct 1, 2000, .inl g_utape)), (ugu, .inl (ct 1, 7, .inl k_ugu122_317))] ++ (p122_354)) := hD
      refine W.widen (k := c122_352) (n := k122_353) (Nat.le_of_eq (FF.out ec122_352).symm) (Nat.le_of_eq (FF.out ek122_353).symm) (W.eq (g2 := F0 m 125 ls [.ref T122_318.root, .int j97_s0, .ref T6_318.root, .ref q115_1, .ref q115_1]) rfl ?_)
      refine gq_v (k1 := c122_352) (n1 := k122_353) (wr := [(mm, .inr (16, fs2_mm122_310)), (utape, .inl (ct 1, 2000, .inl g_utape)), (ugu, .inl (ct 1, 7, .inl k_ugu122_317))]) [0] [1, 2, 3] (rn_I (As := [.ref T6_318.root, .int j97_s0, .ref T122_318.root]) (rest := [.ref q115_1]) (c_X12_init__rr l D ct q115_1 T6_318.root j97_s0 T122_318.root  _) (cb_of (n := 3) hn mw_2123 mw_22 mw_2121 mhX12_init_ ⟨(Nat.le_of_ble_eq_true rfl), (Nat.le_of_ble_eq_true rfl)⟩) hx hb hml hown hn hK hSK hZ hS mw_2122 rfl rfl hl.1 (Nat.le_of_ble_eq_true rfl) dX16_readRelation_125 ⟨(FF.out mc122_352), (FF.out mk122_353)⟩) hP hD hS hA rfl rfl (by decide) (by decide) (by decide) (Nat.le_refl _) (Nat.le_refl _) (fun u125_2 H locs hp125_3 hP hD hS => ?_)
      have hP : va_P D vwCl ([(mm, .inr (16, fs2_mm122_310)), (utape, .inl (ct 1, 2000, .inl g_utape)), (ugu, .inl (ct 1, 7, .inl k_ugu122_317)), (q115_1, .inr (12, [.int 0, .null, .null, .ref T6_318.root, .ref T122_318.root, .int j97_s0, .int 0]))] ++ (p122_354)) _ := hP
      have hD : va_D A ([(mm, .inr (16, fs2_mm122_310)), (utape, .inl (ct 1, 2000, .inl g_utape)), (ugu, .inl (ct 1, 7, .inl k_ugu122_317)), (q115_1, .inr (12, [.int 0, .null, .null, .ref T6_318.root, .ref T122_318.root, .int j97_s0, .int 0]))] ++ (p122_354)) := hD
      have hP : va_P D vwCl (([(mm, .inr (16, fs2_mm122_310)), (utape, .inl (ct 1, 2000, .inl g_utape)), (ugu, .inl (ct 1, 7, .inl k_ugu122_317))] ++ [(q115_1, FT.ent (FT.test q115_1 T6_318 T122_318 j97_s0) (Z0 q115_1))]) ++ (p122_354)) _ := hP
      have hD : va_D A (([(mm, .inr (16, fs2_mm122_310)), (utape, .inl (ct 1, 2000, .inl g_utape)), (ugu, .inl (ct 1, 7, .inl k_ugu122_317))] ++ [(q115_1, FT.ent (FT.test q115_1 T6_318 T122_318 j97_s0) (Z0 q115_1))]) ++ (p122_354)) := hD
      have hP := pool_in hP
      have hD := pool_inD hD
      obtain ⟨p125_4, ep125_4⟩ : ∃ p9 : va_W, p9 = (p122_354 ++ [(q115_1, FT.ent (FT.test q115_1 T6_318 T122_318 j97_s0) (Z0 q115_1))]) := ⟨_, rfl⟩
      rw [← ep125_4] at hP hD
      have hP : va_P D vwCl ([(mm, .inr (16, fs2_mm122_310)), (utape, .inl (ct 1, 2000, .inl g_utape)), (ugu, .inl (ct 1, 7, .inl k_ugu122_317))] ++ (p125_4)) _ := hP
      have hD : va_D A ([(mm, .inr (16, fs2_mm122_310)), (utape, .inl (ct 1, 2000, .inl g_utape)), (ugu, .inl (ct 1, 7, .inl k_ugu122_317))] ++ (p125_4)) := hD
      have hk125_5 : FF ((((FT.test q115_1 T6_318 T122_318 j97_s0).sz : Nat) : Int) = ((T6_318.sz : Nat) : Int) + ((T122_318.sz : Nat) : Int) + 1) := (FF.mk (by simp only [ST.sz_leaf, ST.sz_minus, ST.sz_group, ST.sz_acc, ST.sz_two, ST.dep_leaf, ST.dep_minus, ST.dep_group, ST.dep_acc, ST.dep_two, ST.c4_leaf, ST.c4_minus, ST.c4_group, ST.c4_acc, ST.c4_two, FT.sz_test, FT.sz_inv, FT.sz_two, FT.sz_pair, FT.dep_test, FT.dep_inv, FT.dep_two, FT.dep_pair, FT.c4_test, FT.c4_inv, FT.c4_two, FT.c4_pair]; first | omega | (rw [if_neg (by decide)]; omega) | (rw [if_pos (by decide)]; omega) | (split <;> omega) | skip))
      have hk125_6 : FF (((T6_318.dep : Nat) : Int) ≤ (((FT.test q115_1 T6_318 T122_318 j97_s0).dep : Nat) : Int)) := (FF.mk (by simp only [ST.sz_leaf, ST.sz_minus, ST.sz_group, ST.sz_acc, ST.sz_two, ST.dep_leaf, ST.dep_minus, ST.dep_group, ST.dep_acc, ST.dep_two, ST.c4_leaf, ST.c4_minus, ST.c4_group, ST.c4_acc, ST.c4_two, FT.sz_test, FT.sz_inv, FT.sz_two, FT.sz_pair, FT.dep_test, FT.dep_inv, FT.dep_two, FT.dep_pair, FT.c4_test, FT.c4_inv, FT.c4_two, FT.c4_pair]; first | omega | (rw [if_neg (by decide)]; omega) | (rw [if_pos (by decide)]; omega) | (split <;> omega) | skip))
      have hk125_7 : FF (((T122_318.dep : Nat) : Int) ≤ (((FT.test q115_1 T6_318 T122_318 j97_s0).dep : Nat) : Int)) := (FF.mk (by simp only [ST.sz_leaf, ST.sz_minus, ST.sz_group, ST.sz_acc, ST.sz_two, ST.dep_leaf, ST.dep_minus, ST.dep_group, ST.dep_acc, ST.dep_two, ST.c4_leaf, ST.c4_minus, ST.c4_group, ST.c4_acc, ST.c4_two, FT.sz_test, FT.sz_inv, FT.sz_two, FT.sz_pair, FT.dep_test, FT.dep_inv, FT.dep_two, FT.dep_pair, FT.c4_test, FT.c4_inv, FT.c4_two, FT.c4_pair]; first | omega | (rw [if_neg (by decide)]; omega) | (rw [if_pos (by decide)]; omega) | (split <;> omega) | skip))
      have hk125_8 : FF ((((FT.test q115_1 T6_318 T122_318 j97_s0).dep : Nat) : Int) ≤ ((T6_318.dep : Nat) : Int) ∨ (((FT.test q115_1 T6_318 T122_318 j97_s0).dep : Nat) : Int) ≤ ((T122_318.dep : Nat) : Int)) := (FF.mk (by simp only [ST.sz_leaf, ST.sz_minus, ST.sz_group, ST.sz_acc, ST.sz_two, ST.dep_leaf, ST.dep_minus, ST.dep_group, ST.dep_acc, ST.dep_two, ST.c4_leaf, ST.c4_minus, ST.c4_group, ST.c4_acc, ST.c4_two, FT.sz_test, FT.sz_inv, FT.sz_two, FT.sz_pair, FT.dep_test, FT.dep_inv, FT.dep_two, FT.dep_pair, FT.c4_test, FT.c4_inv, FT.c4_two, FT.c4_pair]; first | omega | (rw [if_neg (by decide)]; omega) | (rw [if_pos (by decide)]; omega) | (split <;> omega) | skip))
      have hk125_9 : FF ((((FT.test q115_1 T6_318 T122_318 j97_s0).c4 : Nat) : Int) = ((T6_318.c4 : Nat) : Int) + ((T122_318.c4 : Nat) : Int)) := (FF.mk (by simp only [ST.sz_leaf, ST.sz_minus, ST.sz_group, ST.sz_acc, ST.sz_two, ST.dep_leaf, ST.dep_minus, ST.dep_group, ST.dep_acc, ST.dep_two, ST.c4_leaf, ST.c4_minus, ST.c4_group, ST.c4_acc, ST.c4_two, FT.sz_test, FT.sz_inv, FT.sz_two, FT.sz_pair, FT.dep_test, FT.dep_inv, FT.dep_two, FT.dep_pair, FT.c4_test, FT.c4_inv, FT.c4_two, FT.c4_pair]; first | omega | (rw [if_neg (by decide)]; omega) | (rw [if_pos (by decide)]; omega) | (split <;> omega) | skip))
      refine lv_astore_n (lv' := [(3, .ref q115_1), (0, .ref mm), (1, .ref T6_318.root), (2, .int j97_s0)]) hx hb dX16_readRelation_128 rfl hl (by decide) rfl (fun ls hl => ?_)
      refine lv_aload_n hx hb dX16_readRelation_129 rfl (lv_at hl 1 rfl) ?_
      refine va_get (D := D) (ci := 16) (v := .int y_mm_13122_316) (C := RX16) (T := TX16) (N := 78) hx hb (htX16 hn) (fun _ h => h) hown hK hP 0 rfl rfl 13 (by decide) (hn.get mw_1552 rfl) (fun _ h9 => h9) hp122_333 dX16_readRelation_130 ?_
      refine lv_iconst (v := 1) hx hb dX16_readRelation_133 (by decide) ?_
      refine lv_isub hx hb dX16_readRelation_134 ?_
      refine lv_topi (fun z134_1 ez134_1 => ?_)
      have r134_2 : rg z134_1 (-1) 5 := rg_sub ez134_1 hp122_332 (show rg (1 : Int32) 1 1 from rg_l (by decide)) (by decide)
      refine lv_istore (lv' := [(4, .int z134_1), (3, .ref q115_1), (0, .ref mm), (1, .ref T6_318.root), (2, .int j97_s0)]) hx hb dX16_readRelation_135 hl (by decide) rfl (fun ls hl => ?_)
      have b137 : ∀ (n137 : Nat) (j137_accC : Nat) (j137_accS : Nat) (j137_l3 : FT) (j137_l4 : Int32) (H : Heap) (locs : List Loc) (ls : Array Slot), (FF (((j137_accC : Nat) : Int) ≤ ((MC : Nat) : Int))) → (FF (((j137_accS : Nat) : Int) ≤ ((MS : Nat) : Int))) → (j137_l3.ok) → (rg j137_l4 (-1) 5) → (FF (((j137_accC : Nat) : Int) ≤ (y_mm_6122_312.toInt - x_mm_6.toInt) + 17 * (y_mm_13122_316.toInt - 1 - j137_l4.toInt))) → (FF (((j137_accS : Nat) : Int) ≤ 5 * (y_mm_6122_312.toInt - x_mm_6.toInt) + 2 + 97 * (y_mm_13122_316.toInt - 1 - j137_l4.toInt))) → (FF (((j137_l3.sz : Nat) : Int) ≤ (y_mm_6122_312.toInt - x_mm_6.toInt) + 17 * (y_mm_13122_316.toInt - 1 - j137_l4.toInt))) → (FF (4 * ((j137_l3.c4 : Nat) : Int) ≤ y_mm_6122_312.toInt - x_mm_6.toInt)) → (FF (((j137_l3.dep : Nat) : Int) ≤ 83)) → (FF (j137_l4.toInt < y_mm_13122_316.toInt)) → (FF (-1 ≤ j137_l4.toInt)) → (j137_l4.toInt + 1).toNat < n137 → lv_has ls 5 [(0, .ref mm), (3, .ref j137_l3.root), (4, .int j137_l4)] → va_P D vwCl ([(mm, .inr (16, fs2_mm122_310)), (utape, .inl (ct 1, 2000, .inl g_utape)), (ugu, .inl (ct 1, 7, .inl k_ugu122_317))] ++ ((j137_l3.cells Z0))) H → va_D A ([(mm, .inr (16, fs2_mm122_310)), (utape, .inl (ct 1, 2000, .inl g_utape)), (ugu, .inl (ct 1, 7, .inl k_ugu122_317))] ++ ((j137_l3.cells Z0))) → va_S A s.heap H locs → W p l e ({ frames := 171, cells := MC, slots := MS, locals := 8122 }) s m [.ref mm].toArray below meth c H locs j137_accC j137_accS Q (F0 m 137 ls []) := by
        intro n137
        induction n137 with
        | zero => intros; rename_i hms _ _ _ _; exact absurd hms (Nat.not_lt_zero _)
        | succ n137 ih137 =>
          intro j137_accC j137_accS j137_l3 j137_l4 H locs ls hm137_1001 hm137_1002 ht137_1003 r137_1004 hi137_1005 hi137_1006 hi137_1007 hi137_1008 hi137_1009 hi137_1010 hi137_1011 hms137 hl hP hD hS
          refine lv_iload hx hb dX16_readRelation_137 (lv_at hl 2 rfl) ?_
          refine lv_if_lt (tgt := 163) hx hb dX16_readRelation_139 (by decide) (fun c139_1 => ?_) (fun c139_1 => ?_)
          · have t139_2 := FF.mk (i_lt c139_1)
            have r139_3 : rg j137_l4 (-1) (-1) := rg_ltA t139_2 r137_1004 (show rg (0 : Int32) 0 0 from rg_l (by decide)) (by decide)
            refine lv_aload_n hx hb dX16_readRelation_163 rfl (lv_at hl 1 rfl) ?_
            have hP : va_P D vwCl ([(mm, .inr (16, fs2_mm122_310)), (utape, .inl (ct 1, 2000, .inl g_utape)), (ugu, .inl (ct 1, 7, .inl k_ugu122_317))] ++ (j137_l3.cells Z0)) _ := hP.perm (seg_perm (fun f => by simp only [ST.cells_leaf, ST.cells_minus, ST.cells_group, ST.cells_acc, ST.cells_two, FT.cells_two, FT.cells_inv, FT.cells_test, FT.cells_pair, List.map_append, List.sum_append, List.map_nil, List.sum_nil] <;> omega))
            have hD : va_D A ([(mm, .inr (16, fs2_mm122_310)), (utape, .inl (ct 1, 2000, .inl g_utape)), (ugu, .inl (ct 1, 7, .inl k_ugu122_317))] ++ (j137_l3.cells Z0)) := hD.perm (seg_perm (fun f => by simp only [ST.cells_leaf, ST.cells_minus, ST.cells_group, ST.cells_acc, ST.cells_two, FT.cells_two, FT.cells_inv, FT.cells_test, FT.cells_pair, List.map_append, List.sum_append, List.map_nil, List.sum_nil] <;> omega))
            exact et_r (SX := List Value × Int32 × Int32 × Int32 × Int32 × Int32 × (Nat → Int32)) hQ hx hb hr hlocks dX16_readRelation_164 (fs2_mm122_310, y_mm_5122_311, y_mm_6122_312, y_mm_7122_313, y_mm_10122_314, y_mm_11122_315, y_mm_13122_316, k_ugu122_317, j137_l3, j137_accC, j137_accS) ⟨hs122_351, hp122_322, hp122_323, hp122_324, hp122_325, hp122_326, hp122_327, hp122_328, hp122_329, hp122_330, hp122_331, hp122_332, hp122_333, hp122_334, rfl, ht137_1003, (show y_mm_7122_313.toInt ≤ x_mm_8.toInt by have q0 := FF.out hp122_337; omega), (show y_mm_6122_312.toInt ≤ x_mm_8.toInt by have q0 := FF.out hp122_338; omega), (show y_mm_5122_311.toInt ≠ 0 → y_mm_6122_312.toInt + 1 ≤ y_mm_7122_313.toInt by have q0 := hp122_322.1; have q1 := FF.out hp122_339; omega), (show x_mm_7.toInt ≤ y_mm_6122_312.toInt by have q0 := hp6_322.1; have q1 := r108_1001.2; have q2 := FF.out hp6_339; have q3 := FF.out hp6_340; have q4 := FF.out hi108_1002; have q5 := FF.out hp108_310; have q6 := FF.out hp112_324; have q7 := FF.out hp122_341; omega), (show 1 ≤ y_mm_6122_312.toInt - x_mm_6.toInt by have q0 := hp6_322.1; have q1 := r108_1001.2; have q2 := FF.out hp6_339; have q3 := FF.out hp6_341; have q4 := FF.out hi108_1002; have q5 := FF.out hp108_310; have q6 := FF.out hp112_324; have q7 := FF.out hp122_341; omega), (show ((j137_accC : Nat) : Int) ≤ 10 * (y_mm_6122_312.toInt - x_mm_6.toInt) + 0 by have q0 := r139_3.1; have q1 := hp6_322.1; have q2 := r108_1001.2; have q3 := FF.out hp6_339; have q4 := FF.out hp6_341; have q5 := FF.out hp6_346; have q6 := FF.out hi108_1002; have q7 := FF.out hp108_310; have q8 := FF.out hp112_324; have q9 := FF.out hp122_341; have q10 := FF.out hp122_346; have q11 := FF.out hi137_1005; have q12 := (show (0 : Int32).toInt = 0 from by decide); omega), (show ((j137_accS : Nat) : Int) ≤ 60 * (y_mm_6122_312.toInt - x_mm_6.toInt) + 0 by have q0 := r139_3.1; have q1 := hp6_322.1; have q2 := r108_1001.2; have q3 := FF.out hp6_339; have q4 := FF.out hp6_341; have q5 := FF.out hp6_346; have q6 := FF.out hi108_1002; have q7 := FF.out hp108_310; have q8 := FF.out hp112_324; have q9 := FF.out hp122_341; have q10 := FF.out hp122_346; have q11 := FF.out hi137_1006; have q12 := (show (0 : Int32).toInt = 0 from by decide); omega), (show ((j137_l3.sz : Nat) : Int) ≤ 10 * (y_mm_6122_312.toInt - x_mm_6.toInt) + 0 by have q0 := r139_3.1; have q1 := hp6_322.1; have q2 := r108_1001.2; have q3 := FF.out hp6_339; have q4 := FF.out hp6_341; have q5 := FF.out hp6_346; have q6 := FF.out hi108_1002; have q7 := FF.out hp108_310; have q8 := FF.out hp112_324; have q9 := FF.out hp122_341; have q10 := FF.out hp122_346; have q11 := FF.out hi137_1007; have q12 := (show (0 : Int32).toInt = 0 from by decide); omega), (show 4 * ((j137_l3.c4 : Nat) : Int) ≤ (y_mm_6122_312.toInt - x_mm_6.toInt) by have q0 := FF.out hi137_1008; omega), (show ((j137_l3.dep : Nat) : Int) ≤ 83 by have q0 := FF.out hi137_1009; omega), (show y_mm_10122_314.toInt = x_mm_10.toInt by have q0 := FF.out hp6_349; have q1 := FF.out hp122_349; omega)⟩ hP hD hS [0, 1, 2] (by decide) rfl (Nat.le_refl _) (Nat.le_refl _) (Int.ofNat_le.mp (FF.out hm137_1001)) (Int.ofNat_le.mp (FF.out hm137_1002))
          · have t139_2 := FF.mk (i_nlt c139_1)
            have r139_3 : rg j137_l4 0 5 := rg_leB t139_2 (show rg (0 : Int32) 0 0 from rg_l (by decide)) r137_1004 (by decide)
            refine lv_aload_n hx hb dX16_readRelation_142 rfl (lv_at hl 0 rfl) ?_
            refine va_get (D := D) (ci := 16) (v := .ref ugu) (C := RX16) (T := TX16) (N := 78) hx hb (htX16 hn) (fun _ h => h) hown hK hP 0 rfl rfl 12 (by decide) (hn.get mw_1551 rfl) (fun _ h9 => h9) (SB.get hs122_351 (by decide) hf_mm_12) dX16_readRelation_143 ?_
            refine lv_iload hx hb dX16_readRelation_146 (lv_at hl 2 rfl) ?_
            have hi148_1 : vp_in j137_l4 7 := (in_rg r139_3 (by decide))
            refine va_iald hx hb hK hP 2 1 rfl rfl hi148_1 dX16_readRelation_148 ?_
            refine lv_topi (fun z148_2 ez148_2 => ?_)
            have r148_3 : rg z148_2 0 6 := Rg_at hp122_334 hi148_1 ez148_2
            obtain ⟨m149_1, gm149_1⟩ : ∃ m9 : Nat, m9 + j137_accC = MC := ⟨MC - j137_accC, Nat.sub_add_cancel (Int.ofNat_le.mp (FF.out hm137_1001))⟩
            have em149_1 := FF.mk gm149_1
            obtain ⟨m149_2, gm149_2⟩ : ∃ m9 : Nat, m9 + j137_accS = MS := ⟨MS - j137_accS, Nat.sub_add_cancel (Int.ofNat_le.mp (FF.out hm137_1002))⟩
            have em149_2 := FF.mk gm149_2
            refine gt_q (pl := ((j137_l3.cells Z0))) (wr := [(mm, .inr (16, fs2_mm122_310)), (utape, .inl (ct 1, 2000, .inl g_utape)), (ugu, .inl (ct 1, 7, .inl k_ugu122_317))]) [] [0, 1, 2] (rt_S (As := [.int z148_2]) (rest := []) (c_X16_guard l hst D ct m149_1 m149_2 z148_2 (show 16 ≤ ((m149_1 : Nat) : Int) by have q0 := r139_3.1; have q1 := hp122_332.2; have q2 := FF.out hq4; have q3 := FF.out hp6_338; have q4 := FF.out hp6_341; have q5 := FF.out hp122_338; have q6 := FF.out hi137_1005; have q7 := FF.out em149_1; omega) (show 90 ≤ ((m149_2 : Nat) : Int) by have q0 := r139_3.1; have q1 := hp122_332.2; have q2 := FF.out hq5; have q3 := FF.out hp6_338; have q4 := FF.out hp6_341; have q5 := FF.out hp122_338; have q6 := FF.out hi137_1006; have q7 := FF.out em149_2; omega) _) (cb_of (n := 1) hn mw_2126 mw_13 mw_2124 mhX16_guard ⟨(Nat.le_of_ble_eq_true rfl), (Nat.le_of_ble_eq_true rfl)⟩) hx hb hml hown hn hK hSK hZ hS mw_2125 rfl hl.1 (Nat.le_of_ble_eq_true rfl) dX16_readRelation_149 ⟨(Nat.le_of_eq ((Nat.add_comm _ _).trans gm149_1)), (Nat.le_of_eq ((Nat.add_comm _ _).trans gm149_2))⟩) hP hD hS hA rfl rfl (by decide) (by decide) (by decide) (fun xq149_6 ux149_7 xfs149_8 H locs hpx149_9 hpexfs149_8 hP hD hS => ?_) (fun r149_3 u149_4 H locs hp149_5 hP hD hS => ?_)
            · exact hpx149_9.elim
            obtain ⟨T149_310, kc149_311, kn149_312⟩ := u149_4
            obtain ⟨hp149_313, hp149_314, hp149_315, hp149_316, hp149_317, hp149_318, hp149_319⟩ := hp149_5
            subst hp149_313
            replace hp149_315 : FF (((kc149_311 : Nat) : Int) ≤ 16) := hp149_315
            replace hp149_316 : FF (((kn149_312 : Nat) : Int) ≤ 90) := hp149_316
            replace hp149_317 : FF (((T149_310.sz : Nat) : Int) ≤ 16) := hp149_317
            replace hp149_318 : FF (((T149_310.dep : Nat) : Int) ≤ 1) := hp149_318
            replace hp149_319 : FF (((T149_310.c4 : Nat) : Int) ≤ 0) := hp149_319
            obtain ⟨c149_320, ec149_320⟩ : ∃ x9 : Nat, x9 = j137_accC + kc149_311 := ⟨_, rfl⟩
            have ec149_320 := FF.mk ec149_320
            have mc149_320 : FF (c149_320 ≤ MC) := FF.mk (Int.ofNat_le.mp (show ((c149_320 : Nat) : Int) ≤ ((MC : Nat) : Int) by have q0 := r139_3.1; have q1 := hp122_332.2; have q2 := FF.out hq4; have q3 := FF.out hp6_338; have q4 := FF.out hp6_341; have q5 := FF.out hp122_338; have q6 := FF.out hi137_1005; have q7 := FF.out hp149_315; have q8 := FF.out ec149_320; omega))
            obtain ⟨k149_321, ek149_321⟩ : ∃ x9 : Nat, x9 = j137_accS + kn149_312 := ⟨_, rfl⟩
            have ek149_321 := FF.mk ek149_321
            have mk149_321 : FF (k149_321 ≤ MS) := FF.mk (Int.ofNat_le.mp (show ((k149_321 : Nat) : Int) ≤ ((MS : Nat) : Int) by have q0 := r139_3.1; have q1 := hp122_332.2; have q2 := FF.out hq5; have q3 := FF.out hp6_338; have q4 := FF.out hp6_341; have q5 := FF.out hp122_338; have q6 := FF.out hi137_1006; have q7 := FF.out hp149_316; have q8 := FF.out ek149_321; omega))
            have hP : va_P D vwCl (([(mm, .inr (16, fs2_mm122_310)), (utape, .inl (ct 1, 2000, .inl g_utape)), (ugu, .inl (ct 1, 7, .inl k_ugu122_317))] ++ (T149_310.cells Z0)) ++ ((j137_l3.cells Z0))) _ := hP
            have hD : va_D A (([(mm, .inr (16, fs2_mm122_310)), (utape, .inl (ct 1, 2000, .inl g_utape)), (ugu, .inl (ct 1, 7, .inl k_ugu122_317))] ++ (T149_310.cells Z0)) ++ ((j137_l3.cells Z0))) := hD
            have hP := pool_in hP
            have hD := pool_inD hD
            obtain ⟨p149_322, ep149_322⟩ : ∃ p9 : va_W, p9 = ((j137_l3.cells Z0) ++ (T149_310.cells Z0)) := ⟨_, rfl⟩
            rw [← ep149_322] at hP hD
            have hk149_323 : FF (0 ≤ ((T149_310.sz : Nat) : Int)) := Int.natCast_nonneg _
            have hk149_324 : FF (0 ≤ ((T149_310.dep : Nat) : Int)) := Int.natCast_nonneg _
            have hk149_325 : FF (0 ≤ ((T149_310.c4 : Nat) : Int)) := Int.natCast_nonneg _
            have hP : va_P D vwCl ([(mm, .inr (16, fs2_mm122_310)), (utape, .inl (ct 1, 2000, .inl g_utape)), (ugu, .inl (ct 1, 7, .inl k_ugu122_317))] ++ (p149_322)) _ := hP
            have hD : va_D A ([(mm, .inr (16, fs2_mm122_310)), (utape, .inl (ct 1, 2000, .inl g_utape)), (ugu, .inl (ct 1, 7, .inl k_ugu122_317))] ++ (p149_322)) := hD
            refine W.widen (k := c149_320) (n := k149_321) (Nat.le_of_eq (FF.out ec149_320).symm) (Nat.le_of_eq (FF.out ek149_321).symm) (W.eq (g2 := F0 m 152 ls [.ref T149_310.root]) rfl ?_)
            refine lv_aload_n hx hb dX16_readRelation_152 rfl (lv_at hl 1 rfl) ?_
            obtain ⟨m153_1, gm153_1⟩ : ∃ m9 : Nat, m9 + c149_320 = MC := ⟨MC - c149_320, Nat.sub_add_cancel (FF.out mc149_320)⟩
            have em153_1 := FF.mk gm153_1
            obtain ⟨m153_2, gm153_2⟩ : ∃ m9 : Nat, m9 + k149_321 = MS := ⟨MS - k149_321, Nat.sub_add_cancel (FF.out mk149_321)⟩
            have em153_2 := FF.mk gm153_2
            refine gt_q (pl := (p149_322)) (wr := [(mm, .inr (16, fs2_mm122_310)), (utape, .inl (ct 1, 2000, .inl g_utape)), (ugu, .inl (ct 1, 7, .inl k_ugu122_317))]) [] [0, 1, 2] (rt_S (As := [.ref T149_310.root, .ref j137_l3.root]) (rest := []) (c_X16_and l hst D ct m153_1 m153_2 T149_310 j137_l3 hp149_314 ht137_1003 (show 1 ≤ ((m153_1 : Nat) : Int) by have q0 := r139_3.1; have q1 := hp122_332.2; have q2 := FF.out hq4; have q3 := FF.out hp6_338; have q4 := FF.out hp6_341; have q5 := FF.out hp122_338; have q6 := FF.out hi137_1005; have q7 := FF.out hp149_315; have q8 := FF.out ec149_320; have q9 := FF.out em153_1; omega) (show 7 ≤ ((m153_2 : Nat) : Int) by have q0 := r139_3.1; have q1 := hp122_332.2; have q2 := FF.out hq5; have q3 := FF.out hp6_338; have q4 := FF.out hp6_341; have q5 := FF.out hp122_338; have q6 := FF.out hi137_1006; have q7 := FF.out hp149_316; have q8 := FF.out ek149_321; have q9 := FF.out em153_2; omega) _) (cb_of (n := 2) hn mw_2154 mw_13 mw_2152 mhX16_and ⟨(Nat.le_of_ble_eq_true rfl), (Nat.le_of_ble_eq_true rfl)⟩) hx hb hml hown hn hK hSK hZ hS mw_2153 rfl hl.1 (Nat.le_of_ble_eq_true rfl) dX16_readRelation_153 ⟨(Nat.le_of_eq ((Nat.add_comm _ _).trans gm153_1)), (Nat.le_of_eq ((Nat.add_comm _ _).trans gm153_2))⟩) hP hD hS hA rfl rfl (by decide) (by decide) (by decide) (fun xq153_6 ux153_7 xfs153_8 H locs hpx153_9 hpexfs153_8 hP hD hS => ?_) (fun r153_3 u153_4 H locs hp153_5 hP hD hS => ?_)
            · exact hpx153_9.elim
            obtain ⟨q153_310, kc153_311, kn153_312⟩ := u153_4
            obtain ⟨hp153_313, hp153_314, hp153_315⟩ := hp153_5
            replace hp153_314 : FF (((kc153_311 : Nat) : Int) ≤ 1) := hp153_314
            replace hp153_315 : FF (((kn153_312 : Nat) : Int) ≤ 7) := hp153_315
            obtain ⟨c153_316, ec153_316⟩ : ∃ x9 : Nat, x9 = c149_320 + kc153_311 := ⟨_, rfl⟩
            have ec153_316 := FF.mk ec153_316
            have mc153_316 : FF (c153_316 ≤ MC) := FF.mk (Int.ofNat_le.mp (show ((c153_316 : Nat) : Int) ≤ ((MC : Nat) : Int) by have q0 := r139_3.1; have q1 := hp122_332.2; have q2 := FF.out hq4; have q3 := FF.out hp6_338; have q4 := FF.out hp6_341; have q5 := FF.out hp122_338; have q6 := FF.out hi137_1005; have q7 := FF.out hp149_315; have q8 := FF.out ec149_320; have q9 := FF.out hp153_314; have q10 := FF.out ec153_316; omega))
            obtain ⟨k153_317, ek153_317⟩ : ∃ x9 : Nat, x9 = k149_321 + kn153_312 := ⟨_, rfl⟩
            have ek153_317 := FF.mk ek153_317
            have mk153_317 : FF (k153_317 ≤ MS) := FF.mk (Int.ofNat_le.mp (show ((k153_317 : Nat) : Int) ≤ ((MS : Nat) : Int) by have q0 := r139_3.1; have q1 := hp122_332.2; have q2 := FF.out hq5; have q3 := FF.out hp6_338; have q4 := FF.out hp6_341; have q5 := FF.out hp122_338; have q6 := FF.out hi137_1006; have q7 := FF.out hp149_316; have q8 := FF.out ek149_321; have q9 := FF.out hp153_315; have q10 := FF.out ek153_317; omega))
            subst hp153_313
            have hP : va_P D vwCl (([(mm, .inr (16, fs2_mm122_310)), (utape, .inl (ct 1, 2000, .inl g_utape)), (ugu, .inl (ct 1, 7, .inl k_ugu122_317))] ++ [(r153_3, FT.ent (FT.two r153_3 false T149_310 j137_l3) (Z0 r153_3))]) ++ (p149_322)) _ := hP
            have hD : va_D A (([(mm, .inr (16, fs2_mm122_310)), (utape, .inl (ct 1, 2000, .inl g_utape)), (ugu, .inl (ct 1, 7, .inl k_ugu122_317))] ++ [(r153_3, FT.ent (FT.two r153_3 false T149_310 j137_l3) (Z0 r153_3))]) ++ (p149_322)) := hD
            have hP := pool_in hP
            have hD := pool_inD hD
            obtain ⟨p153_318, ep153_318⟩ : ∃ p9 : va_W, p9 = (p149_322 ++ [(r153_3, FT.ent (FT.two r153_3 false T149_310 j137_l3) (Z0 r153_3))]) := ⟨_, rfl⟩
            rw [← ep153_318] at hP hD
            have hP : va_P D vwCl ([(mm, .inr (16, fs2_mm122_310)), (utape, .inl (ct 1, 2000, .inl g_utape)), (ugu, .inl (ct 1, 7, .inl k_ugu122_317))] ++ (p153_318)) _ := hP
            have hD : va_D A ([(mm, .inr (16, fs2_mm122_310)), (utape, .inl (ct 1, 2000, .inl g_utape)), (ugu, .inl (ct 1, 7, .inl k_ugu122_317))] ++ (p153_318)) := hD
            have hk153_319 : FF ((((FT.two r153_3 false T149_310 j137_l3).sz : Nat) : Int) = ((T149_310.sz : Nat) : Int) + ((j137_l3.sz : Nat) : Int) + 1) := (FF.mk (by simp only [ST.sz_leaf, ST.sz_minus, ST.sz_group, ST.sz_acc, ST.sz_two, ST.dep_leaf, ST.dep_minus, ST.dep_group, ST.dep_acc, ST.dep_two, ST.c4_leaf, ST.c4_minus, ST.c4_group, ST.c4_acc, ST.c4_two, FT.sz_test, FT.sz_inv, FT.sz_two, FT.sz_pair, FT.dep_test, FT.dep_inv, FT.dep_two, FT.dep_pair, FT.c4_test, FT.c4_inv, FT.c4_two, FT.c4_pair]; first | omega | (rw [if_neg (by decide)]; omega) | (rw [if_pos (by decide)]; omega) | (split <;> omega) | skip))
            have hk153_320 : FF (((T149_310.dep : Nat) : Int) ≤ (((FT.two r153_3 false T149_310 j137_l3).dep : Nat) : Int)) := (FF.mk (by simp only [ST.sz_leaf, ST.sz_minus, ST.sz_group, ST.sz_acc, ST.sz_two, ST.dep_leaf, ST.dep_minus, ST.dep_group, ST.dep_acc, ST.dep_two, ST.c4_leaf, ST.c4_minus, ST.c4_group, ST.c4_acc, ST.c4_two, FT.sz_test, FT.sz_inv, FT.sz_two, FT.sz_pair, FT.dep_test, FT.dep_inv, FT.dep_two, FT.dep_pair, FT.c4_test, FT.c4_inv, FT.c4_two, FT.c4_pair]; first | omega | (rw [if_neg (by decide)]; omega) | (rw [if_pos (by decide)]; omega) | (split <;> omega) | skip))
            have hk153_321 : FF (((j137_l3.dep : Nat) : Int) ≤ (((FT.two r153_3 false T149_310 j137_l3).dep : Nat) : Int)) := (FF.mk (by simp only [ST.sz_leaf, ST.sz_minus, ST.sz_group, ST.sz_acc, ST.sz_two, ST.dep_leaf, ST.dep_minus, ST.dep_group, ST.dep_acc, ST.dep_two, ST.c4_leaf, ST.c4_minus, ST.c4_group, ST.c4_acc, ST.c4_two, FT.sz_test, FT.sz_inv, FT.sz_two, FT.sz_pair, FT.dep_test, FT.dep_inv, FT.dep_two, FT.dep_pair, FT.c4_test, FT.c4_inv, FT.c4_two, FT.c4_pair]; first | omega | (rw [if_neg (by decide)]; omega) | (rw [if_pos (by decide)]; omega) | (split <;> omega) | skip))
            have hk153_322 : FF ((((FT.two r153_3 false T149_310 j137_l3).dep : Nat) : Int) ≤ ((T149_310.dep : Nat) : Int) ∨ (((FT.two r153_3 false T149_310 j137_l3).dep : Nat) : Int) ≤ ((j137_l3.dep : Nat) : Int)) := (FF.mk (by simp only [ST.sz_leaf, ST.sz_minus, ST.sz_group, ST.sz_acc, ST.sz_two, ST.dep_leaf, ST.dep_minus, ST.dep_group, ST.dep_acc, ST.dep_two, ST.c4_leaf, ST.c4_minus, ST.c4_group, ST.c4_acc, ST.c4_two, FT.sz_test, FT.sz_inv, FT.sz_two, FT.sz_pair, FT.dep_test, FT.dep_inv, FT.dep_two, FT.dep_pair, FT.c4_test, FT.c4_inv, FT.c4_two, FT.c4_pair]; first | omega | (rw [if_neg (by decide)]; omega) | (rw [if_pos (by decide)]; omega) | (split <;> omega) | skip))
            have hk153_323 : FF ((((FT.two r153_3 false T149_310 j137_l3).c4 : Nat) : Int) = ((T149_310.c4 : Nat) : Int) + ((j137_l3.c4 : Nat) : Int)) := (FF.mk (by simp only [ST.sz_leaf, ST.sz_minus, ST.sz_group, ST.sz_acc, ST.sz_two, ST.dep_leaf, ST.dep_minus, ST.dep_group, ST.dep_acc, ST.dep_two, ST.c4_leaf, ST.c4_minus, ST.c4_group, ST.c4_acc, ST.c4_two, FT.sz_test, FT.sz_inv, FT.sz_two, FT.sz_pair, FT.dep_test, FT.dep_inv, FT.dep_two, FT.dep_pair, FT.c4_test, FT.c4_inv, FT.c4_two, FT.c4_pair]; first | omega | (rw [if_neg (by decide)]; omega) | (rw [if_pos (by decide)]; omega) | (split <;> omega) | skip))
            have hP : va_P D vwCl ([(mm, .inr (16, fs2_mm122_310)), (utape, .inl (ct 1, 2000, .inl g_utape)), (ugu, .inl (ct 1, 7, .inl k_ugu122_317))] ++ (p153_318)) _ := hP
            have hD : va_D A ([(mm, .inr (16, fs2_mm122_310)), (utape, .inl (ct 1, 2000, .inl g_utape)), (ugu, .inl (ct 1, 7, .inl k_ugu122_317))] ++ (p153_318)) := hD
            refine W.widen (k := c153_316) (n := k153_317) (Nat.le_of_eq (FF.out ec153_316).symm) (Nat.le_of_eq (FF.out ek153_317).symm) (W.eq (g2 := F0 m 156 ls [.ref r153_3]) rfl ?_)
            refine lv_astore_n (lv' := [(3, .ref r153_3), (0, .ref mm), (4, .int j137_l4)]) hx hb dX16_readRelation_156 rfl hl (by decide) rfl (fun ls hl => ?_)
            obtain ⟨x157_1, ex157_1⟩ : ∃ z : Int32, z = j137_l4 + (-1) := ⟨_, rfl⟩
            have r157_2 : rg x157_1 (-1) 4 := rg_add ex157_1 r139_3 (show rg ((-1) : Int32) (-1) (-1) from rg_l (by decide)) (by decide)
            refine lv_iinc (v := x157_1) (lv' := [(4, .int x157_1), (3, .ref r153_3), (0, .ref mm)]) hx hb dX16_readRelation_157 hl (k := 2) rfl (by rw [ex157_1]; rfl) (by decide) rfl (fun ls hl => ?_)
            refine lv_goto (tgt := 137) hx hb dX16_readRelation_160 (by decide) ?_
            have hP : va_P D vwCl ([(mm, .inr (16, fs2_mm122_310)), (utape, .inl (ct 1, 2000, .inl g_utape)), (ugu, .inl (ct 1, 7, .inl k_ugu122_317))] ++ (((FT.two r153_3 false T149_310 j137_l3).cells Z0))) _ := hP.perm (seg_perm (fun f => by have w0 := seg_sum (List.Perm.of_eq ep149_322) f; have w1 := seg_sum (List.Perm.of_eq ep153_318) f; simp only [ST.cells_leaf, ST.cells_minus, ST.cells_group, ST.cells_acc, ST.cells_two, FT.cells_two, FT.cells_inv, FT.cells_test, FT.cells_pair, List.map_append, List.sum_append, List.map_nil, List.sum_nil] at w0 w1 ⊢ <;> omega))
            have hD : va_D A ([(mm, .inr (16, fs2_mm122_310)), (utape, .inl (ct 1, 2000, .inl g_utape)), (ugu, .inl (ct 1, 7, .inl k_ugu122_317))] ++ (((FT.two r153_3 false T149_310 j137_l3).cells Z0))) := hD.perm (seg_perm (fun f => by have w0 := seg_sum (List.Perm.of_eq ep149_322) f; have w1 := seg_sum (List.Perm.of_eq ep153_318) f; simp only [ST.cells_leaf, ST.cells_minus, ST.cells_group, ST.cells_acc, ST.cells_two, FT.cells_two, FT.cells_inv, FT.cells_test, FT.cells_pair, List.map_append, List.sum_append, List.map_nil, List.sum_nil] at w0 w1 ⊢ <;> omega))
            exact ih137 c153_316 k153_317 (FT.two r153_3 false T149_310 j137_l3) x157_1 H locs ls (show ((c153_316 : Nat) : Int) ≤ ((MC : Nat) : Int) by have q0 := FF.out mc153_316; omega) (show ((k153_317 : Nat) : Int) ≤ ((MS : Nat) : Int) by have q0 := FF.out mk153_317; omega) (FT.ok_two hp149_314 ht137_1003) (rg_w r157_2 (by decide)) (show ((c153_316 : Nat) : Int) ≤ (y_mm_6122_312.toInt - x_mm_6.toInt) + 17 * (y_mm_13122_316.toInt - 1 - x157_1.toInt) by have q0 := (eq_add ex157_1 r139_3 (show rg ((-1) : Int32) (-1) (-1) from rg_l (by decide)) (by decide)); have q1 := FF.out hi137_1005; have q2 := FF.out hp149_315; have q3 := FF.out ec149_320; have q4 := FF.out hp153_314; have q5 := FF.out ec153_316; have q6 := (show (-1 : Int32).toInt = -1 from by decide); omega) (show ((k153_317 : Nat) : Int) ≤ 5 * (y_mm_6122_312.toInt - x_mm_6.toInt) + 2 + 97 * (y_mm_13122_316.toInt - 1 - x157_1.toInt) by have q0 := (eq_add ex157_1 r139_3 (show rg ((-1) : Int32) (-1) (-1) from rg_l (by decide)) (by decide)); have q1 := FF.out hi137_1006; have q2 := FF.out hp149_316; have q3 := FF.out ek149_321; have q4 := FF.out hp153_315; have q5 := FF.out ek153_317; have q6 := (show (-1 : Int32).toInt = -1 from by decide); omega) (show (((FT.two r153_3 false T149_310 j137_l3).sz : Nat) : Int) ≤ (y_mm_6122_312.toInt - x_mm_6.toInt) + 17 * (y_mm_13122_316.toInt - 1 - x157_1.toInt) by have q0 := (eq_add ex157_1 r139_3 (show rg ((-1) : Int32) (-1) (-1) from rg_l (by decide)) (by decide)); have q1 := FF.out hi137_1007; have q2 := FF.out hp149_317; have q3 := FF.out hk153_319; have q4 := (show (-1 : Int32).toInt = -1 from by decide); omega) (show 4 * (((FT.two r153_3 false T149_310 j137_l3).c4 : Nat) : Int) ≤ y_mm_6122_312.toInt - x_mm_6.toInt by have q0 := FF.out hi137_1008; have q1 := FF.out hp149_319; have q2 := FF.out hk153_323; omega) (show (((FT.two r153_3 false T149_310 j137_l3).dep : Nat) : Int) ≤ 83 by have q0 := FF.out hi137_1009; have q1 := FF.out hp149_318; have q2 := FF.out hk153_322; omega) (show x157_1.toInt < y_mm_13122_316.toInt by have q0 := (eq_add ex157_1 r139_3 (show rg ((-1) : Int32) (-1) (-1) from rg_l (by decide)) (by decide)); have q1 := FF.out hi137_1010; have q2 := (show (-1 : Int32).toInt = -1 from by decide); omega) (show -1 ≤ x157_1.toInt by have q0 := r157_2.1; omega) (show (x157_1.toInt + 1).toNat < n137 by have q0 := r139_3.1; have q1 := (eq_add ex157_1 r139_3 (show rg ((-1) : Int32) (-1) (-1) from rg_l (by decide)) (by decide)); have q2 := (show (-1 : Int32).toInt = -1 from by decide); have q3 := hms137; omega) (lv_sub hl [2, 1, 0] rfl) hP hD hS
      have hP : va_P D vwCl ([(mm, .inr (16, fs2_mm122_310)), (utape, .inl (ct 1, 2000, .inl g_utape)), (ugu, .inl (ct 1, 7, .inl k_ugu122_317))] ++ (((FT.test q115_1 T6_318 T122_318 j97_s0).cells Z0))) _ := hP.perm (seg_perm (fun f => by have w0 := seg_sum (List.Perm.of_eq ep122_354) f; have w1 := seg_sum (List.Perm.of_eq ep125_4) f; simp only [ST.cells_leaf, ST.cells_minus, ST.cells_group, ST.cells_acc, ST.cells_two, FT.cells_two, FT.cells_inv, FT.cells_test, FT.cells_pair, List.map_append, List.sum_append, List.map_nil, List.sum_nil] at w0 w1 ⊢ <;> omega))
      have hD : va_D A ([(mm, .inr (16, fs2_mm122_310)), (utape, .inl (ct 1, 2000, .inl g_utape)), (ugu, .inl (ct 1, 7, .inl k_ugu122_317))] ++ (((FT.test q115_1 T6_318 T122_318 j97_s0).cells Z0))) := hD.perm (seg_perm (fun f => by have w0 := seg_sum (List.Perm.of_eq ep122_354) f; have w1 := seg_sum (List.Perm.of_eq ep125_4) f; simp only [ST.cells_leaf, ST.cells_minus, ST.cells_group, ST.cells_acc, ST.cells_two, FT.cells_two, FT.cells_inv, FT.cells_test, FT.cells_pair, List.map_append, List.sum_append, List.map_nil, List.sum_nil] at w0 w1 ⊢ <;> omega))
      exact b137 _ c122_352 k122_353 (FT.test q115_1 T6_318 T122_318 j97_s0) z134_1 H locs ls (show ((c122_352 : Nat) : Int) ≤ ((MC : Nat) : Int) by have q0 := FF.out mc122_352; omega) (show ((k122_353 : Nat) : Int) ≤ ((MS : Nat) : Int) by have q0 := FF.out mk122_353; omega) (FT.ok_test hp6_336 hp122_336) r134_2 (show ((c122_352 : Nat) : Int) ≤ (y_mm_6122_312.toInt - x_mm_6.toInt) + 17 * (y_mm_13122_316.toInt - 1 - z134_1.toInt) by have q0 := (eq_sub ez134_1 hp122_332 (show rg (1 : Int32) 1 1 from rg_l (by decide)) (by decide)); have q1 := hp6_322.1; have q2 := r108_1001.2; have q3 := FF.out hp6_339; have q4 := FF.out hp6_342; have q5 := FF.out ec6_352; have q6 := FF.out hi108_1002; have q7 := FF.out hp108_310; have q8 := FF.out hp112_324; have q9 := FF.out ec115_2; have q10 := FF.out hp122_342; have q11 := FF.out ec122_352; have q12 := (show (1 : Int32).toInt = 1 from by decide); omega) (show ((k122_353 : Nat) : Int) ≤ 5 * (y_mm_6122_312.toInt - x_mm_6.toInt) + 2 + 97 * (y_mm_13122_316.toInt - 1 - z134_1.toInt) by have q0 := (eq_sub ez134_1 hp122_332 (show rg (1 : Int32) 1 1 from rg_l (by decide)) (by decide)); have q1 := hp6_322.1; have q2 := r108_1001.2; have q3 := FF.out hp6_339; have q4 := FF.out hp6_343; have q5 := FF.out ek6_353; have q6 := FF.out hi108_1002; have q7 := FF.out hp108_310; have q8 := FF.out hp112_324; have q9 := FF.out ek115_3; have q10 := FF.out hp122_343; have q11 := FF.out ek122_353; have q12 := (show (1 : Int32).toInt = 1 from by decide); omega) (show (((FT.test q115_1 T6_318 T122_318 j97_s0).sz : Nat) : Int) ≤ (y_mm_6122_312.toInt - x_mm_6.toInt) + 17 * (y_mm_13122_316.toInt - 1 - z134_1.toInt) by have q0 := (eq_sub ez134_1 hp122_332 (show rg (1 : Int32) 1 1 from rg_l (by decide)) (by decide)); have q1 := hp6_322.1; have q2 := r108_1001.2; have q3 := FF.out hp6_339; have q4 := FF.out hp6_344; have q5 := FF.out hi108_1002; have q6 := FF.out hp108_310; have q7 := FF.out hp112_324; have q8 := FF.out hp122_344; have q9 := FF.out hk125_5; have q10 := (show (1 : Int32).toInt = 1 from by decide); omega) (show 4 * (((FT.test q115_1 T6_318 T122_318 j97_s0).c4 : Nat) : Int) ≤ y_mm_6122_312.toInt - x_mm_6.toInt by have q0 := hp6_322.1; have q1 := r108_1001.2; have q2 := FF.out hp6_339; have q3 := FF.out hp6_345; have q4 := FF.out hi108_1002; have q5 := FF.out hp108_310; have q6 := FF.out hp112_324; have q7 := FF.out hp122_345; have q8 := FF.out hk125_9; omega) (show (((FT.test q115_1 T6_318 T122_318 j97_s0).dep : Nat) : Int) ≤ 83 by have q0 := h_x_mm_10.1; have q1 := hp6_328.1; have q2 := FF.out hp6_348; have q3 := FF.out hp122_348; have q4 := FF.out hk125_8; omega) (show z134_1.toInt < y_mm_13122_316.toInt by have q0 := (eq_sub ez134_1 hp122_332 (show rg (1 : Int32) 1 1 from rg_l (by decide)) (by decide)); have q1 := (show (1 : Int32).toInt = 1 from by decide); omega) (show -1 ≤ z134_1.toInt by have q0 := r134_2.1; omega) (Nat.lt_succ_self _) (lv_sub hl [2, 1, 0] rfl) hP hD hS
    refine lv_if_lt (tgt := 107) hx hb dX16_readRelation_100 (by decide) (fun c100_1 => ?_) (fun c100_1 => ?_)
    · have t100_2 := FF.mk (i_lt c100_1)
      have r100_3 : rg j97_s0 (-1) (-1) := rg_ltA t100_2 r97_1001 (show rg (0 : Int32) 0 0 from rg_l (by decide)) (by decide)
      refine lv_iconst (v := 0) hx hb dX16_readRelation_107 (by decide) ?_
      exact b108 (0 : Int32) H locs ls (rg_w (show rg (0 : Int32) 0 0 from rg_l (by decide)) (by decide)) (show (0 : Int32).toInt = 1 → y_mm_56_311.toInt ≠ 0 by have q0 := (show (0 : Int32).toInt = 0 from by decide); omega) (lv_sub hl [1, 2, 0] rfl) hP hD hS
    · have t100_2 := FF.mk (i_nlt c100_1)
      have r100_3 : rg j97_s0 0 11 := rg_leB t100_2 (show rg (0 : Int32) 0 0 from rg_l (by decide)) r97_1001 (by decide)
      refine lv_iconst (v := 1) hx hb dX16_readRelation_103 (by decide) ?_
      refine lv_goto (tgt := 108) hx hb dX16_readRelation_104 (by decide) ?_
      exact b108 (1 : Int32) H locs ls (rg_w (show rg (1 : Int32) 1 1 from rg_l (by decide)) (by decide)) (show (1 : Int32).toInt = 1 → y_mm_56_311.toInt ≠ 0 by have q0 := hp6_322.1; have q1 := r100_3.1; have q2 := FF.out hi97_1002; have q3 := (show (1 : Int32).toInt = 1 from by decide); omega) (lv_sub hl [1, 2, 0] rfl) hP hD hS
  refine lv_if_eq (tgt := 24) hx hb dX16_readRelation_17 (by decide) (fun c17_1 => ?_) (fun c17_1 => ?_)
  · have t17_2 := FF.mk (i_eq c17_1)
    have r17_3 : rg r14_1 0 0 := rg_eqA t17_2 hp14_4 (show rg (0 : Int32) 0 0 from rg_l (by decide)) (by decide)
    refine lv_aload_n hx hb dX16_readRelation_24 rfl (lv_at hl 1 rfl) ?_
    refine va_ldcwS (own := RX16) (tx := "!=") (index := 428) (q := (ct (100 + 47))) hx hb hown (hSK 47 (by decide)) dX16_readRelation_25 ?_
    refine gq_i (k1 := c6_352) (n1 := k6_353) (wr := [(ugu, .inl (ct 1, 7, .inl k_ugu6_317))]) [1, 2] [0] (rn_V (As := [.ref (ct (100 + 47))]) (rest := []) (c_X16_is l D ct mm 47 2 fs2_mm6_310 utape y_mm_56_311 y_mm_66_312 y_mm_76_313 g_utape ⟨by decide, rfl⟩ (hs6_351.1.trans hlen_mm) (SB.get hs6_351 (by decide) hf_mm_0) hp6_322 hp6_323 hp6_324 hp6_325 hp6_326 hp6_327 h_g_utape (show y_mm_76_313.toInt ≤ 2000 by have q0 := h_x_mm_8.2; have q1 := FF.out hp6_337; omega) (show y_mm_56_311.toInt ≠ 0 → y_mm_66_312.toInt + 1 ≤ y_mm_76_313.toInt by have q0 := hp6_322.1; have q1 := FF.out hp6_339; omega) _) (cb_of (n := 1) hn mw_1962 mw_13 mw_1959 mhX16_is ⟨(Nat.le_of_ble_eq_true rfl), (Nat.le_of_ble_eq_true rfl)⟩) hx hb hml hown hn hK hSK hZ hS mw_1961 mw_s186 (ci := 16) (q0 := 0) rfl rfl rfl rfl hl.1 (Nat.le_of_ble_eq_true rfl) dX16_readRelation_28 ⟨(FF.out mc6_352), (FF.out mk6_353)⟩) hP hD hS hA rfl rfl (by decide) (by decide) (by decide) (Nat.le_refl _) (Nat.le_refl _) (fun r28_1 u28_2 H locs hp28_3 hP hD hS => ?_)
    obtain ⟨hp28_4, hp28_5⟩ := hp28_3
    have hp28_4 : rg r28_1 0 1 := hp28_4
    replace hp28_5 : FF (r28_1.toInt = 1 → y_mm_56_311.toInt ≠ 0 ∧ y_mm_76_313.toInt - y_mm_66_312.toInt = ((2 : Nat) : Int)) := hp28_5
    have hP : va_P D vwCl ([(ugu, .inl (ct 1, 7, .inl k_ugu6_317)), (mm, .inr (16, fs2_mm6_310)), (utape, .inl (ct 1, 2000, .inl g_utape))] ++ (p6_354)) _ := hP
    have hD : va_D A ([(ugu, .inl (ct 1, 7, .inl k_ugu6_317)), (mm, .inr (16, fs2_mm6_310)), (utape, .inl (ct 1, 2000, .inl g_utape))] ++ (p6_354)) := hD
    refine lv_if_eq (tgt := 38) hx hb dX16_readRelation_31 (by decide) (fun c31_1 => ?_) (fun c31_1 => ?_)
    · have t31_2 := FF.mk (i_eq c31_1)
      have r31_3 : rg r28_1 0 0 := rg_eqA t31_2 hp28_4 (show rg (0 : Int32) 0 0 from rg_l (by decide)) (by decide)
      refine lv_aload_n hx hb dX16_readRelation_38 rfl (lv_at hl 1 rfl) ?_
      refine va_ldcwS (own := RX16) (tx := "<") (index := 430) (q := (ct (100 + 48))) hx hb hown (hSK 48 (by decide)) dX16_readRelation_39 ?_
      refine gq_i (k1 := c6_352) (n1 := k6_353) (wr := [(ugu, .inl (ct 1, 7, .inl k_ugu6_317))]) [1, 2] [0] (rn_V (As := [.ref (ct (100 + 48))]) (rest := []) (c_X16_is l D ct mm 48 1 fs2_mm6_310 utape y_mm_56_311 y_mm_66_312 y_mm_76_313 g_utape ⟨by decide, rfl⟩ (hs6_351.1.trans hlen_mm) (SB.get hs6_351 (by decide) hf_mm_0) hp6_322 hp6_323 hp6_324 hp6_325 hp6_326 hp6_327 h_g_utape (show y_mm_76_313.toInt ≤ 2000 by have q0 := h_x_mm_8.2; have q1 := FF.out hp6_337; omega) (show y_mm_56_311.toInt ≠ 0 → y_mm_66_312.toInt + 1 ≤ y_mm_76_313.toInt by have q0 := hp6_322.1; have q1 := FF.out hp6_339; omega) _) (cb_of (n := 1) hn mw_1962 mw_13 mw_1959 mhX16_is ⟨(Nat.le_of_ble_eq_true rfl), (Nat.le_of_ble_eq_true rfl)⟩) hx hb hml hown hn hK hSK hZ hS mw_1961 mw_s186 (ci := 16) (q0 := 0) rfl rfl rfl rfl hl.1 (Nat.le_of_ble_eq_true rfl) dX16_readRelation_42 ⟨(FF.out mc6_352), (FF.out mk6_353)⟩) hP hD hS hA rfl rfl (by decide) (by decide) (by decide) (Nat.le_refl _) (Nat.le_refl _) (fun r42_1 u42_2 H locs hp42_3 hP hD hS => ?_)
      obtain ⟨hp42_4, hp42_5⟩ := hp42_3
      have hp42_4 : rg r42_1 0 1 := hp42_4
      replace hp42_5 : FF (r42_1.toInt = 1 → y_mm_56_311.toInt ≠ 0 ∧ y_mm_76_313.toInt - y_mm_66_312.toInt = ((1 : Nat) : Int)) := hp42_5
      have hP : va_P D vwCl ([(ugu, .inl (ct 1, 7, .inl k_ugu6_317)), (mm, .inr (16, fs2_mm6_310)), (utape, .inl (ct 1, 2000, .inl g_utape))] ++ (p6_354)) _ := hP
      have hD : va_D A ([(ugu, .inl (ct 1, 7, .inl k_ugu6_317)), (mm, .inr (16, fs2_mm6_310)), (utape, .inl (ct 1, 2000, .inl g_utape))] ++ (p6_354)) := hD
      refine lv_if_eq (tgt := 53) hx hb dX16_readRelation_45 (by decide) (fun c45_1 => ?_) (fun c45_1 => ?_)
      · have t45_2 := FF.mk (i_eq c45_1)
        have r45_3 : rg r42_1 0 0 := rg_eqA t45_2 hp42_4 (show rg (0 : Int32) 0 0 from rg_l (by decide)) (by decide)
        refine lv_aload_n hx hb dX16_readRelation_53 rfl (lv_at hl 1 rfl) ?_
        refine va_ldcwS (own := RX16) (tx := "<=") (index := 432) (q := (ct (100 + 49))) hx hb hown (hSK 49 (by decide)) dX16_readRelation_54 ?_
        refine gq_i (k1 := c6_352) (n1 := k6_353) (wr := [(ugu, .inl (ct 1, 7, .inl k_ugu6_317))]) [1, 2] [0] (rn_V (As := [.ref (ct (100 + 49))]) (rest := []) (c_X16_is l D ct mm 49 2 fs2_mm6_310 utape y_mm_56_311 y_mm_66_312 y_mm_76_313 g_utape ⟨by decide, rfl⟩ (hs6_351.1.trans hlen_mm) (SB.get hs6_351 (by decide) hf_mm_0) hp6_322 hp6_323 hp6_324 hp6_325 hp6_326 hp6_327 h_g_utape (show y_mm_76_313.toInt ≤ 2000 by have q0 := h_x_mm_8.2; have q1 := FF.out hp6_337; omega) (show y_mm_56_311.toInt ≠ 0 → y_mm_66_312.toInt + 1 ≤ y_mm_76_313.toInt by have q0 := hp6_322.1; have q1 := FF.out hp6_339; omega) _) (cb_of (n := 1) hn mw_1962 mw_13 mw_1959 mhX16_is ⟨(Nat.le_of_ble_eq_true rfl), (Nat.le_of_ble_eq_true rfl)⟩) hx hb hml hown hn hK hSK hZ hS mw_1961 mw_s186 (ci := 16) (q0 := 0) rfl rfl rfl rfl hl.1 (Nat.le_of_ble_eq_true rfl) dX16_readRelation_57 ⟨(FF.out mc6_352), (FF.out mk6_353)⟩) hP hD hS hA rfl rfl (by decide) (by decide) (by decide) (Nat.le_refl _) (Nat.le_refl _) (fun r57_1 u57_2 H locs hp57_3 hP hD hS => ?_)
        obtain ⟨hp57_4, hp57_5⟩ := hp57_3
        have hp57_4 : rg r57_1 0 1 := hp57_4
        replace hp57_5 : FF (r57_1.toInt = 1 → y_mm_56_311.toInt ≠ 0 ∧ y_mm_76_313.toInt - y_mm_66_312.toInt = ((2 : Nat) : Int)) := hp57_5
        have hP : va_P D vwCl ([(ugu, .inl (ct 1, 7, .inl k_ugu6_317)), (mm, .inr (16, fs2_mm6_310)), (utape, .inl (ct 1, 2000, .inl g_utape))] ++ (p6_354)) _ := hP
        have hD : va_D A ([(ugu, .inl (ct 1, 7, .inl k_ugu6_317)), (mm, .inr (16, fs2_mm6_310)), (utape, .inl (ct 1, 2000, .inl g_utape))] ++ (p6_354)) := hD
        refine lv_if_eq (tgt := 68) hx hb dX16_readRelation_60 (by decide) (fun c60_1 => ?_) (fun c60_1 => ?_)
        · have t60_2 := FF.mk (i_eq c60_1)
          have r60_3 : rg r57_1 0 0 := rg_eqA t60_2 hp57_4 (show rg (0 : Int32) 0 0 from rg_l (by decide)) (by decide)
          refine lv_aload_n hx hb dX16_readRelation_68 rfl (lv_at hl 1 rfl) ?_
          refine va_ldcwS (own := RX16) (tx := ">") (index := 434) (q := (ct (100 + 50))) hx hb hown (hSK 50 (by decide)) dX16_readRelation_69 ?_
          refine gq_i (k1 := c6_352) (n1 := k6_353) (wr := [(ugu, .inl (ct 1, 7, .inl k_ugu6_317))]) [1, 2] [0] (rn_V (As := [.ref (ct (100 + 50))]) (rest := []) (c_X16_is l D ct mm 50 1 fs2_mm6_310 utape y_mm_56_311 y_mm_66_312 y_mm_76_313 g_utape ⟨by decide, rfl⟩ (hs6_351.1.trans hlen_mm) (SB.get hs6_351 (by decide) hf_mm_0) hp6_322 hp6_323 hp6_324 hp6_325 hp6_326 hp6_327 h_g_utape (show y_mm_76_313.toInt ≤ 2000 by have q0 := h_x_mm_8.2; have q1 := FF.out hp6_337; omega) (show y_mm_56_311.toInt ≠ 0 → y_mm_66_312.toInt + 1 ≤ y_mm_76_313.toInt by have q0 := hp6_322.1; have q1 := FF.out hp6_339; omega) _) (cb_of (n := 1) hn mw_1962 mw_13 mw_1959 mhX16_is ⟨(Nat.le_of_ble_eq_true rfl), (Nat.le_of_ble_eq_true rfl)⟩) hx hb hml hown hn hK hSK hZ hS mw_1961 mw_s186 (ci := 16) (q0 := 0) rfl rfl rfl rfl hl.1 (Nat.le_of_ble_eq_true rfl) dX16_readRelation_72 ⟨(FF.out mc6_352), (FF.out mk6_353)⟩) hP hD hS hA rfl rfl (by decide) (by decide) (by decide) (Nat.le_refl _) (Nat.le_refl _) (fun r72_1 u72_2 H locs hp72_3 hP hD hS => ?_)
          obtain ⟨hp72_4, hp72_5⟩ := hp72_3
          have hp72_4 : rg r72_1 0 1 := hp72_4
          replace hp72_5 : FF (r72_1.toInt = 1 → y_mm_56_311.toInt ≠ 0 ∧ y_mm_76_313.toInt - y_mm_66_312.toInt = ((1 : Nat) : Int)) := hp72_5
          have hP : va_P D vwCl ([(ugu, .inl (ct 1, 7, .inl k_ugu6_317)), (mm, .inr (16, fs2_mm6_310)), (utape, .inl (ct 1, 2000, .inl g_utape))] ++ (p6_354)) _ := hP
          have hD : va_D A ([(ugu, .inl (ct 1, 7, .inl k_ugu6_317)), (mm, .inr (16, fs2_mm6_310)), (utape, .inl (ct 1, 2000, .inl g_utape))] ++ (p6_354)) := hD
          refine lv_if_eq (tgt := 82) hx hb dX16_readRelation_75 (by decide) (fun c75_1 => ?_) (fun c75_1 => ?_)
          · have t75_2 := FF.mk (i_eq c75_1)
            have r75_3 : rg r72_1 0 0 := rg_eqA t75_2 hp72_4 (show rg (0 : Int32) 0 0 from rg_l (by decide)) (by decide)
            refine lv_aload_n hx hb dX16_readRelation_82 rfl (lv_at hl 1 rfl) ?_
            refine va_ldcwS (own := RX16) (tx := ">=") (index := 436) (q := (ct (100 + 51))) hx hb hown (hSK 51 (by decide)) dX16_readRelation_83 ?_
            refine gq_i (k1 := c6_352) (n1 := k6_353) (wr := [(ugu, .inl (ct 1, 7, .inl k_ugu6_317))]) [1, 2] [0] (rn_V (As := [.ref (ct (100 + 51))]) (rest := []) (c_X16_is l D ct mm 51 2 fs2_mm6_310 utape y_mm_56_311 y_mm_66_312 y_mm_76_313 g_utape ⟨by decide, rfl⟩ (hs6_351.1.trans hlen_mm) (SB.get hs6_351 (by decide) hf_mm_0) hp6_322 hp6_323 hp6_324 hp6_325 hp6_326 hp6_327 h_g_utape (show y_mm_76_313.toInt ≤ 2000 by have q0 := h_x_mm_8.2; have q1 := FF.out hp6_337; omega) (show y_mm_56_311.toInt ≠ 0 → y_mm_66_312.toInt + 1 ≤ y_mm_76_313.toInt by have q0 := hp6_322.1; have q1 := FF.out hp6_339; omega) _) (cb_of (n := 1) hn mw_1962 mw_13 mw_1959 mhX16_is ⟨(Nat.le_of_ble_eq_true rfl), (Nat.le_of_ble_eq_true rfl)⟩) hx hb hml hown hn hK hSK hZ hS mw_1961 mw_s186 (ci := 16) (q0 := 0) rfl rfl rfl rfl hl.1 (Nat.le_of_ble_eq_true rfl) dX16_readRelation_86 ⟨(FF.out mc6_352), (FF.out mk6_353)⟩) hP hD hS hA rfl rfl (by decide) (by decide) (by decide) (Nat.le_refl _) (Nat.le_refl _) (fun r86_1 u86_2 H locs hp86_3 hP hD hS => ?_)
            obtain ⟨hp86_4, hp86_5⟩ := hp86_3
            have hp86_4 : rg r86_1 0 1 := hp86_4
            replace hp86_5 : FF (r86_1.toInt = 1 → y_mm_56_311.toInt ≠ 0 ∧ y_mm_76_313.toInt - y_mm_66_312.toInt = ((2 : Nat) : Int)) := hp86_5
            have hP : va_P D vwCl ([(ugu, .inl (ct 1, 7, .inl k_ugu6_317)), (mm, .inr (16, fs2_mm6_310)), (utape, .inl (ct 1, 2000, .inl g_utape))] ++ (p6_354)) _ := hP
            have hD : va_D A ([(ugu, .inl (ct 1, 7, .inl k_ugu6_317)), (mm, .inr (16, fs2_mm6_310)), (utape, .inl (ct 1, 2000, .inl g_utape))] ++ (p6_354)) := hD
            refine lv_if_eq (tgt := 96) hx hb dX16_readRelation_89 (by decide) (fun c89_1 => ?_) (fun c89_1 => ?_)
            · have t89_2 := FF.mk (i_eq c89_1)
              have r89_3 : rg r86_1 0 0 := rg_eqA t89_2 hp86_4 (show rg (0 : Int32) 0 0 from rg_l (by decide)) (by decide)
              refine lv_iconst (v := (-1)) hx hb dX16_readRelation_96 (by decide) ?_
              have hP : va_P D vwCl ([(ugu, .inl (ct 1, 7, .inl k_ugu6_317)), (mm, .inr (16, fs2_mm6_310)), (utape, .inl (ct 1, 2000, .inl g_utape))] ++ ((T6_318.cells))) _ := hP.perm (seg_perm (fun f => by have w0 := seg_sum (List.Perm.of_eq ep6_354) f; simp only [ST.cells_leaf, ST.cells_minus, ST.cells_group, ST.cells_acc, ST.cells_two, FT.cells_two, FT.cells_inv, FT.cells_test, FT.cells_pair, List.map_append, List.sum_append, List.map_nil, List.sum_nil] at w0 ⊢ <;> omega))
              have hD : va_D A ([(ugu, .inl (ct 1, 7, .inl k_ugu6_317)), (mm, .inr (16, fs2_mm6_310)), (utape, .inl (ct 1, 2000, .inl g_utape))] ++ ((T6_318.cells))) := hD.perm (seg_perm (fun f => by have w0 := seg_sum (List.Perm.of_eq ep6_354) f; simp only [ST.cells_leaf, ST.cells_minus, ST.cells_group, ST.cells_acc, ST.cells_two, FT.cells_two, FT.cells_inv, FT.cells_test, FT.cells_pair, List.map_append, List.sum_append, List.map_nil, List.sum_nil] at w0 ⊢ <;> omega))
              exact b97 ((-1) : Int32) H locs ls (rg_w (show rg ((-1) : Int32) (-1) (-1) from rg_l (by decide)) (by decide)) (show (-1 : Int32).toInt ≥ 0 → y_mm_56_311.toInt ≠ 0 by have q0 := (show (-1 : Int32).toInt = -1 from by decide); omega) (lv_sub hl [1, 0] rfl) hP hD hS
            · have t89_2 := FF.mk (i_ne c89_1)
              have r89_3 : rg r86_1 1 1 := rg_neAl t89_2 hp86_4 (show rg (0 : Int32) 0 0 from rg_l (by decide)) (by decide)
              refine lv_iconst (v := 3) hx hb dX16_readRelation_92 (by decide) ?_
              refine lv_goto (tgt := 97) hx hb dX16_readRelation_93 (by decide) ?_
              have hP : va_P D vwCl ([(ugu, .inl (ct 1, 7, .inl k_ugu6_317)), (mm, .inr (16, fs2_mm6_310)), (utape, .inl (ct 1, 2000, .inl g_utape))] ++ ((T6_318.cells))) _ := hP.perm (seg_perm (fun f => by have w0 := seg_sum (List.Perm.of_eq ep6_354) f; simp only [ST.cells_leaf, ST.cells_minus, ST.cells_group, ST.cells_acc, ST.cells_two, FT.cells_two, FT.cells_inv, FT.cells_test, FT.cells_pair, List.map_append, List.sum_append, List.map_nil, List.sum_nil] at w0 ⊢ <;> omega))
              have hD : va_D A ([(ugu, .inl (ct 1, 7, .inl k_ugu6_317)), (mm, .inr (16, fs2_mm6_310)), (utape, .inl (ct 1, 2000, .inl g_utape))] ++ ((T6_318.cells))) := hD.perm (seg_perm (fun f => by have w0 := seg_sum (List.Perm.of_eq ep6_354) f; simp only [ST.cells_leaf, ST.cells_minus, ST.cells_group, ST.cells_acc, ST.cells_two, FT.cells_two, FT.cells_inv, FT.cells_test, FT.cells_pair, List.map_append, List.sum_append, List.map_nil, List.sum_nil] at w0 ⊢ <;> omega))
              exact b97 (3 : Int32) H locs ls (rg_w (show rg (3 : Int32) 3 3 from rg_l (by decide)) (by decide)) (show (3 : Int32).toInt ≥ 0 → y_mm_56_311.toInt ≠ 0 by have q0 := hp6_322.1; have q1 := r89_3.1; have q2 := r89_3.2; have q3 := FF.out hp86_5; have q4 := (show (3 : Int32).toInt = 3 from by decide); omega) (lv_sub hl [1, 0] rfl) hP hD hS
          · have t75_2 := FF.mk (i_ne c75_1)
            have r75_3 : rg r72_1 1 1 := rg_neAl t75_2 hp72_4 (show rg (0 : Int32) 0 0 from rg_l (by decide)) (by decide)
            refine lv_iconst (v := 2) hx hb dX16_readRelation_78 (by decide) ?_
            refine lv_goto (tgt := 97) hx hb dX16_readRelation_79 (by decide) ?_
            have hP : va_P D vwCl ([(ugu, .inl (ct 1, 7, .inl k_ugu6_317)), (mm, .inr (16, fs2_mm6_310)), (utape, .inl (ct 1, 2000, .inl g_utape))] ++ ((T6_318.cells))) _ := hP.perm (seg_perm (fun f => by have w0 := seg_sum (List.Perm.of_eq ep6_354) f; simp only [ST.cells_leaf, ST.cells_minus, ST.cells_group, ST.cells_acc, ST.cells_two, FT.cells_two, FT.cells_inv, FT.cells_test, FT.cells_pair, List.map_append, List.sum_append, List.map_nil, List.sum_nil] at w0 ⊢ <;> omega))
            have hD : va_D A ([(ugu, .inl (ct 1, 7, .inl k_ugu6_317)), (mm, .inr (16, fs2_mm6_310)), (utape, .inl (ct 1, 2000, .inl g_utape))] ++ ((T6_318.cells))) := hD.perm (seg_perm (fun f => by have w0 := seg_sum (List.Perm.of_eq ep6_354) f; simp only [ST.cells_leaf, ST.cells_minus, ST.cells_group, ST.cells_acc, ST.cells_two, FT.cells_two, FT.cells_inv, FT.cells_test, FT.cells_pair, List.map_append, List.sum_append, List.map_nil, List.sum_nil] at w0 ⊢ <;> omega))
            exact b97 (2 : Int32) H locs ls (rg_w (show rg (2 : Int32) 2 2 from rg_l (by decide)) (by decide)) (show (2 : Int32).toInt ≥ 0 → y_mm_56_311.toInt ≠ 0 by have q0 := hp6_322.1; have q1 := r75_3.1; have q2 := r75_3.2; have q3 := FF.out hp72_5; have q4 := (show (2 : Int32).toInt = 2 from by decide); omega) (lv_sub hl [1, 0] rfl) hP hD hS
        · have t60_2 := FF.mk (i_ne c60_1)
          have r60_3 : rg r57_1 1 1 := rg_neAl t60_2 hp57_4 (show rg (0 : Int32) 0 0 from rg_l (by decide)) (by decide)
          refine lv_bipush (v := 11) hx hb dX16_readRelation_63 (by decide) ?_
          refine lv_goto (tgt := 97) hx hb dX16_readRelation_65 (by decide) ?_
          have hP : va_P D vwCl ([(ugu, .inl (ct 1, 7, .inl k_ugu6_317)), (mm, .inr (16, fs2_mm6_310)), (utape, .inl (ct 1, 2000, .inl g_utape))] ++ ((T6_318.cells))) _ := hP.perm (seg_perm (fun f => by have w0 := seg_sum (List.Perm.of_eq ep6_354) f; simp only [ST.cells_leaf, ST.cells_minus, ST.cells_group, ST.cells_acc, ST.cells_two, FT.cells_two, FT.cells_inv, FT.cells_test, FT.cells_pair, List.map_append, List.sum_append, List.map_nil, List.sum_nil] at w0 ⊢ <;> omega))
          have hD : va_D A ([(ugu, .inl (ct 1, 7, .inl k_ugu6_317)), (mm, .inr (16, fs2_mm6_310)), (utape, .inl (ct 1, 2000, .inl g_utape))] ++ ((T6_318.cells))) := hD.perm (seg_perm (fun f => by have w0 := seg_sum (List.Perm.of_eq ep6_354) f; simp only [ST.cells_leaf, ST.cells_minus, ST.cells_group, ST.cells_acc, ST.cells_two, FT.cells_two, FT.cells_inv, FT.cells_test, FT.cells_pair, List.map_append, List.sum_append, List.map_nil, List.sum_nil] at w0 ⊢ <;> omega))
          exact b97 (11 : Int32) H locs ls (rg_w (show rg (11 : Int32) 11 11 from rg_l (by decide)) (by decide)) (show (11 : Int32).toInt ≥ 0 → y_mm_56_311.toInt ≠ 0 by have q0 := hp6_322.1; have q1 := r60_3.1; have q2 := r60_3.2; have q3 := FF.out hp57_5; have q4 := (show (11 : Int32).toInt = 11 from by decide); omega) (lv_sub hl [1, 0] rfl) hP hD hS
      · have t45_2 := FF.mk (i_ne c45_1)
        have r45_3 : rg r42_1 1 1 := rg_neAl t45_2 hp42_4 (show rg (0 : Int32) 0 0 from rg_l (by decide)) (by decide)
        refine lv_bipush (v := 10) hx hb dX16_readRelation_48 (by decide) ?_
        refine lv_goto (tgt := 97) hx hb dX16_readRelation_50 (by decide) ?_
        have hP : va_P D vwCl ([(ugu, .inl (ct 1, 7, .inl k_ugu6_317)), (mm, .inr (16, fs2_mm6_310)), (utape, .inl (ct 1, 2000, .inl g_utape))] ++ ((T6_318.cells))) _ := hP.perm (seg_perm (fun f => by have w0 := seg_sum (List.Perm.of_eq ep6_354) f; simp only [ST.cells_leaf, ST.cells_minus, ST.cells_group, ST.cells_acc, ST.cells_two, FT.cells_two, FT.cells_inv, FT.cells_test, FT.cells_pair, List.map_append, List.sum_append, List.map_nil, List.sum_nil] at w0 ⊢ <;> omega))
        have hD : va_D A ([(ugu, .inl (ct 1, 7, .inl k_ugu6_317)), (mm, .inr (16, fs2_mm6_310)), (utape, .inl (ct 1, 2000, .inl g_utape))] ++ ((T6_318.cells))) := hD.perm (seg_perm (fun f => by have w0 := seg_sum (List.Perm.of_eq ep6_354) f; simp only [ST.cells_leaf, ST.cells_minus, ST.cells_group, ST.cells_acc, ST.cells_two, FT.cells_two, FT.cells_inv, FT.cells_test, FT.cells_pair, List.map_append, List.sum_append, List.map_nil, List.sum_nil] at w0 ⊢ <;> omega))
        exact b97 (10 : Int32) H locs ls (rg_w (show rg (10 : Int32) 10 10 from rg_l (by decide)) (by decide)) (show (10 : Int32).toInt ≥ 0 → y_mm_56_311.toInt ≠ 0 by have q0 := hp6_322.1; have q1 := r45_3.1; have q2 := r45_3.2; have q3 := FF.out hp42_5; have q4 := (show (10 : Int32).toInt = 10 from by decide); omega) (lv_sub hl [1, 0] rfl) hP hD hS
    · have t31_2 := FF.mk (i_ne c31_1)
      have r31_3 : rg r28_1 1 1 := rg_neAl t31_2 hp28_4 (show rg (0 : Int32) 0 0 from rg_l (by decide)) (by decide)
      refine lv_iconst (v := 5) hx hb dX16_readRelation_34 (by decide) ?_
      refine lv_goto (tgt := 97) hx hb dX16_readRelation_35 (by decide) ?_
      have hP : va_P D vwCl ([(ugu, .inl (ct 1, 7, .inl k_ugu6_317)), (mm, .inr (16, fs2_mm6_310)), (utape, .inl (ct 1, 2000, .inl g_utape))] ++ ((T6_318.cells))) _ := hP.perm (seg_perm (fun f => by have w0 := seg_sum (List.Perm.of_eq ep6_354) f; simp only [ST.cells_leaf, ST.cells_minus, ST.cells_group, ST.cells_acc, ST.cells_two, FT.cells_two, FT.cells_inv, FT.cells_test, FT.cells_pair, List.map_append, List.sum_append, List.map_nil, List.sum_nil] at w0 ⊢ <;> omega))
      have hD : va_D A ([(ugu, .inl (ct 1, 7, .inl k_ugu6_317)), (mm, .inr (16, fs2_mm6_310)), (utape, .inl (ct 1, 2000, .inl g_utape))] ++ ((T6_318.cells))) := hD.perm (seg_perm (fun f => by have w0 := seg_sum (List.Perm.of_eq ep6_354) f; simp only [ST.cells_leaf, ST.cells_minus, ST.cells_group, ST.cells_acc, ST.cells_two, FT.cells_two, FT.cells_inv, FT.cells_test, FT.cells_pair, List.map_append, List.sum_append, List.map_nil, List.sum_nil] at w0 ⊢ <;> omega))
      exact b97 (5 : Int32) H locs ls (rg_w (show rg (5 : Int32) 5 5 from rg_l (by decide)) (by decide)) (show (5 : Int32).toInt ≥ 0 → y_mm_56_311.toInt ≠ 0 by have q0 := hp6_322.1; have q1 := r31_3.1; have q2 := r31_3.2; have q3 := FF.out hp28_5; have q4 := (show (5 : Int32).toInt = 5 from by decide); omega) (lv_sub hl [1, 0] rfl) hP hD hS
  · have t17_2 := FF.mk (i_ne c17_1)
    have r17_3 : rg r14_1 1 1 := rg_neAl t17_2 hp14_4 (show rg (0 : Int32) 0 0 from rg_l (by decide)) (by decide)
    refine lv_iconst (v := 1) hx hb dX16_readRelation_20 (by decide) ?_
    refine lv_goto (tgt := 97) hx hb dX16_readRelation_21 (by decide) ?_
    have hP : va_P D vwCl ([(ugu, .inl (ct 1, 7, .inl k_ugu6_317)), (mm, .inr (16, fs2_mm6_310)), (utape, .inl (ct 1, 2000, .inl g_utape))] ++ ((T6_318.cells))) _ := hP.perm (seg_perm (fun f => by have w0 := seg_sum (List.Perm.of_eq ep6_354) f; simp only [ST.cells_leaf, ST.cells_minus, ST.cells_group, ST.cells_acc, ST.cells_two, FT.cells_two, FT.cells_inv, FT.cells_test, FT.cells_pair, List.map_append, List.sum_append, List.map_nil, List.sum_nil] at w0 ⊢ <;> omega))
    have hD : va_D A ([(ugu, .inl (ct 1, 7, .inl k_ugu6_317)), (mm, .inr (16, fs2_mm6_310)), (utape, .inl (ct 1, 2000, .inl g_utape))] ++ ((T6_318.cells))) := hD.perm (seg_perm (fun f => by have w0 := seg_sum (List.Perm.of_eq ep6_354) f; simp only [ST.cells_leaf, ST.cells_minus, ST.cells_group, ST.cells_acc, ST.cells_two, FT.cells_two, FT.cells_inv, FT.cells_test, FT.cells_pair, List.map_append, List.sum_append, List.map_nil, List.sum_nil] at w0 ⊢ <;> omega))
    exact b97 (1 : Int32) H locs ls (rg_w (show rg (1 : Int32) 1 1 from rg_l (by decide)) (by decide)) (show (1 : Int32).toInt ≥ 0 → y_mm_56_311.toInt ≠ 0 by have q0 := hp6_322.1; have q1 := r17_3.1; have q2 := r17_3.2; have q3 := FF.out hp14_5; have q4 := (show (1 : Int32).toInt = 1 from by decide); omega) (lv_sub hl [1, 0] rfl) hP hD hS
set_option maxHeartbeats 2000000 in
theorem c_X16_readAccessed (l : Launch) (hst : l.stackTraces = false) (D : va_G) (ct : Nat → ClassId) (MC : Nat) (MS : Nat) (mm : Nat) (v0 : Int32) (fs_mm : List Value) (utape : Nat) (x_mm_5 : Int32) (x_mm_6 : Int32) (x_mm_7 : Int32) (x_mm_8 : Int32) (x_mm_10 : Int32) (x_mm_11 : Int32) (ugu : Nat) (x_mm_13 : Int32) (g_utape : Nat → Int32) (g_ugu : Nat → Int32) (h_v0 : rg v0 0 6) (hlen_mm : fs_mm.length = 78) (hf_mm_0 : fs_mm[0]? = some (.ref utape)) (h_x_mm_5 : rg x_mm_5 0 2) (hf_mm_5 : fs_mm[5]? = some (.int x_mm_5)) (h_x_mm_6 : rg x_mm_6 0 2000) (hf_mm_6 : fs_mm[6]? = some (.int x_mm_6)) (h_x_mm_7 : rg x_mm_7 0 2001) (hf_mm_7 : fs_mm[7]? = some (.int x_mm_7)) (h_x_mm_8 : rg x_mm_8 0 2000) (hf_mm_8 : fs_mm[8]? = some (.int x_mm_8)) (h_x_mm_10 : rg x_mm_10 0 2) (hf_mm_10 : fs_mm[10]? = some (.int x_mm_10)) (h_x_mm_11 : rg x_mm_11 (-1) 6) (hf_mm_11 : fs_mm[11]? = some (.int x_mm_11)) (hf_mm_12 : fs_mm[12]? = some (.ref ugu)) (h_x_mm_13 : rg x_mm_13 0 7) (hf_mm_13 : fs_mm[13]? = some (.int x_mm_13)) (h_g_utape : Rg g_utape 2000 0 255) (h_g_ugu : Rg g_ugu 7 0 6) (hq0 : x_mm_7.toInt ≤ 2000) (hq1 : x_mm_7.toInt ≤ x_mm_8.toInt) (hq2 : x_mm_6.toInt ≤ x_mm_8.toInt) (hq3 : x_mm_5.toInt ≠ 0 → x_mm_6.toInt + 1 ≤ x_mm_7.toInt) (hq4 : 17 * (x_mm_8.toInt - x_mm_6.toInt) + 120 ≤ ((MC : Nat) : Int)) (hq5 : 100 * (x_mm_8.toInt - x_mm_6.toInt) + 700 ≤ ((MS : Nat) : Int)) : KT (V := Nat) (S := List Value × Int32 × Int32 × Int32 × Int32 × Int32 × Int32 × (Nat → Int32) × FT × Nat × Nat) (SX := List Value × Int32 × Int32 × Int32 × Int32 × Int32 × (Nat → Int32)) l yX16_readAccessed cX16_readAccessed 2 (some (.object "FilterForgeModel$Filter")) 172 8146 D ct [.ref mm, .int v0] [(mm, .inr (16, fs_mm)), (utape, .inl (ct 1, 2000, .inl g_utape)), (ugu, .inl (ct 1, 7, .inl g_ugu))] MC MS (fun r : Nat => some (.ref r)) (fun (r : Nat) (u : List Value × Int32 × Int32 × Int32 × Int32 × Int32 × Int32 × (Nat → Int32) × FT × Nat × Nat) => match u with | (fs2_mm, y_mm_5, y_mm_6, y_mm_7, y_mm_10, y_mm_11, y_mm_13, k_ugu, T, kc, kn) => SB fs_mm fs2_mm [5, 6, 7, 10, 11, 13] ∧ rg y_mm_5 0 2 ∧ fs2_mm[5]? = some (.int y_mm_5) ∧ rg y_mm_6 0 2000 ∧ fs2_mm[6]? = some (.int y_mm_6) ∧ rg y_mm_7 0 2002 ∧ fs2_mm[7]? = some (.int y_mm_7) ∧ rg y_mm_10 0 2 ∧ fs2_mm[10]? = some (.int y_mm_10) ∧ rg y_mm_11 (-1) 6 ∧ fs2_mm[11]? = some (.int y_mm_11) ∧ rg y_mm_13 0 7 ∧ fs2_mm[13]? = some (.int y_mm_13) ∧ Rg k_ugu 7 0 6 ∧ r = T.root ∧ T.ok ∧ (y_mm_7.toInt ≤ x_mm_8.toInt) ∧ (y_mm_6.toInt ≤ x_mm_8.toInt) ∧ (y_mm_5.toInt ≠ 0 → y_mm_6.toInt + 1 ≤ y_mm_7.toInt) ∧ (x_mm_6.toInt ≤ y_mm_6.toInt) ∧ (((kc : Nat) : Int) ≤ 17 * (y_mm_6.toInt - x_mm_6.toInt) + 19) ∧ (((kn : Nat) : Int) ≤ 100 * (y_mm_6.toInt - x_mm_6.toInt) + 109) ∧ (((T.sz : Nat) : Int) ≤ 19 * (y_mm_6.toInt - x_mm_6.toInt) + 19) ∧ (4 * ((T.c4 : Nat) : Int) ≤ (y_mm_6.toInt - x_mm_6.toInt)) ∧ (((T.dep : Nat) : Int) ≤ 83) ∧ (y_mm_10.toInt = x_mm_10.toInt)) (fun (u : List Value × Int32 × Int32 × Int32 × Int32 × Int32 × Int32 × (Nat → Int32) × FT × Nat × Nat) => match u with | (fs2_mm, y_mm_5, y_mm_6, y_mm_7, y_mm_10, y_mm_11, y_mm_13, k_ugu, T, kc, kn) => [(mm, .inr (16, fs2_mm)), (utape, .inl (ct 1, 2000, .inl g_utape)), (ugu, .inl (ct 1, 7, .inl k_ugu))] ++ (T.cells Z0)) (fun (u : List Value × Int32 × Int32 × Int32 × Int32 × Int32 × Int32 × (Nat → Int32) × FT × Nat × Nat) => match u with | (fs2_mm, y_mm_5, y_mm_6, y_mm_7, y_mm_10, y_mm_11, y_mm_13, k_ugu, T, kc, kn) => kc) (fun (u : List Value × Int32 × Int32 × Int32 × Int32 × Int32 × Int32 × (Nat → Int32) × FT × Nat × Nat) => match u with | (fs2_mm, y_mm_5, y_mm_6, y_mm_7, y_mm_10, y_mm_11, y_mm_13, k_ugu, T, kc, kn) => kn) 15 RX15 peW (fun (u : List Value × Int32 × Int32 × Int32 × Int32 × Int32 × (Nat → Int32)) => match u with | (fs2_mm, y_mm_6, y_mm_7, y_mm_10, y_mm_11, y_mm_13, k_ugu) => SB fs_mm fs2_mm [5, 6, 7, 10, 11, 13] ∧ rg y_mm_6 0 2000 ∧ fs2_mm[6]? = some (.int y_mm_6) ∧ rg y_mm_7 0 2002 ∧ fs2_mm[7]? = some (.int y_mm_7) ∧ rg y_mm_10 0 2 ∧ fs2_mm[10]? = some (.int y_mm_10) ∧ rg y_mm_11 (-1) 6 ∧ fs2_mm[11]? = some (.int y_mm_11) ∧ rg y_mm_13 0 7 ∧ fs2_mm[13]? = some (.int y_mm_13) ∧ Rg k_ugu 7 0 6) (fun (u : List Value × Int32 × Int32 × Int32 × Int32 × Int32 × (Nat → Int32)) => match u with | (fs2_mm, y_mm_6, y_mm_7, y_mm_10, y_mm_11, y_mm_13, k_ugu) => [(mm, .inr (16, fs2_mm)), (utape, .inl (ct 1, 2000, .inl g_utape)), (ugu, .inl (ct 1, 7, .inl k_ugu))]) := by
  refine KT_of (by decide) (Nat.le_of_ble_eq_true rfl) (fun p e s m below meth c A Q C0 htab hA H locs hS hP hD hQ ls hl => ?_)
  obtain ⟨hx, hb, hr, hown, hin, hml, hlocks, hn, hK, hZ, hSK⟩ := C0
  have hl : lv_has ls 2 [(0, .ref mm), (1, .int v0)] := hl
  have hP : va_P D vwCl ([(mm, .inr (16, fs_mm)), (utape, .inl (ct 1, 2000, .inl g_utape)), (ugu, .inl (ct 1, 7, .inl g_ugu))] ++ (([] : va_W))) H := by rw [List.append_nil]; exact hP
  have hD : va_D A ([(mm, .inr (16, fs_mm)), (utape, .inl (ct 1, 2000, .inl g_utape)), (ugu, .inl (ct 1, 7, .inl g_ugu))] ++ (([] : va_W))) := by rw [List.append_nil]; exact hD
  replace hq0 := FF.mk hq0
  replace hq1 := FF.mk hq1
  replace hq2 := FF.mk hq2
  replace hq3 := FF.mk hq3
  replace hq4 := FF.mk hq4
  replace hq5 := FF.mk hq5
  refine lv_aload_n hx hb dX16_readAccessed_0 rfl (lv_at hl 0 rfl) ?_
  refine va_ldcwS (own := RX16) (tx := "[") (index := 391) (q := (ct (100 + 30))) hx hb hown (hSK 30 (by decide)) dX16_readAccessed_1 ?_
  refine gq_i (k1 := 0) (n1 := 0) (wr := [(ugu, .inl (ct 1, 7, .inl g_ugu))]) [0, 1] [2] (rn_V (As := [.ref (ct (100 + 30))]) (rest := []) (c_X16_is l D ct mm 30 1 fs_mm utape x_mm_5 x_mm_6 x_mm_7 g_utape ⟨by decide, rfl⟩ hlen_mm hf_mm_0 h_x_mm_5 hf_mm_5 h_x_mm_6 hf_mm_6 h_x_mm_7 hf_mm_7 h_g_utape (show x_mm_7.toInt ≤ 2000 by have q0 := FF.out hq0; omega) (show x_mm_5.toInt ≠ 0 → x_mm_6.toInt + 1 ≤ x_mm_7.toInt by have q0 := h_x_mm_5.1; have q1 := FF.out hq3; omega) _) (cb_of (n := 1) hn mw_1962 mw_13 mw_1959 mhX16_is ⟨(Nat.le_of_ble_eq_true rfl), (Nat.le_of_ble_eq_true rfl)⟩) hx hb hml hown hn hK hSK hZ hS mw_1961 mw_s186 (ci := 16) (q0 := 0) rfl rfl rfl rfl hl.1 (Nat.le_of_ble_eq_true rfl) dX16_readAccessed_4 ⟨(Nat.zero_le MC), (Nat.zero_le MS)⟩) hP hD hS hA rfl rfl (by decide) (by decide) (by decide) (Nat.le_refl _) (Nat.le_refl _) (fun r4_1 u4_2 H locs hp4_3 hP hD hS => ?_)
  obtain ⟨hp4_4, hp4_5⟩ := hp4_3
  have hp4_4 : rg r4_1 0 1 := hp4_4
  replace hp4_5 : FF (r4_1.toInt = 1 → x_mm_5.toInt ≠ 0 ∧ x_mm_7.toInt - x_mm_6.toInt = ((1 : Nat) : Int)) := hp4_5
  have hP : va_P D vwCl ([(ugu, .inl (ct 1, 7, .inl g_ugu)), (mm, .inr (16, fs_mm)), (utape, .inl (ct 1, 2000, .inl g_utape))] ++ (([] : va_W))) _ := hP
  have hD : va_D A ([(ugu, .inl (ct 1, 7, .inl g_ugu)), (mm, .inr (16, fs_mm)), (utape, .inl (ct 1, 2000, .inl g_utape))] ++ (([] : va_W))) := hD
  refine lv_if_eq (tgt := 20) hx hb dX16_readAccessed_7 (by decide) (fun c7_1 => ?_) (fun c7_1 => ?_)
  · have t7_2 := FF.mk (i_eq c7_1)
    have r7_3 : rg r4_1 0 0 := rg_eqA t7_2 hp4_4 (show rg (0 : Int32) 0 0 from rg_l (by decide)) (by decide)
    refine lv_iload_n hx hb dX16_readAccessed_20 rfl (lv_at hl 1 rfl) ?_
    have b39 : ∀  (H : Heap) (locs : List Loc) (ls : Array Slot), lv_has ls 2 [(0, .ref mm), (1, .int v0)] → va_P D vwCl ([(ugu, .inl (ct 1, 7, .inl g_ugu)), (mm, .inr (16, fs_mm)), (utape, .inl (ct 1, 2000, .inl g_utape))] ++ (([] : va_W))) H → va_D A ([(ugu, .inl (ct 1, 7, .inl g_ugu)), (mm, .inr (16, fs_mm)), (utape, .inl (ct 1, 2000, .inl g_utape))] ++ (([] : va_W))) → va_S A s.heap H locs → W p l e ({ frames := 172, cells := MC, slots := MS, locals := 8146 }) s m [.ref mm, .int v0].toArray below meth c H locs 0 0 Q (F0 m 39 ls []) := by
      intro  H locs ls  hl hP hD hS
      refine lv_aload_n hx hb dX16_readAccessed_39 rfl (lv_at hl 0 rfl) ?_
      refine va_ldcwS (own := RX16) (tx := "proto") (index := 393) (q := (ct (100 + 52))) hx hb hown (hSK 52 (by decide)) dX16_readAccessed_40 ?_
      obtain ⟨c43_1, ec43_1⟩ : ∃ x9 : Nat, x9 = 0 + 1 := ⟨_, rfl⟩
      have ec43_1 := FF.mk ec43_1
      have mc43_1 : FF (c43_1 ≤ MC) := FF.mk (Int.ofNat_le.mp (show ((c43_1 : Nat) : Int) ≤ ((MC : Nat) : Int) by have q0 := FF.out hq2; have q1 := FF.out hq4; have q2 := FF.out ec43_1; omega))
      obtain ⟨k43_2, ek43_2⟩ : ∃ x9 : Nat, x9 = 0 + 7 := ⟨_, rfl⟩
      have ek43_2 := FF.mk ek43_2
      have mk43_2 : FF (k43_2 ≤ MS) := FF.mk (Int.ofNat_le.mp (show ((k43_2 : Nat) : Int) ≤ ((MS : Nat) : Int) by have q0 := FF.out hq2; have q1 := FF.out hq5; have q2 := FF.out ek43_2; omega))
      refine gt_q (pl := (([] : va_W))) (wr := [(ugu, .inl (ct 1, 7, .inl g_ugu))]) [1, 2] [0] (rt_V (As := [.ref (ct (100 + 52))]) (rest := []) (c_X16_want l hst D ct mm 52 5 fs_mm utape x_mm_5 x_mm_6 x_mm_7 x_mm_8 g_utape ⟨by decide, rfl⟩ hlen_mm hf_mm_0 h_x_mm_5 hf_mm_5 h_x_mm_6 hf_mm_6 h_x_mm_7 hf_mm_7 h_x_mm_8 hf_mm_8 h_g_utape (show x_mm_7.toInt ≤ 2000 by have q0 := FF.out hq0; omega) (show x_mm_7.toInt ≤ x_mm_8.toInt by have q0 := FF.out hq1; omega) (show x_mm_6.toInt ≤ x_mm_8.toInt by have q0 := FF.out hq2; omega) (show x_mm_5.toInt ≠ 0 → x_mm_6.toInt + 1 ≤ x_mm_7.toInt by have q0 := h_x_mm_5.1; have q1 := FF.out hq3; omega) _) (cb_of (n := 1) hn mw_2007 mw_13 mw_2004 mhX16_want ⟨(Nat.le_of_ble_eq_true rfl), (Nat.le_of_ble_eq_true rfl)⟩) hx hb hml hown hn hK hSK hZ hS mw_2006 mw_s188 (ci := 16) (q0 := 0) rfl rfl rfl rfl hl.1 (Nat.le_of_ble_eq_true rfl) dX16_readAccessed_43 ⟨(Nat.le_trans (Nat.le_of_eq (FF.out ec43_1).symm) (FF.out mc43_1)), (Nat.le_trans (Nat.le_of_eq (FF.out ek43_2).symm) (FF.out mk43_2))⟩) hP hD hS hA rfl rfl (by decide) (by decide) (by decide) (fun xq43_6 ux43_7 xfs43_8 H locs hpx43_9 hpexfs43_8 hP hD hS => ?_) (fun r43_3 u43_4 H locs hp43_5 hP hD hS => ?_)
      · obtain ⟨fs2_mm43_10, y_mm_643_11⟩ := ux43_7
        obtain ⟨hp43_12, hp43_13, hp43_14, hp43_15⟩ := hpx43_9
        have hs43_16 : SB fs_mm fs2_mm43_10 [5, 6, 7, 10, 11, 13] := SB.trans (SB.rf _ _) hp43_12 (by decide)
        have hf43_17 : fs2_mm43_10[10]? = some (.int x_mm_10) := SB.get hp43_12 (by decide) hf_mm_10
        have hf43_18 : fs2_mm43_10[11]? = some (.int x_mm_11) := SB.get hp43_12 (by decide) hf_mm_11
        have hf43_19 : fs2_mm43_10[13]? = some (.int x_mm_13) := SB.get hp43_12 (by decide) hf_mm_13
        have hp43_13 : rg y_mm_643_11 0 2000 := hp43_13
        have hP : va_P D vwCl [(ugu, .inl (ct 1, 7, .inl g_ugu)), (mm, .inr (16, fs2_mm43_10)), (utape, .inl (ct 1, 2000, .inl g_utape)), (xq43_6, .inr (15, xfs43_8))] _ := hP
        have hD : va_D A [(ugu, .inl (ct 1, 7, .inl g_ugu)), (mm, .inr (16, fs2_mm43_10)), (utape, .inl (ct 1, 2000, .inl g_utape)), (xq43_6, .inr (15, xfs43_8))] := hD
        refine vx_widen (k := c43_1) (n := k43_2) (Nat.le_of_eq (FF.out ec43_1).symm) (Nat.le_of_eq (FF.out ek43_2).symm) ?_
        exact xo hQ htab hlocks hK rfl hP hD hS (fs2_mm43_10, y_mm_643_11, x_mm_7, x_mm_10, x_mm_11, x_mm_13, g_ugu) (fs := xfs43_8) ⟨hs43_16, hp43_13, hp43_14, (rg_w h_x_mm_7 (by decide)), hp43_15, h_x_mm_10, hf43_17, h_x_mm_11, hf43_18, h_x_mm_13, hf43_19, h_g_ugu⟩ hpexfs43_8 [1, 2, 0, 3] (by decide) rfl (kq := 3) rfl (FF.out mc43_1) (FF.out mk43_2)
      obtain ⟨fs2_mm43_310, y_mm_543_311, y_mm_643_312, y_mm_743_313⟩ := u43_4
      obtain ⟨hp43_314, hp43_315, hp43_316, hp43_317, hp43_318, hp43_319, hp43_320, hp43_321, hp43_322, hp43_323, hp43_324, hp43_325⟩ := hp43_5
      have hs43_326 : SB fs_mm fs2_mm43_310 [5, 6, 7, 10, 11, 13] := SB.trans (SB.rf _ _) hp43_314 (by decide)
      have hf43_327 : fs2_mm43_310[10]? = some (.int x_mm_10) := SB.get hp43_314 (by decide) hf_mm_10
      have hf43_328 : fs2_mm43_310[11]? = some (.int x_mm_11) := SB.get hp43_314 (by decide) hf_mm_11
      have hf43_329 : fs2_mm43_310[13]? = some (.int x_mm_13) := SB.get hp43_314 (by decide) hf_mm_13
      have hp43_315 : rg y_mm_543_311 0 2 := hp43_315
      have hp43_317 : rg y_mm_643_312 0 2000 := hp43_317
      have hp43_319 : rg y_mm_743_313 0 2002 := hp43_319
      replace hp43_321 : FF (y_mm_743_313.toInt ≤ x_mm_8.toInt) := hp43_321
      replace hp43_322 : FF (y_mm_643_312.toInt ≤ x_mm_8.toInt) := hp43_322
      replace hp43_323 : FF (y_mm_543_311.toInt ≠ 0 → y_mm_643_312.toInt + 1 ≤ y_mm_743_313.toInt) := hp43_323
      replace hp43_324 : FF (x_mm_7.toInt ≤ y_mm_643_312.toInt) := hp43_324
      replace hp43_325 : FF (x_mm_5.toInt ≠ 0 ∧ x_mm_7.toInt - x_mm_6.toInt = ((5 : Nat) : Int)) := hp43_325
      have hP : va_P D vwCl ([(ugu, .inl (ct 1, 7, .inl g_ugu)), (mm, .inr (16, fs2_mm43_310)), (utape, .inl (ct 1, 2000, .inl g_utape))] ++ (([] : va_W))) _ := hP
      have hD : va_D A ([(ugu, .inl (ct 1, 7, .inl g_ugu)), (mm, .inr (16, fs2_mm43_310)), (utape, .inl (ct 1, 2000, .inl g_utape))] ++ (([] : va_W))) := hD
      refine W.widen (k := 0) (n := 0) (Nat.le_refl _) (Nat.le_refl _) (W.eq (g2 := F0 m 46 ls []) rfl ?_)
      refine lv_iload_n hx hb dX16_readAccessed_46 rfl (lv_at hl 1 rfl) ?_
      refine lv_if_ne (tgt := 64) hx hb dX16_readAccessed_47 (by decide) (fun c47_1 => ?_) (fun c47_1 => ?_)
      · have t47_2 := FF.mk (i_ne c47_1)
        have r47_3 : rg v0 1 6 := rg_neAl t47_2 h_v0 (show rg (0 : Int32) 0 0 from rg_l (by decide)) (by decide)
        refine lv_ldc2 (v := 2048) hx hb hown (hn.get mw_2127 rfl) dX16_readAccessed_64 ?_
        obtain ⟨m67_1, gm67_1⟩ : ∃ m9 : Nat, m9 + 0 = MC := ⟨MC - 0, Nat.sub_add_cancel (Nat.zero_le MC)⟩
        have em67_1 := FF.mk gm67_1
        obtain ⟨m67_2, gm67_2⟩ : ∃ m9 : Nat, m9 + 0 = MS := ⟨MS - 0, Nat.sub_add_cancel (Nat.zero_le MS)⟩
        have em67_2 := FF.mk gm67_2
        refine gt_q (pl := (([] : va_W))) (wr := [(ugu, .inl (ct 1, 7, .inl g_ugu)), (mm, .inr (16, fs2_mm43_310)), (utape, .inl (ct 1, 2000, .inl g_utape))]) [] [0, 1, 2] (rt_S (As := [.long 2048]) (rest := []) (c_X16_ether l hst D ct m67_1 m67_2 (2048 : Int64) (show 4 ≤ ((m67_1 : Nat) : Int) by have q0 := FF.out hq1; have q1 := FF.out hq4; have q2 := FF.out hp43_325; have q3 := FF.out em67_1; omega) (show 22 ≤ ((m67_2 : Nat) : Int) by have q0 := FF.out hq1; have q1 := FF.out hq5; have q2 := FF.out hp43_325; have q3 := FF.out em67_2; omega) _) (cb_of (n := 1) hn mw_2132 mw_13 mw_2130 mhX16_ether ⟨(Nat.le_of_ble_eq_true rfl), (Nat.le_of_ble_eq_true rfl)⟩) hx hb hml hown hn hK hSK hZ hS mw_2131 rfl hl.1 (Nat.le_of_ble_eq_true rfl) dX16_readAccessed_67 ⟨(Nat.le_of_eq ((Nat.add_comm _ _).trans gm67_1)), (Nat.le_of_eq ((Nat.add_comm _ _).trans gm67_2))⟩) hP hD hS hA rfl rfl (by decide) (by decide) (by decide) (fun xq67_6 ux67_7 xfs67_8 H locs hpx67_9 hpexfs67_8 hP hD hS => ?_) (fun r67_3 u67_4 H locs hp67_5 hP hD hS => ?_)
        · exact hpx67_9.elim
        obtain ⟨T67_310, kc67_311, kn67_312⟩ := u67_4
        obtain ⟨hp67_313, hp67_314, hp67_315, hp67_316, hp67_317, hp67_318, hp67_319⟩ := hp67_5
        subst hp67_313
        replace hp67_315 : FF (((kc67_311 : Nat) : Int) ≤ 4) := hp67_315
        replace hp67_316 : FF (((kn67_312 : Nat) : Int) ≤ 22) := hp67_316
        replace hp67_317 : FF (((T67_310.sz : Nat) : Int) ≤ 4) := hp67_317
        replace hp67_318 : FF (((T67_310.dep : Nat) : Int) ≤ 1) := hp67_318
        replace hp67_319 : FF (((T67_310.c4 : Nat) : Int) ≤ 0) := hp67_319
        obtain ⟨c67_320, ec67_320⟩ : ∃ x9 : Nat, x9 = 0 + kc67_311 := ⟨_, rfl⟩
        have ec67_320 := FF.mk ec67_320
        have mc67_320 : FF (c67_320 ≤ MC) := FF.mk (Int.ofNat_le.mp (show ((c67_320 : Nat) : Int) ≤ ((MC : Nat) : Int) by have q0 := FF.out hq1; have q1 := FF.out hq4; have q2 := FF.out hp43_325; have q3 := FF.out hp67_315; have q4 := FF.out ec67_320; omega))
        obtain ⟨k67_321, ek67_321⟩ : ∃ x9 : Nat, x9 = 0 + kn67_312 := ⟨_, rfl⟩
        have ek67_321 := FF.mk ek67_321
        have mk67_321 : FF (k67_321 ≤ MS) := FF.mk (Int.ofNat_le.mp (show ((k67_321 : Nat) : Int) ≤ ((MS : Nat) : Int) by have q0 := FF.out hq1; have q1 := FF.out hq5; have q2 := FF.out hp43_325; have q3 := FF.out hp67_316; have q4 := FF.out ek67_321; omega))
        have hP : va_P D vwCl (([(ugu, .inl (ct 1, 7, .inl g_ugu)), (mm, .inr (16, fs2_mm43_310)), (utape, .inl (ct 1, 2000, .inl g_utape))] ++ (T67_310.cells Z0)) ++ (([] : va_W))) _ := hP
        have hD : va_D A (([(ugu, .inl (ct 1, 7, .inl g_ugu)), (mm, .inr (16, fs2_mm43_310)), (utape, .inl (ct 1, 2000, .inl g_utape))] ++ (T67_310.cells Z0)) ++ (([] : va_W))) := hD
        have hP := pool_in hP
        have hD := pool_inD hD
        obtain ⟨p67_322, ep67_322⟩ : ∃ p9 : va_W, p9 = (([] : va_W) ++ (T67_310.cells Z0)) := ⟨_, rfl⟩
        rw [← ep67_322] at hP hD
        have hk67_323 : FF (0 ≤ ((T67_310.sz : Nat) : Int)) := Int.natCast_nonneg _
        have hk67_324 : FF (0 ≤ ((T67_310.dep : Nat) : Int)) := Int.natCast_nonneg _
        have hk67_325 : FF (0 ≤ ((T67_310.c4 : Nat) : Int)) := Int.natCast_nonneg _
        have hP : va_P D vwCl ([(ugu, .inl (ct 1, 7, .inl g_ugu)), (mm, .inr (16, fs2_mm43_310)), (utape, .inl (ct 1, 2000, .inl g_utape))] ++ (p67_322)) _ := hP
        have hD : va_D A ([(ugu, .inl (ct 1, 7, .inl g_ugu)), (mm, .inr (16, fs2_mm43_310)), (utape, .inl (ct 1, 2000, .inl g_utape))] ++ (p67_322)) := hD
        refine W.widen (k := c67_320) (n := k67_321) (Nat.le_of_eq (FF.out ec67_320).symm) (Nat.le_of_eq (FF.out ek67_321).symm) (W.eq (g2 := F0 m 70 ls [.ref T67_310.root]) rfl ?_)
        refine lv_ldc2 (v := 23) hx hb hown (hn.get mw_2140 rfl) dX16_readAccessed_70 ?_
        refine lv_aload_n hx hb dX16_readAccessed_73 rfl (lv_at hl 0 rfl) ?_
        refine lv_lconst (v := 0) hx hb dX16_readAccessed_74 (by decide) ?_
        refine lv_ldc2 (v := 255) hx hb hown (hn.get mw_2157 rfl) dX16_readAccessed_75 ?_
        obtain ⟨c78_1, ec78_1⟩ : ∃ x9 : Nat, x9 = c67_320 + 1 := ⟨_, rfl⟩
        have ec78_1 := FF.mk ec78_1
        have mc78_1 : FF (c78_1 ≤ MC) := FF.mk (Int.ofNat_le.mp (show ((c78_1 : Nat) : Int) ≤ ((MC : Nat) : Int) by have q0 := FF.out hq1; have q1 := FF.out hq4; have q2 := FF.out hp43_325; have q3 := FF.out hp67_315; have q4 := FF.out ec67_320; have q5 := FF.out ec78_1; omega))
        obtain ⟨k78_2, ek78_2⟩ : ∃ x9 : Nat, x9 = k67_321 + 7 := ⟨_, rfl⟩
        have ek78_2 := FF.mk ek78_2
        have mk78_2 : FF (k78_2 ≤ MS) := FF.mk (Int.ofNat_le.mp (show ((k78_2 : Nat) : Int) ≤ ((MS : Nat) : Int) by have q0 := FF.out hq1; have q1 := FF.out hq5; have q2 := FF.out hp43_325; have q3 := FF.out hp67_316; have q4 := FF.out ek67_321; have q5 := FF.out ek78_2; omega))
        refine gt_q (pl := (p67_322)) (wr := [(ugu, .inl (ct 1, 7, .inl g_ugu))]) [1, 2] [0] (rt_V (As := [.long 0, .long 255]) (rest := [.long 23, .ref T67_310.root]) (c_X16_wantNumber l hst D ct mm (0 : Int64) (255 : Int64) fs2_mm43_310 utape y_mm_543_311 y_mm_643_312 y_mm_743_313 x_mm_8 g_utape (rl_w (show rl (0 : Int64) 0 0 from rl_l (by decide)) (by decide)) (rl_w (show rl (255 : Int64) 255 255 from rl_l (by decide)) (by decide)) (hs43_326.1.trans hlen_mm) (SB.get hs43_326 (by decide) hf_mm_0) hp43_315 hp43_316 hp43_317 hp43_318 (rg_of (show 0 ≤ y_mm_743_313.toInt ∧ y_mm_743_313.toInt ≤ 2001 by have q0 := hp43_319.1; have q1 := h_x_mm_8.2; have q2 := FF.out hp43_321; omega)) hp43_320 h_x_mm_8 (SB.get hs43_326 (by decide) hf_mm_8) h_g_utape (show y_mm_743_313.toInt ≤ 2000 by have q0 := h_x_mm_8.2; have q1 := FF.out hp43_321; omega) (show y_mm_743_313.toInt ≤ x_mm_8.toInt by have q0 := FF.out hp43_321; omega) (show y_mm_643_312.toInt ≤ x_mm_8.toInt by have q0 := FF.out hp43_322; omega) (show y_mm_543_311.toInt ≠ 0 → y_mm_643_312.toInt + 1 ≤ y_mm_743_313.toInt by have q0 := hp43_315.1; have q1 := FF.out hp43_323; omega) _) (cb_of (n := 2) hn mw_2077 mw_13 mw_2074 mhX16_wantNumber ⟨(Nat.le_of_ble_eq_true rfl), (Nat.le_of_ble_eq_true rfl)⟩) hx hb hml hown hn hK hSK hZ hS mw_2076 mw_s196 (ci := 16) (q0 := 0) rfl rfl rfl rfl hl.1 (Nat.le_of_ble_eq_true rfl) dX16_readAccessed_78 ⟨(Nat.le_trans (Nat.le_of_eq (FF.out ec78_1).symm) (FF.out mc78_1)), (Nat.le_trans (Nat.le_of_eq (FF.out ek78_2).symm) (FF.out mk78_2))⟩) hP hD hS hA rfl rfl (by decide) (by decide) (by decide) (fun xq78_6 ux78_7 xfs78_8 H locs hpx78_9 hpexfs78_8 hP hD hS => ?_) (fun r78_3 u78_4 H locs hp78_5 hP hD hS => ?_)
        · obtain ⟨fs2_mm78_10, y_mm_678_11⟩ := ux78_7
          obtain ⟨hp78_12, hp78_13, hp78_14, hp78_15⟩ := hpx78_9
          have hs78_16 : SB fs_mm fs2_mm78_10 [5, 6, 7, 10, 11, 13] := SB.trans hs43_326 hp78_12 (by decide)
          have hf78_17 : fs2_mm78_10[10]? = some (.int x_mm_10) := SB.get hp78_12 (by decide) hf43_327
          have hf78_18 : fs2_mm78_10[11]? = some (.int x_mm_11) := SB.get hp78_12 (by decide) hf43_328
          have hf78_19 : fs2_mm78_10[13]? = some (.int x_mm_13) := SB.get hp78_12 (by decide) hf43_329
          have hp78_13 : rg y_mm_678_11 0 2000 := hp78_13
          have hP : va_P D vwCl [(ugu, .inl (ct 1, 7, .inl g_ugu)), (mm, .inr (16, fs2_mm78_10)), (utape, .inl (ct 1, 2000, .inl g_utape)), (xq78_6, .inr (15, xfs78_8))] _ := hP
          have hD : va_D A [(ugu, .inl (ct 1, 7, .inl g_ugu)), (mm, .inr (16, fs2_mm78_10)), (utape, .inl (ct 1, 2000, .inl g_utape)), (xq78_6, .inr (15, xfs78_8))] := hD
          refine vx_widen (k := c78_1) (n := k78_2) (Nat.le_of_eq (FF.out ec78_1).symm) (Nat.le_of_eq (FF.out ek78_2).symm) ?_
          exact xo hQ htab hlocks hK rfl hP hD hS (fs2_mm78_10, y_mm_678_11, y_mm_743_313, x_mm_10, x_mm_11, x_mm_13, g_ugu) (fs := xfs78_8) ⟨hs78_16, hp78_13, hp78_14, hp43_319, hp78_15, h_x_mm_10, hf78_17, h_x_mm_11, hf78_18, h_x_mm_13, hf78_19, h_g_ugu⟩ hpexfs78_8 [1, 2, 0, 3] (by decide) rfl (kq := 3) rfl (FF.out mc78_1) (FF.out mk78_2)
        obtain ⟨fs2_mm78_310, y_mm_578_311, y_mm_678_312, y_mm_778_313⟩ := u78_4
        obtain ⟨hp78_314, hp78_315, hp78_316, hp78_317, hp78_318, hp78_319, hp78_320, hp78_321, hp78_322, hp78_323, hp78_324, hp78_325, hp78_326, hp78_327⟩ := hp78_5
        have hs78_328 : SB fs_mm fs2_mm78_310 [5, 6, 7, 10, 11, 13] := SB.trans hs43_326 hp78_315 (by decide)
        have hf78_329 : fs2_mm78_310[10]? = some (.int x_mm_10) := SB.get hp78_315 (by decide) hf43_327
        have hf78_330 : fs2_mm78_310[11]? = some (.int x_mm_11) := SB.get hp78_315 (by decide) hf43_328
        have hf78_331 : fs2_mm78_310[13]? = some (.int x_mm_13) := SB.get hp78_315 (by decide) hf43_329
        have hp78_314 : rl r78_3 (-1) 4294967295 := hp78_314
        have hp78_316 : rg y_mm_578_311 0 2 := hp78_316
        have hp78_318 : rg y_mm_678_312 0 2000 := hp78_318
        have hp78_320 : rg y_mm_778_313 0 2002 := hp78_320
        replace hp78_322 : FF (y_mm_778_313.toInt ≤ x_mm_8.toInt) := hp78_322
        replace hp78_323 : FF (y_mm_678_312.toInt ≤ x_mm_8.toInt) := hp78_323
        replace hp78_324 : FF (y_mm_578_311.toInt ≠ 0 → y_mm_678_312.toInt + 1 ≤ y_mm_778_313.toInt) := hp78_324
        replace hp78_325 : FF (y_mm_743_313.toInt ≤ y_mm_678_312.toInt) := hp78_325
        replace hp78_326 : FF ((0 : Int64).toInt ≤ r78_3.toInt ∧ r78_3.toInt ≤ (255 : Int64).toInt) := hp78_326
        replace hp78_327 : FF (y_mm_543_311.toInt ≠ 0) := hp78_327
        have hP : va_P D vwCl ([(ugu, .inl (ct 1, 7, .inl g_ugu)), (mm, .inr (16, fs2_mm78_310)), (utape, .inl (ct 1, 2000, .inl g_utape))] ++ (p67_322)) _ := hP
        have hD : va_D A ([(ugu, .inl (ct 1, 7, .inl g_ugu)), (mm, .inr (16, fs2_mm78_310)), (utape, .inl (ct 1, 2000, .inl g_utape))] ++ (p67_322)) := hD
        refine W.widen (k := c67_320) (n := k67_321) (Nat.le_refl _) (Nat.le_refl _) (W.eq (g2 := F0 m 81 ls [.long r78_3, .long 23, .ref T67_310.root]) rfl ?_)
        obtain ⟨m81_1, gm81_1⟩ : ∃ m9 : Nat, m9 + c67_320 = MC := ⟨MC - c67_320, Nat.sub_add_cancel (FF.out mc67_320)⟩
        have em81_1 := FF.mk gm81_1
        obtain ⟨m81_2, gm81_2⟩ : ∃ m9 : Nat, m9 + k67_321 = MS := ⟨MS - k67_321, Nat.sub_add_cancel (FF.out mk67_321)⟩
        have em81_2 := FF.mk gm81_2
        refine gt_q (pl := (p67_322)) (wr := [(ugu, .inl (ct 1, 7, .inl g_ugu)), (mm, .inr (16, fs2_mm78_310)), (utape, .inl (ct 1, 2000, .inl g_utape))]) [] [0, 1, 2] (rt_S (As := [.long 23, .long r78_3]) (rest := [.ref T67_310.root]) (c_X16_byteIs l hst D ct m81_1 m81_2 (23 : Int64) r78_3 (show 4 ≤ ((m81_1 : Nat) : Int) by have q0 := FF.out hq1; have q1 := FF.out hq4; have q2 := FF.out hp43_325; have q3 := FF.out hp67_315; have q4 := FF.out ec67_320; have q5 := FF.out em81_1; omega) (show 22 ≤ ((m81_2 : Nat) : Int) by have q0 := FF.out hq1; have q1 := FF.out hq5; have q2 := FF.out hp43_325; have q3 := FF.out hp67_316; have q4 := FF.out ek67_321; have q5 := FF.out em81_2; omega) _) (cb_of (n := 2) hn mw_2145 mw_13 mw_2143 mhX16_byteIs ⟨(Nat.le_of_ble_eq_true rfl), (Nat.le_of_ble_eq_true rfl)⟩) hx hb hml hown hn hK hSK hZ hS mw_2144 rfl hl.1 (Nat.le_of_ble_eq_true rfl) dX16_readAccessed_81 ⟨(Nat.le_of_eq ((Nat.add_comm _ _).trans gm81_1)), (Nat.le_of_eq ((Nat.add_comm _ _).trans gm81_2))⟩) hP hD hS hA rfl rfl (by decide) (by decide) (by decide) (fun xq81_6 ux81_7 xfs81_8 H locs hpx81_9 hpexfs81_8 hP hD hS => ?_) (fun r81_3 u81_4 H locs hp81_5 hP hD hS => ?_)
        · exact hpx81_9.elim
        obtain ⟨T81_310, kc81_311, kn81_312⟩ := u81_4
        obtain ⟨hp81_313, hp81_314, hp81_315, hp81_316, hp81_317, hp81_318, hp81_319⟩ := hp81_5
        subst hp81_313
        replace hp81_315 : FF (((kc81_311 : Nat) : Int) ≤ 4) := hp81_315
        replace hp81_316 : FF (((kn81_312 : Nat) : Int) ≤ 22) := hp81_316
        replace hp81_317 : FF (((T81_310.sz : Nat) : Int) ≤ 4) := hp81_317
        replace hp81_318 : FF (((T81_310.dep : Nat) : Int) ≤ 1) := hp81_318
        replace hp81_319 : FF (((T81_310.c4 : Nat) : Int) ≤ 0) := hp81_319
        obtain ⟨c81_320, ec81_320⟩ : ∃ x9 : Nat, x9 = c67_320 + kc81_311 := ⟨_, rfl⟩
        have ec81_320 := FF.mk ec81_320
        have mc81_320 : FF (c81_320 ≤ MC) := FF.mk (Int.ofNat_le.mp (show ((c81_320 : Nat) : Int) ≤ ((MC : Nat) : Int) by have q0 := FF.out hq1; have q1 := FF.out hq4; have q2 := FF.out hp43_325; have q3 := FF.out hp67_315; have q4 := FF.out ec67_320; have q5 := FF.out hp81_315; have q6 := FF.out ec81_320; omega))
        obtain ⟨k81_321, ek81_321⟩ : ∃ x9 : Nat, x9 = k67_321 + kn81_312 := ⟨_, rfl⟩
        have ek81_321 := FF.mk ek81_321
        have mk81_321 : FF (k81_321 ≤ MS) := FF.mk (Int.ofNat_le.mp (show ((k81_321 : Nat) : Int) ≤ ((MS : Nat) : Int) by have q0 := FF.out hq1; have q1 := FF.out hq5; have q2 := FF.out hp43_325; have q3 := FF.out hp67_316; have q4 := FF.out ek67_321; have q5 := FF.out hp81_316; have q6 := FF.out ek81_321; omega))
        have hP : va_P D vwCl (([(ugu, .inl (ct 1, 7, .inl g_ugu)), (mm, .inr (16, fs2_mm78_310)), (utape, .inl (ct 1, 2000, .inl g_utape))] ++ (T81_310.cells Z0)) ++ (p67_322)) _ := hP
        have hD : va_D A (([(ugu, .inl (ct 1, 7, .inl g_ugu)), (mm, .inr (16, fs2_mm78_310)), (utape, .inl (ct 1, 2000, .inl g_utape))] ++ (T81_310.cells Z0)) ++ (p67_322)) := hD
        have hP := pool_in hP
        have hD := pool_inD hD
        obtain ⟨p81_322, ep81_322⟩ : ∃ p9 : va_W, p9 = (p67_322 ++ (T81_310.cells Z0)) := ⟨_, rfl⟩
        rw [← ep81_322] at hP hD
        have hk81_323 : FF (0 ≤ ((T81_310.sz : Nat) : Int)) := Int.natCast_nonneg _
        have hk81_324 : FF (0 ≤ ((T81_310.dep : Nat) : Int)) := Int.natCast_nonneg _
        have hk81_325 : FF (0 ≤ ((T81_310.c4 : Nat) : Int)) := Int.natCast_nonneg _
        have hP : va_P D vwCl ([(ugu, .inl (ct 1, 7, .inl g_ugu)), (mm, .inr (16, fs2_mm78_310)), (utape, .inl (ct 1, 2000, .inl g_utape))] ++ (p81_322)) _ := hP
        have hD : va_D A ([(ugu, .inl (ct 1, 7, .inl g_ugu)), (mm, .inr (16, fs2_mm78_310)), (utape, .inl (ct 1, 2000, .inl g_utape))] ++ (p81_322)) := hD
        refine W.widen (k := c81_320) (n := k81_321) (Nat.le_of_eq (FF.out ec81_320).symm) (Nat.le_of_eq (FF.out ek81_321).symm) (W.eq (g2 := F0 m 84 ls [.ref T81_310.root, .ref T67_310.root]) rfl ?_)
        obtain ⟨m84_1, gm84_1⟩ : ∃ m9 : Nat, m9 + c81_320 = MC := ⟨MC - c81_320, Nat.sub_add_cancel (FF.out mc81_320)⟩
        have em84_1 := FF.mk gm84_1
        obtain ⟨m84_2, gm84_2⟩ : ∃ m9 : Nat, m9 + k81_321 = MS := ⟨MS - k81_321, Nat.sub_add_cancel (FF.out mk81_321)⟩
        have em84_2 := FF.mk gm84_2
        refine gt_q (pl := (p81_322)) (wr := [(ugu, .inl (ct 1, 7, .inl g_ugu)), (mm, .inr (16, fs2_mm78_310)), (utape, .inl (ct 1, 2000, .inl g_utape))]) [] [0, 1, 2] (rt_S (As := [.ref T67_310.root, .ref T81_310.root]) (rest := []) (c_X16_and_e l hst D ct m84_1 m84_2 T67_310 T81_310 hp67_314 hp81_314 (show 1 ≤ ((m84_1 : Nat) : Int) by have q0 := FF.out hq1; have q1 := FF.out hq4; have q2 := FF.out hp43_325; have q3 := FF.out hp67_315; have q4 := FF.out ec67_320; have q5 := FF.out hp81_315; have q6 := FF.out ec81_320; have q7 := FF.out em84_1; omega) (show 7 ≤ ((m84_2 : Nat) : Int) by have q0 := FF.out hq1; have q1 := FF.out hq5; have q2 := FF.out hp43_325; have q3 := FF.out hp67_316; have q4 := FF.out ek67_321; have q5 := FF.out hp81_316; have q6 := FF.out ek81_321; have q7 := FF.out em84_2; omega) _) (cb_of (n := 2) hn mw_2154 mw_13 mw_2152 mhX16_and ⟨(Nat.le_of_ble_eq_true rfl), (Nat.le_of_ble_eq_true rfl)⟩) hx hb hml hown hn hK hSK hZ hS mw_2153 rfl hl.1 (Nat.le_of_ble_eq_true rfl) dX16_readAccessed_84 ⟨(Nat.le_of_eq ((Nat.add_comm _ _).trans gm84_1)), (Nat.le_of_eq ((Nat.add_comm _ _).trans gm84_2))⟩) hP hD hS hA rfl rfl (by decide) (by decide) (by decide) (fun xq84_6 ux84_7 xfs84_8 H locs hpx84_9 hpexfs84_8 hP hD hS => ?_) (fun r84_3 u84_4 H locs hp84_5 hP hD hS => ?_)
        · exact hpx84_9.elim
        obtain ⟨T84_310, nw84_311, kc84_312, kn84_313⟩ := u84_4
        obtain ⟨hp84_314, hp84_315, hp84_316, hp84_317, hp84_318, hp84_319, hp84_320, hp84_321⟩ := hp84_5
        subst hp84_314
        replace hp84_317 : FF (((kc84_312 : Nat) : Int) ≤ 1) := hp84_317
        replace hp84_318 : FF (((kn84_313 : Nat) : Int) ≤ 7) := hp84_318
        replace hp84_319 : FF (((T84_310.dep : Nat) : Int) ≤ ((T67_310.dep : Nat) : Int) ∨ ((T84_310.dep : Nat) : Int) ≤ ((T81_310.dep : Nat) : Int)) := hp84_319
        replace hp84_320 : FF (((T84_310.sz : Nat) : Int) = ((T67_310.sz : Nat) : Int) + ((T81_310.sz : Nat) : Int) + 1) := hp84_320
        replace hp84_321 : FF (((T84_310.c4 : Nat) : Int) = ((T67_310.c4 : Nat) : Int) + ((T81_310.c4 : Nat) : Int)) := hp84_321
        obtain ⟨c84_322, ec84_322⟩ : ∃ x9 : Nat, x9 = c81_320 + kc84_312 := ⟨_, rfl⟩
        have ec84_322 := FF.mk ec84_322
        have mc84_322 : FF (c84_322 ≤ MC) := FF.mk (Int.ofNat_le.mp (show ((c84_322 : Nat) : Int) ≤ ((MC : Nat) : Int) by have q0 := FF.out hq1; have q1 := FF.out hq4; have q2 := FF.out hp43_325; have q3 := FF.out hp67_315; have q4 := FF.out ec67_320; have q5 := FF.out hp81_315; have q6 := FF.out ec81_320; have q7 := FF.out hp84_317; have q8 := FF.out ec84_322; omega))
        obtain ⟨k84_323, ek84_323⟩ : ∃ x9 : Nat, x9 = k81_321 + kn84_313 := ⟨_, rfl⟩
        have ek84_323 := FF.mk ek84_323
        have mk84_323 : FF (k84_323 ≤ MS) := FF.mk (Int.ofNat_le.mp (show ((k84_323 : Nat) : Int) ≤ ((MS : Nat) : Int) by have q0 := FF.out hq1; have q1 := FF.out hq5; have q2 := FF.out hp43_325; have q3 := FF.out hp67_316; have q4 := FF.out ek67_321; have q5 := FF.out hp81_316; have q6 := FF.out ek81_321; have q7 := FF.out hp84_318; have q8 := FF.out ek84_323; omega))
        have hP : va_P D vwCl (([(ugu, .inl (ct 1, 7, .inl g_ugu)), (mm, .inr (16, fs2_mm78_310)), (utape, .inl (ct 1, 2000, .inl g_utape))] ++ nw84_311) ++ (p81_322)) _ := hP
        have hD : va_D A (([(ugu, .inl (ct 1, 7, .inl g_ugu)), (mm, .inr (16, fs2_mm78_310)), (utape, .inl (ct 1, 2000, .inl g_utape))] ++ nw84_311) ++ (p81_322)) := hD
        have hP := pool_in hP
        have hD := pool_inD hD
        obtain ⟨p84_324, ep84_324⟩ : ∃ p9 : va_W, p9 = (p81_322 ++ nw84_311) := ⟨_, rfl⟩
        rw [← ep84_324] at hP hD
        have hk84_325 : FF (0 ≤ ((T84_310.sz : Nat) : Int)) := Int.natCast_nonneg _
        have hk84_326 : FF (0 ≤ ((T84_310.dep : Nat) : Int)) := Int.natCast_nonneg _
        have hk84_327 : FF (0 ≤ ((T84_310.c4 : Nat) : Int)) := Int.natCast_nonneg _
        have hP : va_P D vwCl ([(ugu, .inl (ct 1, 7, .inl g_ugu)), (mm, .inr (16, fs2_mm78_310)), (utape, .inl (ct 1, 2000, .inl g_utape))] ++ (p84_324)) _ := hP
        have hD : va_D A ([(ugu, .inl (ct 1, 7, .inl g_ugu)), (mm, .inr (16, fs2_mm78_310)), (utape, .inl (ct 1, 2000, .inl g_utape))] ++ (p84_324)) := hD
        refine W.widen (k := c84_322) (n := k84_323) (Nat.le_of_eq (FF.out ec84_322).symm) (Nat.le_of_eq (FF.out ek84_323).symm) (W.eq (g2 := F0 m 87 ls [.ref T84_310.root]) rfl ?_)
        have hP : va_P D vwCl ([(ugu, .inl (ct 1, 7, .inl g_ugu)), (mm, .inr (16, fs2_mm78_310)), (utape, .inl (ct 1, 2000, .inl g_utape))] ++ (T84_310.cells Z0)) _ := hP.perm (seg_perm (fun f => by have w0 := seg_sum (List.Perm.of_eq ep67_322) f; have w1 := seg_sum (List.Perm.of_eq ep81_322) f; have w2 := seg_sum hp84_316 f; have w3 := seg_sum (List.Perm.of_eq ep84_324) f; simp only [ST.cells_leaf, ST.cells_minus, ST.cells_group, ST.cells_acc, ST.cells_two, FT.cells_two, FT.cells_inv, FT.cells_test, FT.cells_pair, List.map_append, List.sum_append, List.map_nil, List.sum_nil] at w0 w1 w2 w3 ⊢ <;> omega))
        have hD : va_D A ([(ugu, .inl (ct 1, 7, .inl g_ugu)), (mm, .inr (16, fs2_mm78_310)), (utape, .inl (ct 1, 2000, .inl g_utape))] ++ (T84_310.cells Z0)) := hD.perm (seg_perm (fun f => by have w0 := seg_sum (List.Perm.of_eq ep67_322) f; have w1 := seg_sum (List.Perm.of_eq ep81_322) f; have w2 := seg_sum hp84_316 f; have w3 := seg_sum (List.Perm.of_eq ep84_324) f; simp only [ST.cells_leaf, ST.cells_minus, ST.cells_group, ST.cells_acc, ST.cells_two, FT.cells_two, FT.cells_inv, FT.cells_test, FT.cells_pair, List.map_append, List.sum_append, List.map_nil, List.sum_nil] at w0 w1 w2 w3 ⊢ <;> omega))
        exact et_r (SX := List Value × Int32 × Int32 × Int32 × Int32 × Int32 × (Nat → Int32)) hQ hx hb hr hlocks dX16_readAccessed_87 (fs2_mm78_310, y_mm_578_311, y_mm_678_312, y_mm_778_313, x_mm_10, x_mm_11, x_mm_13, g_ugu, T84_310, c84_322, k84_323) ⟨hs78_328, hp78_316, hp78_317, hp78_318, hp78_319, hp78_320, hp78_321, h_x_mm_10, hf78_329, h_x_mm_11, hf78_330, h_x_mm_13, hf78_331, h_g_ugu, rfl, hp84_315, (show y_mm_778_313.toInt ≤ x_mm_8.toInt by have q0 := FF.out hp78_322; omega), (show y_mm_678_312.toInt ≤ x_mm_8.toInt by have q0 := FF.out hp78_323; omega), (show y_mm_578_311.toInt ≠ 0 → y_mm_678_312.toInt + 1 ≤ y_mm_778_313.toInt by have q0 := hp78_316.1; have q1 := FF.out hp78_324; omega), (show x_mm_6.toInt ≤ y_mm_678_312.toInt by have q0 := hp43_315.1; have q1 := FF.out hp43_323; have q2 := FF.out hp43_324; have q3 := FF.out hp43_325; have q4 := FF.out hp78_325; have q5 := FF.out hp78_327; omega), (show ((c84_322 : Nat) : Int) ≤ 17 * (y_mm_678_312.toInt - x_mm_6.toInt) + 19 by have q0 := hp43_315.1; have q1 := FF.out hp43_323; have q2 := FF.out hp43_324; have q3 := FF.out hp43_325; have q4 := FF.out hp67_315; have q5 := FF.out ec67_320; have q6 := FF.out hp78_325; have q7 := FF.out hp78_327; have q8 := FF.out hp81_315; have q9 := FF.out ec81_320; have q10 := FF.out hp84_317; have q11 := FF.out ec84_322; omega), (show ((k84_323 : Nat) : Int) ≤ 100 * (y_mm_678_312.toInt - x_mm_6.toInt) + 109 by have q0 := hp43_315.1; have q1 := FF.out hp43_323; have q2 := FF.out hp43_324; have q3 := FF.out hp43_325; have q4 := FF.out hp67_316; have q5 := FF.out ek67_321; have q6 := FF.out hp78_325; have q7 := FF.out hp78_327; have q8 := FF.out hp81_316; have q9 := FF.out ek81_321; have q10 := FF.out hp84_318; have q11 := FF.out ek84_323; omega), (show ((T84_310.sz : Nat) : Int) ≤ 19 * (y_mm_678_312.toInt - x_mm_6.toInt) + 19 by have q0 := hp43_315.1; have q1 := FF.out hp43_323; have q2 := FF.out hp43_324; have q3 := FF.out hp43_325; have q4 := FF.out hp67_317; have q5 := FF.out hp78_325; have q6 := FF.out hp78_327; have q7 := FF.out hp81_317; have q8 := FF.out hp84_320; omega), (show 4 * ((T84_310.c4 : Nat) : Int) ≤ (y_mm_678_312.toInt - x_mm_6.toInt) by have q0 := hp43_315.1; have q1 := FF.out hp43_323; have q2 := FF.out hp43_324; have q3 := FF.out hp43_325; have q4 := FF.out hp67_319; have q5 := FF.out hp78_325; have q6 := FF.out hp78_327; have q7 := FF.out hp81_319; have q8 := FF.out hp84_321; omega), (show ((T84_310.dep : Nat) : Int) ≤ 83 by have q0 := FF.out hp67_318; have q1 := FF.out hp81_318; have q2 := FF.out hp84_319; omega), (show x_mm_10.toInt = x_mm_10.toInt by omega)⟩ hP hD hS [1, 2, 0] (by decide) rfl (Nat.le_refl _) (Nat.le_refl _) (FF.out mc84_322) (FF.out mk84_323)
      · have t47_2 := FF.mk (i_eq c47_1)
        have r47_3 : rg v0 0 0 := rg_eqA t47_2 h_v0 (show rg (0 : Int32) 0 0 from rg_l (by decide)) (by decide)
        refine lv_aload_n hx hb dX16_readAccessed_50 rfl (lv_at hl 0 rfl) ?_
        refine lv_lconst (v := 0) hx hb dX16_readAccessed_51 (by decide) ?_
        refine lv_ldc2 (v := 65535) hx hb hown (hn.get mw_2156 rfl) dX16_readAccessed_52 ?_
        obtain ⟨c55_1, ec55_1⟩ : ∃ x9 : Nat, x9 = 0 + 1 := ⟨_, rfl⟩
        have ec55_1 := FF.mk ec55_1
        have mc55_1 : FF (c55_1 ≤ MC) := FF.mk (Int.ofNat_le.mp (show ((c55_1 : Nat) : Int) ≤ ((MC : Nat) : Int) by have q0 := FF.out hq1; have q1 := FF.out hq4; have q2 := FF.out hp43_325; have q3 := FF.out ec55_1; omega))
        obtain ⟨k55_2, ek55_2⟩ : ∃ x9 : Nat, x9 = 0 + 7 := ⟨_, rfl⟩
        have ek55_2 := FF.mk ek55_2
        have mk55_2 : FF (k55_2 ≤ MS) := FF.mk (Int.ofNat_le.mp (show ((k55_2 : Nat) : Int) ≤ ((MS : Nat) : Int) by have q0 := FF.out hq1; have q1 := FF.out hq5; have q2 := FF.out hp43_325; have q3 := FF.out ek55_2; omega))
        refine gt_q (pl := (([] : va_W))) (wr := [(ugu, .inl (ct 1, 7, .inl g_ugu))]) [1, 2] [0] (rt_V (As := [.long 0, .long 65535]) (rest := []) (c_X16_wantNumber l hst D ct mm (0 : Int64) (65535 : Int64) fs2_mm43_310 utape y_mm_543_311 y_mm_643_312 y_mm_743_313 x_mm_8 g_utape (rl_w (show rl (0 : Int64) 0 0 from rl_l (by decide)) (by decide)) (rl_w (show rl (65535 : Int64) 65535 65535 from rl_l (by decide)) (by decide)) (hs43_326.1.trans hlen_mm) (SB.get hs43_326 (by decide) hf_mm_0) hp43_315 hp43_316 hp43_317 hp43_318 (rg_of (show 0 ≤ y_mm_743_313.toInt ∧ y_mm_743_313.toInt ≤ 2001 by have q0 := hp43_319.1; have q1 := h_x_mm_8.2; have q2 := FF.out hp43_321; omega)) hp43_320 h_x_mm_8 (SB.get hs43_326 (by decide) hf_mm_8) h_g_utape (show y_mm_743_313.toInt ≤ 2000 by have q0 := h_x_mm_8.2; have q1 := FF.out hp43_321; omega) (show y_mm_743_313.toInt ≤ x_mm_8.toInt by have q0 := FF.out hp43_321; omega) (show y_mm_643_312.toInt ≤ x_mm_8.toInt by have q0 := FF.out hp43_322; omega) (show y_mm_543_311.toInt ≠ 0 → y_mm_643_312.toInt + 1 ≤ y_mm_743_313.toInt by have q0 := hp43_315.1; have q1 := FF.out hp43_323; omega) _) (cb_of (n := 2) hn mw_2077 mw_13 mw_2074 mhX16_wantNumber ⟨(Nat.le_of_ble_eq_true rfl), (Nat.le_of_ble_eq_true rfl)⟩) hx hb hml hown hn hK hSK hZ hS mw_2076 mw_s196 (ci := 16) (q0 := 0) rfl rfl rfl rfl hl.1 (Nat.le_of_ble_eq_true rfl) dX16_readAccessed_55 ⟨(Nat.le_trans (Nat.le_of_eq (FF.out ec55_1).symm) (FF.out mc55_1)), (Nat.le_trans (Nat.le_of_eq (FF.out ek55_2).symm) (FF.out mk55_2))⟩) hP hD hS hA rfl rfl (by decide) (by decide) (by decide) (fun xq55_6 ux55_7 xfs55_8 H locs hpx55_9 hpexfs55_8 hP hD hS => ?_) (fun r55_3 u55_4 H locs hp55_5 hP hD hS => ?_)
        · obtain ⟨fs2_mm55_10, y_mm_655_11⟩ := ux55_7
          obtain ⟨hp55_12, hp55_13, hp55_14, hp55_15⟩ := hpx55_9
          have hs55_16 : SB fs_mm fs2_mm55_10 [5, 6, 7, 10, 11, 13] := SB.trans hs43_326 hp55_12 (by decide)
          have hf55_17 : fs2_mm55_10[10]? = some (.int x_mm_10) := SB.get hp55_12 (by decide) hf43_327
          have hf55_18 : fs2_mm55_10[11]? = some (.int x_mm_11) := SB.get hp55_12 (by decide) hf43_328
          have hf55_19 : fs2_mm55_10[13]? = some (.int x_mm_13) := SB.get hp55_12 (by decide) hf43_329
          have hp55_13 : rg y_mm_655_11 0 2000 := hp55_13
          have hP : va_P D vwCl [(ugu, .inl (ct 1, 7, .inl g_ugu)), (mm, .inr (16, fs2_mm55_10)), (utape, .inl (ct 1, 2000, .inl g_utape)), (xq55_6, .inr (15, xfs55_8))] _ := hP
          have hD : va_D A [(ugu, .inl (ct 1, 7, .inl g_ugu)), (mm, .inr (16, fs2_mm55_10)), (utape, .inl (ct 1, 2000, .inl g_utape)), (xq55_6, .inr (15, xfs55_8))] := hD
          refine vx_widen (k := c55_1) (n := k55_2) (Nat.le_of_eq (FF.out ec55_1).symm) (Nat.le_of_eq (FF.out ek55_2).symm) ?_
          exact xo hQ htab hlocks hK rfl hP hD hS (fs2_mm55_10, y_mm_655_11, y_mm_743_313, x_mm_10, x_mm_11, x_mm_13, g_ugu) (fs := xfs55_8) ⟨hs55_16, hp55_13, hp55_14, hp43_319, hp55_15, h_x_mm_10, hf55_17, h_x_mm_11, hf55_18, h_x_mm_13, hf55_19, h_g_ugu⟩ hpexfs55_8 [1, 2, 0, 3] (by decide) rfl (kq := 3) rfl (FF.out mc55_1) (FF.out mk55_2)
        obtain ⟨fs2_mm55_310, y_mm_555_311, y_mm_655_312, y_mm_755_313⟩ := u55_4
        obtain ⟨hp55_314, hp55_315, hp55_316, hp55_317, hp55_318, hp55_319, hp55_320, hp55_321, hp55_322, hp55_323, hp55_324, hp55_325, hp55_326, hp55_327⟩ := hp55_5
        have hs55_328 : SB fs_mm fs2_mm55_310 [5, 6, 7, 10, 11, 13] := SB.trans hs43_326 hp55_315 (by decide)
        have hf55_329 : fs2_mm55_310[10]? = some (.int x_mm_10) := SB.get hp55_315 (by decide) hf43_327
        have hf55_330 : fs2_mm55_310[11]? = some (.int x_mm_11) := SB.get hp55_315 (by decide) hf43_328
        have hf55_331 : fs2_mm55_310[13]? = some (.int x_mm_13) := SB.get hp55_315 (by decide) hf43_329
        have hp55_314 : rl r55_3 (-1) 4294967295 := hp55_314
        have hp55_316 : rg y_mm_555_311 0 2 := hp55_316
        have hp55_318 : rg y_mm_655_312 0 2000 := hp55_318
        have hp55_320 : rg y_mm_755_313 0 2002 := hp55_320
        replace hp55_322 : FF (y_mm_755_313.toInt ≤ x_mm_8.toInt) := hp55_322
        replace hp55_323 : FF (y_mm_655_312.toInt ≤ x_mm_8.toInt) := hp55_323
        replace hp55_324 : FF (y_mm_555_311.toInt ≠ 0 → y_mm_655_312.toInt + 1 ≤ y_mm_755_313.toInt) := hp55_324
        replace hp55_325 : FF (y_mm_743_313.toInt ≤ y_mm_655_312.toInt) := hp55_325
        replace hp55_326 : FF ((0 : Int64).toInt ≤ r55_3.toInt ∧ r55_3.toInt ≤ (65535 : Int64).toInt) := hp55_326
        replace hp55_327 : FF (y_mm_543_311.toInt ≠ 0) := hp55_327
        have hP : va_P D vwCl ([(ugu, .inl (ct 1, 7, .inl g_ugu)), (mm, .inr (16, fs2_mm55_310)), (utape, .inl (ct 1, 2000, .inl g_utape))] ++ (([] : va_W))) _ := hP
        have hD : va_D A ([(ugu, .inl (ct 1, 7, .inl g_ugu)), (mm, .inr (16, fs2_mm55_310)), (utape, .inl (ct 1, 2000, .inl g_utape))] ++ (([] : va_W))) := hD
        refine W.widen (k := 0) (n := 0) (Nat.le_refl _) (Nat.le_refl _) (W.eq (g2 := F0 m 58 ls [.long r55_3]) rfl ?_)
        obtain ⟨m58_1, gm58_1⟩ : ∃ m9 : Nat, m9 + 0 = MC := ⟨MC - 0, Nat.sub_add_cancel (Nat.zero_le MC)⟩
        have em58_1 := FF.mk gm58_1
        obtain ⟨m58_2, gm58_2⟩ : ∃ m9 : Nat, m9 + 0 = MS := ⟨MS - 0, Nat.sub_add_cancel (Nat.zero_le MS)⟩
        have em58_2 := FF.mk gm58_2
        refine gt_q (pl := (([] : va_W))) (wr := [(ugu, .inl (ct 1, 7, .inl g_ugu)), (mm, .inr (16, fs2_mm55_310)), (utape, .inl (ct 1, 2000, .inl g_utape))]) [] [0, 1, 2] (rt_S (As := [.long r55_3]) (rest := []) (c_X16_ether l hst D ct m58_1 m58_2 r55_3 (show 4 ≤ ((m58_1 : Nat) : Int) by have q0 := FF.out hq1; have q1 := FF.out hq4; have q2 := FF.out hp43_325; have q3 := FF.out em58_1; omega) (show 22 ≤ ((m58_2 : Nat) : Int) by have q0 := FF.out hq1; have q1 := FF.out hq5; have q2 := FF.out hp43_325; have q3 := FF.out em58_2; omega) _) (cb_of (n := 1) hn mw_2132 mw_13 mw_2130 mhX16_ether ⟨(Nat.le_of_ble_eq_true rfl), (Nat.le_of_ble_eq_true rfl)⟩) hx hb hml hown hn hK hSK hZ hS mw_2131 rfl hl.1 (Nat.le_of_ble_eq_true rfl) dX16_readAccessed_58 ⟨(Nat.le_of_eq ((Nat.add_comm _ _).trans gm58_1)), (Nat.le_of_eq ((Nat.add_comm _ _).trans gm58_2))⟩) hP hD hS hA rfl rfl (by decide) (by decide) (by decide) (fun xq58_6 ux58_7 xfs58_8 H locs hpx58_9 hpexfs58_8 hP hD hS => ?_) (fun r58_3 u58_4 H locs hp58_5 hP hD hS => ?_)
        · exact hpx58_9.elim
        obtain ⟨T58_310, kc58_311, kn58_312⟩ := u58_4
        obtain ⟨hp58_313, hp58_314, hp58_315, hp58_316, hp58_317, hp58_318, hp58_319⟩ := hp58_5
        subst hp58_313
        replace hp58_315 : FF (((kc58_311 : Nat) : Int) ≤ 4) := hp58_315
        replace hp58_316 : FF (((kn58_312 : Nat) : Int) ≤ 22) := hp58_316
        replace hp58_317 : FF (((T58_310.sz : Nat) : Int) ≤ 4) := hp58_317
        replace hp58_318 : FF (((T58_310.dep : Nat) : Int) ≤ 1) := hp58_318
        replace hp58_319 : FF (((T58_310.c4 : Nat) : Int) ≤ 0) := hp58_319
        obtain ⟨c58_320, ec58_320⟩ : ∃ x9 : Nat, x9 = 0 + kc58_311 := ⟨_, rfl⟩
        have ec58_320 := FF.mk ec58_320
        have mc58_320 : FF (c58_320 ≤ MC) := FF.mk (Int.ofNat_le.mp (show ((c58_320 : Nat) : Int) ≤ ((MC : Nat) : Int) by have q0 := FF.out hq1; have q1 := FF.out hq4; have q2 := FF.out hp43_325; have q3 := FF.out hp58_315; have q4 := FF.out ec58_320; omega))
        obtain ⟨k58_321, ek58_321⟩ : ∃ x9 : Nat, x9 = 0 + kn58_312 := ⟨_, rfl⟩
        have ek58_321 := FF.mk ek58_321
        have mk58_321 : FF (k58_321 ≤ MS) := FF.mk (Int.ofNat_le.mp (show ((k58_321 : Nat) : Int) ≤ ((MS : Nat) : Int) by have q0 := FF.out hq1; have q1 := FF.out hq5; have q2 := FF.out hp43_325; have q3 := FF.out hp58_316; have q4 := FF.out ek58_321; omega))
        have hP : va_P D vwCl (([(ugu, .inl (ct 1, 7, .inl g_ugu)), (mm, .inr (16, fs2_mm55_310)), (utape, .inl (ct 1, 2000, .inl g_utape))] ++ (T58_310.cells Z0)) ++ (([] : va_W))) _ := hP
        have hD : va_D A (([(ugu, .inl (ct 1, 7, .inl g_ugu)), (mm, .inr (16, fs2_mm55_310)), (utape, .inl (ct 1, 2000, .inl g_utape))] ++ (T58_310.cells Z0)) ++ (([] : va_W))) := hD
        have hP := pool_in hP
        have hD := pool_inD hD
        obtain ⟨p58_322, ep58_322⟩ : ∃ p9 : va_W, p9 = (([] : va_W) ++ (T58_310.cells Z0)) := ⟨_, rfl⟩
        rw [← ep58_322] at hP hD
        have hk58_323 : FF (0 ≤ ((T58_310.sz : Nat) : Int)) := Int.natCast_nonneg _
        have hk58_324 : FF (0 ≤ ((T58_310.dep : Nat) : Int)) := Int.natCast_nonneg _
        have hk58_325 : FF (0 ≤ ((T58_310.c4 : Nat) : Int)) := Int.natCast_nonneg _
        have hP : va_P D vwCl ([(ugu, .inl (ct 1, 7, .inl g_ugu)), (mm, .inr (16, fs2_mm55_310)), (utape, .inl (ct 1, 2000, .inl g_utape))] ++ (p58_322)) _ := hP
        have hD : va_D A ([(ugu, .inl (ct 1, 7, .inl g_ugu)), (mm, .inr (16, fs2_mm55_310)), (utape, .inl (ct 1, 2000, .inl g_utape))] ++ (p58_322)) := hD
        refine W.widen (k := c58_320) (n := k58_321) (Nat.le_of_eq (FF.out ec58_320).symm) (Nat.le_of_eq (FF.out ek58_321).symm) (W.eq (g2 := F0 m 61 ls [.ref T58_310.root]) rfl ?_)
        refine lv_goto (tgt := 87) hx hb dX16_readAccessed_61 (by decide) ?_
        have hP : va_P D vwCl ([(ugu, .inl (ct 1, 7, .inl g_ugu)), (mm, .inr (16, fs2_mm55_310)), (utape, .inl (ct 1, 2000, .inl g_utape))] ++ (T58_310.cells Z0)) _ := hP.perm (seg_perm (fun f => by have w0 := seg_sum (List.Perm.of_eq ep58_322) f; simp only [ST.cells_leaf, ST.cells_minus, ST.cells_group, ST.cells_acc, ST.cells_two, FT.cells_two, FT.cells_inv, FT.cells_test, FT.cells_pair, List.map_append, List.sum_append, List.map_nil, List.sum_nil] at w0 ⊢ <;> omega))
        have hD : va_D A ([(ugu, .inl (ct 1, 7, .inl g_ugu)), (mm, .inr (16, fs2_mm55_310)), (utape, .inl (ct 1, 2000, .inl g_utape))] ++ (T58_310.cells Z0)) := hD.perm (seg_perm (fun f => by have w0 := seg_sum (List.Perm.of_eq ep58_322) f; simp only [ST.cells_leaf, ST.cells_minus, ST.cells_group, ST.cells_acc, ST.cells_two, FT.cells_two, FT.cells_inv, FT.cells_test, FT.cells_pair, List.map_append, List.sum_append, List.map_nil, List.sum_nil] at w0 ⊢ <;> omega))
        exact et_r (SX := List Value × Int32 × Int32 × Int32 × Int32 × Int32 × (Nat → Int32)) hQ hx hb hr hlocks dX16_readAccessed_87 (fs2_mm55_310, y_mm_555_311, y_mm_655_312, y_mm_755_313, x_mm_10, x_mm_11, x_mm_13, g_ugu, T58_310, c58_320, k58_321) ⟨hs55_328, hp55_316, hp55_317, hp55_318, hp55_319, hp55_320, hp55_321, h_x_mm_10, hf55_329, h_x_mm_11, hf55_330, h_x_mm_13, hf55_331, h_g_ugu, rfl, hp58_314, (show y_mm_755_313.toInt ≤ x_mm_8.toInt by have q0 := FF.out hp55_322; omega), (show y_mm_655_312.toInt ≤ x_mm_8.toInt by have q0 := FF.out hp55_323; omega), (show y_mm_555_311.toInt ≠ 0 → y_mm_655_312.toInt + 1 ≤ y_mm_755_313.toInt by have q0 := hp55_316.1; have q1 := FF.out hp55_324; omega), (show x_mm_6.toInt ≤ y_mm_655_312.toInt by have q0 := hp43_315.1; have q1 := FF.out hp43_323; have q2 := FF.out hp43_324; have q3 := FF.out hp43_325; have q4 := FF.out hp55_325; have q5 := FF.out hp55_327; omega), (show ((c58_320 : Nat) : Int) ≤ 17 * (y_mm_655_312.toInt - x_mm_6.toInt) + 19 by have q0 := hp43_315.1; have q1 := FF.out hp43_323; have q2 := FF.out hp43_324; have q3 := FF.out hp43_325; have q4 := FF.out hp55_325; have q5 := FF.out hp55_327; have q6 := FF.out hp58_315; have q7 := FF.out ec58_320; omega), (show ((k58_321 : Nat) : Int) ≤ 100 * (y_mm_655_312.toInt - x_mm_6.toInt) + 109 by have q0 := hp43_315.1; have q1 := FF.out hp43_323; have q2 := FF.out hp43_324; have q3 := FF.out hp43_325; have q4 := FF.out hp55_325; have q5 := FF.out hp55_327; have q6 := FF.out hp58_316; have q7 := FF.out ek58_321; omega), (show ((T58_310.sz : Nat) : Int) ≤ 19 * (y_mm_655_312.toInt - x_mm_6.toInt) + 19 by have q0 := hp43_315.1; have q1 := FF.out hp43_323; have q2 := FF.out hp43_324; have q3 := FF.out hp43_325; have q4 := FF.out hp55_325; have q5 := FF.out hp55_327; have q6 := FF.out hp58_317; omega), (show 4 * ((T58_310.c4 : Nat) : Int) ≤ (y_mm_655_312.toInt - x_mm_6.toInt) by have q0 := hp43_315.1; have q1 := FF.out hp43_323; have q2 := FF.out hp43_324; have q3 := FF.out hp43_325; have q4 := FF.out hp55_325; have q5 := FF.out hp55_327; have q6 := FF.out hp58_319; omega), (show ((T58_310.dep : Nat) : Int) ≤ 83 by have q0 := FF.out hp58_318; omega), (show x_mm_10.toInt = x_mm_10.toInt by omega)⟩ hP hD hS [1, 2, 0] (by decide) rfl (Nat.le_refl _) (Nat.le_refl _) (FF.out mc58_320) (FF.out mk58_321)
    refine lv_if_eq (tgt := 39) hx hb dX16_readAccessed_21 (by decide) (fun c21_1 => ?_) (fun c21_1 => ?_)
    · have t21_2 := FF.mk (i_eq c21_1)
      have r21_3 : rg v0 0 0 := rg_eqA t21_2 h_v0 (show rg (0 : Int32) 0 0 from rg_l (by decide)) (by decide)
      exact b39  H locs ls  (lv_sub hl [0, 1] rfl) hP hD hS
    · have t21_2 := FF.mk (i_ne c21_1)
      have r21_3 : rg v0 1 6 := rg_neAl t21_2 h_v0 (show rg (0 : Int32) 0 0 from rg_l (by decide)) (by decide)
      refine lv_iload_n hx hb dX16_readAccessed_24 rfl (lv_at hl 1 rfl) ?_
      refine lv_iconst (v := 1) hx hb dX16_readAccessed_25 (by decide) ?_
      have b88 : ∀  (H : Heap) (locs : List Loc) (ls : Array Slot), lv_has ls 2 [(1, .int v0)] → va_P D vwCl ([(ugu, .inl (ct 1, 7, .inl g_ugu)), (mm, .inr (16, fs_mm)), (utape, .inl (ct 1, 2000, .inl g_utape))] ++ (([] : va_W))) H → va_D A ([(ugu, .inl (ct 1, 7, .inl g_ugu)), (mm, .inr (16, fs_mm)), (utape, .inl (ct 1, 2000, .inl g_utape))] ++ (([] : va_W))) → va_S A s.heap H locs → W p l e ({ frames := 172, cells := MC, slots := MS, locals := 8146 }) s m [.ref mm, .int v0].toArray below meth c H locs 0 0 Q (F0 m 88 ls []) := by
        intro  H locs ls  hl hP hD hS
        refine lv_iload_n hx hb dX16_readAccessed_88 rfl (lv_at hl 0 rfl) ?_
        by_cases h89_101 : v0.toInt = 4
        · have r89_102 : rg v0 4 4 := rg_at h89_101
          refine lv_tableIn (off := 27) (tgt := 116) hx hb dX16_readAccessed_89 (by rw [h89_101]; decide) (by rw [h89_101]; decide) (by rw [h89_101]; rfl) (by decide) ?_
          refine lv_bipush (v := 6) hx hb dX16_readAccessed_116 (by decide) ?_
          obtain ⟨m118_1, gm118_1⟩ : ∃ m9 : Nat, m9 + 0 = MC := ⟨MC - 0, Nat.sub_add_cancel (Nat.zero_le MC)⟩
          have em118_1 := FF.mk gm118_1
          obtain ⟨m118_2, gm118_2⟩ : ∃ m9 : Nat, m9 + 0 = MS := ⟨MS - 0, Nat.sub_add_cancel (Nat.zero_le MS)⟩
          have em118_2 := FF.mk gm118_2
          refine gt_q (pl := (([] : va_W))) (wr := [(ugu, .inl (ct 1, 7, .inl g_ugu)), (mm, .inr (16, fs_mm)), (utape, .inl (ct 1, 2000, .inl g_utape))]) [] [0, 1, 2] (rt_S (As := [.int 6]) (rest := []) (c_X16_transport l hst D ct m118_1 m118_2 (6 : Int32) (show 19 ≤ ((m118_1 : Nat) : Int) by have q0 := FF.out hq2; have q1 := FF.out hq4; have q2 := FF.out em118_1; omega) (show 109 ≤ ((m118_2 : Nat) : Int) by have q0 := FF.out hq2; have q1 := FF.out hq5; have q2 := FF.out em118_2; omega) _) (cb_of (n := 1) hn mw_2160 mw_13 mw_2158 mhX16_transport ⟨(Nat.le_of_ble_eq_true rfl), (Nat.le_of_ble_eq_true rfl)⟩) hx hb hml hown hn hK hSK hZ hS mw_2159 rfl hl.1 (Nat.le_of_ble_eq_true rfl) dX16_readAccessed_118 ⟨(Nat.le_of_eq ((Nat.add_comm _ _).trans gm118_1)), (Nat.le_of_eq ((Nat.add_comm _ _).trans gm118_2))⟩) hP hD hS hA rfl rfl (by decide) (by decide) (by decide) (fun xq118_6 ux118_7 xfs118_8 H locs hpx118_9 hpexfs118_8 hP hD hS => ?_) (fun r118_3 u118_4 H locs hp118_5 hP hD hS => ?_)
          · exact hpx118_9.elim
          obtain ⟨T118_310, kc118_311, kn118_312⟩ := u118_4
          obtain ⟨hp118_313, hp118_314, hp118_315, hp118_316, hp118_317, hp118_318, hp118_319⟩ := hp118_5
          subst hp118_313
          replace hp118_315 : FF (((kc118_311 : Nat) : Int) ≤ 19) := hp118_315
          replace hp118_316 : FF (((kn118_312 : Nat) : Int) ≤ 109) := hp118_316
          replace hp118_317 : FF (((T118_310.sz : Nat) : Int) ≤ 19) := hp118_317
          replace hp118_318 : FF (((T118_310.dep : Nat) : Int) ≤ 1) := hp118_318
          replace hp118_319 : FF (((T118_310.c4 : Nat) : Int) ≤ 0) := hp118_319
          obtain ⟨c118_320, ec118_320⟩ : ∃ x9 : Nat, x9 = 0 + kc118_311 := ⟨_, rfl⟩
          have ec118_320 := FF.mk ec118_320
          have mc118_320 : FF (c118_320 ≤ MC) := FF.mk (Int.ofNat_le.mp (show ((c118_320 : Nat) : Int) ≤ ((MC : Nat) : Int) by have q0 := FF.out hq2; have q1 := FF.out hq4; have q2 := FF.out hp118_315; have q3 := FF.out ec118_320; omega))
          obtain ⟨k118_321, ek118_321⟩ : ∃ x9 : Nat, x9 = 0 + kn118_312 := ⟨_, rfl⟩
          have ek118_321 := FF.mk ek118_321
          have mk118_321 : FF (k118_321 ≤ MS) := FF.mk (Int.ofNat_le.mp (show ((k118_321 : Nat) : Int) ≤ ((MS : Nat) : Int) by have q0 := FF.out hq2; have q1 := FF.out hq5; have q2 := FF.out hp118_316; have q3 := FF.out ek118_321; omega))
          have hP : va_P D vwCl (([(ugu, .inl (ct 1, 7, .inl g_ugu)), (mm, .inr (16, fs_mm)), (utape, .inl (ct 1, 2000, .inl g_utape))] ++ (T118_310.cells Z0)) ++ (([] : va_W))) _ := hP
          have hD : va_D A (([(ugu, .inl (ct 1, 7, .inl g_ugu)), (mm, .inr (16, fs_mm)), (utape, .inl (ct 1, 2000, .inl g_utape))] ++ (T118_310.cells Z0)) ++ (([] : va_W))) := hD
          have hP := pool_in hP
          have hD := pool_inD hD
          obtain ⟨p118_322, ep118_322⟩ : ∃ p9 : va_W, p9 = (([] : va_W) ++ (T118_310.cells Z0)) := ⟨_, rfl⟩
          rw [← ep118_322] at hP hD
          have hk118_323 : FF (0 ≤ ((T118_310.sz : Nat) : Int)) := Int.natCast_nonneg _
          have hk118_324 : FF (0 ≤ ((T118_310.dep : Nat) : Int)) := Int.natCast_nonneg _
          have hk118_325 : FF (0 ≤ ((T118_310.c4 : Nat) : Int)) := Int.natCast_nonneg _
          have hP : va_P D vwCl ([(ugu, .inl (ct 1, 7, .inl g_ugu)), (mm, .inr (16, fs_mm)), (utape, .inl (ct 1, 2000, .inl g_utape))] ++ (p118_322)) _ := hP
          have hD : va_D A ([(ugu, .inl (ct 1, 7, .inl g_ugu)), (mm, .inr (16, fs_mm)), (utape, .inl (ct 1, 2000, .inl g_utape))] ++ (p118_322)) := hD
          refine W.widen (k := c118_320) (n := k118_321) (Nat.le_of_eq (FF.out ec118_320).symm) (Nat.le_of_eq (FF.out ek118_321).symm) (W.eq (g2 := F0 m 121 ls [.ref T118_310.root]) rfl ?_)
          have hP : va_P D vwCl ([(ugu, .inl (ct 1, 7, .inl g_ugu)), (mm, .inr (16, fs_mm)), (utape, .inl (ct 1, 2000, .inl g_utape))] ++ (T118_310.cells Z0)) _ := hP.perm (seg_perm (fun f => by have w0 := seg_sum (List.Perm.of_eq ep118_322) f; simp only [ST.cells_leaf, ST.cells_minus, ST.cells_group, ST.cells_acc, ST.cells_two, FT.cells_two, FT.cells_inv, FT.cells_test, FT.cells_pair, List.map_append, List.sum_append, List.map_nil, List.sum_nil] at w0 ⊢ <;> omega))
          have hD : va_D A ([(ugu, .inl (ct 1, 7, .inl g_ugu)), (mm, .inr (16, fs_mm)), (utape, .inl (ct 1, 2000, .inl g_utape))] ++ (T118_310.cells Z0)) := hD.perm (seg_perm (fun f => by have w0 := seg_sum (List.Perm.of_eq ep118_322) f; simp only [ST.cells_leaf, ST.cells_minus, ST.cells_group, ST.cells_acc, ST.cells_two, FT.cells_two, FT.cells_inv, FT.cells_test, FT.cells_pair, List.map_append, List.sum_append, List.map_nil, List.sum_nil] at w0 ⊢ <;> omega))
          exact et_r (SX := List Value × Int32 × Int32 × Int32 × Int32 × Int32 × (Nat → Int32)) hQ hx hb hr hlocks dX16_readAccessed_121 (fs_mm, x_mm_5, x_mm_6, x_mm_7, x_mm_10, x_mm_11, x_mm_13, g_ugu, T118_310, c118_320, k118_321) ⟨(SB.rf _ _), h_x_mm_5, hf_mm_5, h_x_mm_6, hf_mm_6, (rg_w h_x_mm_7 (by decide)), hf_mm_7, h_x_mm_10, hf_mm_10, h_x_mm_11, hf_mm_11, h_x_mm_13, hf_mm_13, h_g_ugu, rfl, hp118_314, (show x_mm_7.toInt ≤ x_mm_8.toInt by have q0 := FF.out hq1; omega), (show x_mm_6.toInt ≤ x_mm_8.toInt by have q0 := FF.out hq2; omega), (show x_mm_5.toInt ≠ 0 → x_mm_6.toInt + 1 ≤ x_mm_7.toInt by have q0 := h_x_mm_5.1; have q1 := FF.out hq3; omega), (show x_mm_6.toInt ≤ x_mm_6.toInt by omega), (show ((c118_320 : Nat) : Int) ≤ 17 * (x_mm_6.toInt - x_mm_6.toInt) + 19 by have q0 := FF.out hp118_315; have q1 := FF.out ec118_320; omega), (show ((k118_321 : Nat) : Int) ≤ 100 * (x_mm_6.toInt - x_mm_6.toInt) + 109 by have q0 := FF.out hp118_316; have q1 := FF.out ek118_321; omega), (show ((T118_310.sz : Nat) : Int) ≤ 19 * (x_mm_6.toInt - x_mm_6.toInt) + 19 by have q0 := FF.out hp118_317; omega), (show 4 * ((T118_310.c4 : Nat) : Int) ≤ (x_mm_6.toInt - x_mm_6.toInt) by have q0 := FF.out hp118_319; omega), (show ((T118_310.dep : Nat) : Int) ≤ 83 by have q0 := FF.out hp118_318; omega), (show x_mm_10.toInt = x_mm_10.toInt by omega)⟩ hP hD hS [1, 2, 0] (by decide) rfl (Nat.le_refl _) (Nat.le_refl _) (FF.out mc118_320) (FF.out mk118_321)
        by_cases h89_111 : v0.toInt = 5
        · have r89_112 : rg v0 5 5 := rg_at h89_111
          refine lv_tableIn (off := 33) (tgt := 122) hx hb dX16_readAccessed_89 (by rw [h89_111]; decide) (by rw [h89_111]; decide) (by rw [h89_111]; rfl) (by decide) ?_
          refine lv_bipush (v := 17) hx hb dX16_readAccessed_122 (by decide) ?_
          obtain ⟨m124_1, gm124_1⟩ : ∃ m9 : Nat, m9 + 0 = MC := ⟨MC - 0, Nat.sub_add_cancel (Nat.zero_le MC)⟩
          have em124_1 := FF.mk gm124_1
          obtain ⟨m124_2, gm124_2⟩ : ∃ m9 : Nat, m9 + 0 = MS := ⟨MS - 0, Nat.sub_add_cancel (Nat.zero_le MS)⟩
          have em124_2 := FF.mk gm124_2
          refine gt_q (pl := (([] : va_W))) (wr := [(ugu, .inl (ct 1, 7, .inl g_ugu)), (mm, .inr (16, fs_mm)), (utape, .inl (ct 1, 2000, .inl g_utape))]) [] [0, 1, 2] (rt_S (As := [.int 17]) (rest := []) (c_X16_transport l hst D ct m124_1 m124_2 (17 : Int32) (show 19 ≤ ((m124_1 : Nat) : Int) by have q0 := FF.out hq2; have q1 := FF.out hq4; have q2 := FF.out em124_1; omega) (show 109 ≤ ((m124_2 : Nat) : Int) by have q0 := FF.out hq2; have q1 := FF.out hq5; have q2 := FF.out em124_2; omega) _) (cb_of (n := 1) hn mw_2160 mw_13 mw_2158 mhX16_transport ⟨(Nat.le_of_ble_eq_true rfl), (Nat.le_of_ble_eq_true rfl)⟩) hx hb hml hown hn hK hSK hZ hS mw_2159 rfl hl.1 (Nat.le_of_ble_eq_true rfl) dX16_readAccessed_124 ⟨(Nat.le_of_eq ((Nat.add_comm _ _).trans gm124_1)), (Nat.le_of_eq ((Nat.add_comm _ _).trans gm124_2))⟩) hP hD hS hA rfl rfl (by decide) (by decide) (by decide) (fun xq124_6 ux124_7 xfs124_8 H locs hpx124_9 hpexfs124_8 hP hD hS => ?_) (fun r124_3 u124_4 H locs hp124_5 hP hD hS => ?_)
          · exact hpx124_9.elim
          obtain ⟨T124_310, kc124_311, kn124_312⟩ := u124_4
          obtain ⟨hp124_313, hp124_314, hp124_315, hp124_316, hp124_317, hp124_318, hp124_319⟩ := hp124_5
          subst hp124_313
          replace hp124_315 : FF (((kc124_311 : Nat) : Int) ≤ 19) := hp124_315
          replace hp124_316 : FF (((kn124_312 : Nat) : Int) ≤ 109) := hp124_316
          replace hp124_317 : FF (((T124_310.sz : Nat) : Int) ≤ 19) := hp124_317
          replace hp124_318 : FF (((T124_310.dep : Nat) : Int) ≤ 1) := hp124_318
          replace hp124_319 : FF (((T124_310.c4 : Nat) : Int) ≤ 0) := hp124_319
          obtain ⟨c124_320, ec124_320⟩ : ∃ x9 : Nat, x9 = 0 + kc124_311 := ⟨_, rfl⟩
          have ec124_320 := FF.mk ec124_320
          have mc124_320 : FF (c124_320 ≤ MC) := FF.mk (Int.ofNat_le.mp (show ((c124_320 : Nat) : Int) ≤ ((MC : Nat) : Int) by have q0 := FF.out hq2; have q1 := FF.out hq4; have q2 := FF.out hp124_315; have q3 := FF.out ec124_320; omega))
          obtain ⟨k124_321, ek124_321⟩ : ∃ x9 : Nat, x9 = 0 + kn124_312 := ⟨_, rfl⟩
          have ek124_321 := FF.mk ek124_321
          have mk124_321 : FF (k124_321 ≤ MS) := FF.mk (Int.ofNat_le.mp (show ((k124_321 : Nat) : Int) ≤ ((MS : Nat) : Int) by have q0 := FF.out hq2; have q1 := FF.out hq5; have q2 := FF.out hp124_316; have q3 := FF.out ek124_321; omega))
          have hP : va_P D vwCl (([(ugu, .inl (ct 1, 7, .inl g_ugu)), (mm, .inr (16, fs_mm)), (utape, .inl (ct 1, 2000, .inl g_utape))] ++ (T124_310.cells Z0)) ++ (([] : va_W))) _ := hP
          have hD : va_D A (([(ugu, .inl (ct 1, 7, .inl g_ugu)), (mm, .inr (16, fs_mm)), (utape, .inl (ct 1, 2000, .inl g_utape))] ++ (T124_310.cells Z0)) ++ (([] : va_W))) := hD
          have hP := pool_in hP
          have hD := pool_inD hD
          obtain ⟨p124_322, ep124_322⟩ : ∃ p9 : va_W, p9 = (([] : va_W) ++ (T124_310.cells Z0)) := ⟨_, rfl⟩
          rw [← ep124_322] at hP hD
          have hk124_323 : FF (0 ≤ ((T124_310.sz : Nat) : Int)) := Int.natCast_nonneg _
          have hk124_324 : FF (0 ≤ ((T124_310.dep : Nat) : Int)) := Int.natCast_nonneg _
          have hk124_325 : FF (0 ≤ ((T124_310.c4 : Nat) : Int)) := Int.natCast_nonneg _
          have hP : va_P D vwCl ([(ugu, .inl (ct 1, 7, .inl g_ugu)), (mm, .inr (16, fs_mm)), (utape, .inl (ct 1, 2000, .inl g_utape))] ++ (p124_322)) _ := hP
          have hD : va_D A ([(ugu, .inl (ct 1, 7, .inl g_ugu)), (mm, .inr (16, fs_mm)), (utape, .inl (ct 1, 2000, .inl g_utape))] ++ (p124_322)) := hD
          refine W.widen (k := c124_320) (n := k124_321) (Nat.le_of_eq (FF.out ec124_320).symm) (Nat.le_of_eq (FF.out ek124_321).symm) (W.eq (g2 := F0 m 127 ls [.ref T124_310.root]) rfl ?_)
          have hP : va_P D vwCl ([(ugu, .inl (ct 1, 7, .inl g_ugu)), (mm, .inr (16, fs_mm)), (utape, .inl (ct 1, 2000, .inl g_utape))] ++ (T124_310.cells Z0)) _ := hP.perm (seg_perm (fun f => by have w0 := seg_sum (List.Perm.of_eq ep124_322) f; simp only [ST.cells_leaf, ST.cells_minus, ST.cells_group, ST.cells_acc, ST.cells_two, FT.cells_two, FT.cells_inv, FT.cells_test, FT.cells_pair, List.map_append, List.sum_append, List.map_nil, List.sum_nil] at w0 ⊢ <;> omega))
          have hD : va_D A ([(ugu, .inl (ct 1, 7, .inl g_ugu)), (mm, .inr (16, fs_mm)), (utape, .inl (ct 1, 2000, .inl g_utape))] ++ (T124_310.cells Z0)) := hD.perm (seg_perm (fun f => by have w0 := seg_sum (List.Perm.of_eq ep124_322) f; simp only [ST.cells_leaf, ST.cells_minus, ST.cells_group, ST.cells_acc, ST.cells_two, FT.cells_two, FT.cells_inv, FT.cells_test, FT.cells_pair, List.map_append, List.sum_append, List.map_nil, List.sum_nil] at w0 ⊢ <;> omega))
          exact et_r (SX := List Value × Int32 × Int32 × Int32 × Int32 × Int32 × (Nat → Int32)) hQ hx hb hr hlocks dX16_readAccessed_127 (fs_mm, x_mm_5, x_mm_6, x_mm_7, x_mm_10, x_mm_11, x_mm_13, g_ugu, T124_310, c124_320, k124_321) ⟨(SB.rf _ _), h_x_mm_5, hf_mm_5, h_x_mm_6, hf_mm_6, (rg_w h_x_mm_7 (by decide)), hf_mm_7, h_x_mm_10, hf_mm_10, h_x_mm_11, hf_mm_11, h_x_mm_13, hf_mm_13, h_g_ugu, rfl, hp124_314, (show x_mm_7.toInt ≤ x_mm_8.toInt by have q0 := FF.out hq1; omega), (show x_mm_6.toInt ≤ x_mm_8.toInt by have q0 := FF.out hq2; omega), (show x_mm_5.toInt ≠ 0 → x_mm_6.toInt + 1 ≤ x_mm_7.toInt by have q0 := h_x_mm_5.1; have q1 := FF.out hq3; omega), (show x_mm_6.toInt ≤ x_mm_6.toInt by omega), (show ((c124_320 : Nat) : Int) ≤ 17 * (x_mm_6.toInt - x_mm_6.toInt) + 19 by have q0 := FF.out hp124_315; have q1 := FF.out ec124_320; omega), (show ((k124_321 : Nat) : Int) ≤ 100 * (x_mm_6.toInt - x_mm_6.toInt) + 109 by have q0 := FF.out hp124_316; have q1 := FF.out ek124_321; omega), (show ((T124_310.sz : Nat) : Int) ≤ 19 * (x_mm_6.toInt - x_mm_6.toInt) + 19 by have q0 := FF.out hp124_317; omega), (show 4 * ((T124_310.c4 : Nat) : Int) ≤ (x_mm_6.toInt - x_mm_6.toInt) by have q0 := FF.out hp124_319; omega), (show ((T124_310.dep : Nat) : Int) ≤ 83 by have q0 := FF.out hp124_318; omega), (show x_mm_10.toInt = x_mm_10.toInt by omega)⟩ hP hD hS [1, 2, 0] (by decide) rfl (Nat.le_refl _) (Nat.le_refl _) (FF.out mc124_320) (FF.out mk124_321)
        by_cases h89_121 : v0.toInt = 6
        · have r89_122 : rg v0 6 6 := rg_at h89_121
          refine lv_tableIn (off := 39) (tgt := 128) hx hb dX16_readAccessed_89 (by rw [h89_121]; decide) (by rw [h89_121]; decide) (by rw [h89_121]; rfl) (by decide) ?_
          refine lv_ldc2 (v := 2048) hx hb hown (hn.get mw_2127 rfl) dX16_readAccessed_128 ?_
          obtain ⟨m131_1, gm131_1⟩ : ∃ m9 : Nat, m9 + 0 = MC := ⟨MC - 0, Nat.sub_add_cancel (Nat.zero_le MC)⟩
          have em131_1 := FF.mk gm131_1
          obtain ⟨m131_2, gm131_2⟩ : ∃ m9 : Nat, m9 + 0 = MS := ⟨MS - 0, Nat.sub_add_cancel (Nat.zero_le MS)⟩
          have em131_2 := FF.mk gm131_2
          refine gt_q (pl := (([] : va_W))) (wr := [(ugu, .inl (ct 1, 7, .inl g_ugu)), (mm, .inr (16, fs_mm)), (utape, .inl (ct 1, 2000, .inl g_utape))]) [] [0, 1, 2] (rt_S (As := [.long 2048]) (rest := []) (c_X16_ether l hst D ct m131_1 m131_2 (2048 : Int64) (show 4 ≤ ((m131_1 : Nat) : Int) by have q0 := FF.out hq2; have q1 := FF.out hq4; have q2 := FF.out em131_1; omega) (show 22 ≤ ((m131_2 : Nat) : Int) by have q0 := FF.out hq2; have q1 := FF.out hq5; have q2 := FF.out em131_2; omega) _) (cb_of (n := 1) hn mw_2132 mw_13 mw_2130 mhX16_ether ⟨(Nat.le_of_ble_eq_true rfl), (Nat.le_of_ble_eq_true rfl)⟩) hx hb hml hown hn hK hSK hZ hS mw_2131 rfl hl.1 (Nat.le_of_ble_eq_true rfl) dX16_readAccessed_131 ⟨(Nat.le_of_eq ((Nat.add_comm _ _).trans gm131_1)), (Nat.le_of_eq ((Nat.add_comm _ _).trans gm131_2))⟩) hP hD hS hA rfl rfl (by decide) (by decide) (by decide) (fun xq131_6 ux131_7 xfs131_8 H locs hpx131_9 hpexfs131_8 hP hD hS => ?_) (fun r131_3 u131_4 H locs hp131_5 hP hD hS => ?_)
          · exact hpx131_9.elim
          obtain ⟨T131_310, kc131_311, kn131_312⟩ := u131_4
          obtain ⟨hp131_313, hp131_314, hp131_315, hp131_316, hp131_317, hp131_318, hp131_319⟩ := hp131_5
          subst hp131_313
          replace hp131_315 : FF (((kc131_311 : Nat) : Int) ≤ 4) := hp131_315
          replace hp131_316 : FF (((kn131_312 : Nat) : Int) ≤ 22) := hp131_316
          replace hp131_317 : FF (((T131_310.sz : Nat) : Int) ≤ 4) := hp131_317
          replace hp131_318 : FF (((T131_310.dep : Nat) : Int) ≤ 1) := hp131_318
          replace hp131_319 : FF (((T131_310.c4 : Nat) : Int) ≤ 0) := hp131_319
          obtain ⟨c131_320, ec131_320⟩ : ∃ x9 : Nat, x9 = 0 + kc131_311 := ⟨_, rfl⟩
          have ec131_320 := FF.mk ec131_320
          have mc131_320 : FF (c131_320 ≤ MC) := FF.mk (Int.ofNat_le.mp (show ((c131_320 : Nat) : Int) ≤ ((MC : Nat) : Int) by have q0 := FF.out hq2; have q1 := FF.out hq4; have q2 := FF.out hp131_315; have q3 := FF.out ec131_320; omega))
          obtain ⟨k131_321, ek131_321⟩ : ∃ x9 : Nat, x9 = 0 + kn131_312 := ⟨_, rfl⟩
          have ek131_321 := FF.mk ek131_321
          have mk131_321 : FF (k131_321 ≤ MS) := FF.mk (Int.ofNat_le.mp (show ((k131_321 : Nat) : Int) ≤ ((MS : Nat) : Int) by have q0 := FF.out hq2; have q1 := FF.out hq5; have q2 := FF.out hp131_316; have q3 := FF.out ek131_321; omega))
          have hP : va_P D vwCl (([(ugu, .inl (ct 1, 7, .inl g_ugu)), (mm, .inr (16, fs_mm)), (utape, .inl (ct 1, 2000, .inl g_utape))] ++ (T131_310.cells Z0)) ++ (([] : va_W))) _ := hP
          have hD : va_D A (([(ugu, .inl (ct 1, 7, .inl g_ugu)), (mm, .inr (16, fs_mm)), (utape, .inl (ct 1, 2000, .inl g_utape))] ++ (T131_310.cells Z0)) ++ (([] : va_W))) := hD
          have hP := pool_in hP
          have hD := pool_inD hD
          obtain ⟨p131_322, ep131_322⟩ : ∃ p9 : va_W, p9 = (([] : va_W) ++ (T131_310.cells Z0)) := ⟨_, rfl⟩
          rw [← ep131_322] at hP hD
          have hk131_323 : FF (0 ≤ ((T131_310.sz : Nat) : Int)) := Int.natCast_nonneg _
          have hk131_324 : FF (0 ≤ ((T131_310.dep : Nat) : Int)) := Int.natCast_nonneg _
          have hk131_325 : FF (0 ≤ ((T131_310.c4 : Nat) : Int)) := Int.natCast_nonneg _
          have hP : va_P D vwCl ([(ugu, .inl (ct 1, 7, .inl g_ugu)), (mm, .inr (16, fs_mm)), (utape, .inl (ct 1, 2000, .inl g_utape))] ++ (p131_322)) _ := hP
          have hD : va_D A ([(ugu, .inl (ct 1, 7, .inl g_ugu)), (mm, .inr (16, fs_mm)), (utape, .inl (ct 1, 2000, .inl g_utape))] ++ (p131_322)) := hD
          refine W.widen (k := c131_320) (n := k131_321) (Nat.le_of_eq (FF.out ec131_320).symm) (Nat.le_of_eq (FF.out ek131_321).symm) (W.eq (g2 := F0 m 134 ls [.ref T131_310.root]) rfl ?_)
          refine lv_ldc2 (v := 23) hx hb hown (hn.get mw_2140 rfl) dX16_readAccessed_134 ?_
          refine lv_lconst (v := 1) hx hb dX16_readAccessed_137 (by decide) ?_
          obtain ⟨m138_1, gm138_1⟩ : ∃ m9 : Nat, m9 + c131_320 = MC := ⟨MC - c131_320, Nat.sub_add_cancel (FF.out mc131_320)⟩
          have em138_1 := FF.mk gm138_1
          obtain ⟨m138_2, gm138_2⟩ : ∃ m9 : Nat, m9 + k131_321 = MS := ⟨MS - k131_321, Nat.sub_add_cancel (FF.out mk131_321)⟩
          have em138_2 := FF.mk gm138_2
          refine gt_q (pl := (p131_322)) (wr := [(ugu, .inl (ct 1, 7, .inl g_ugu)), (mm, .inr (16, fs_mm)), (utape, .inl (ct 1, 2000, .inl g_utape))]) [] [0, 1, 2] (rt_S (As := [.long 23, .long 1]) (rest := [.ref T131_310.root]) (c_X16_byteIs l hst D ct m138_1 m138_2 (23 : Int64) (1 : Int64) (show 4 ≤ ((m138_1 : Nat) : Int) by have q0 := FF.out hq2; have q1 := FF.out hq4; have q2 := FF.out hp131_315; have q3 := FF.out ec131_320; have q4 := FF.out em138_1; omega) (show 22 ≤ ((m138_2 : Nat) : Int) by have q0 := FF.out hq2; have q1 := FF.out hq5; have q2 := FF.out hp131_316; have q3 := FF.out ek131_321; have q4 := FF.out em138_2; omega) _) (cb_of (n := 2) hn mw_2145 mw_13 mw_2143 mhX16_byteIs ⟨(Nat.le_of_ble_eq_true rfl), (Nat.le_of_ble_eq_true rfl)⟩) hx hb hml hown hn hK hSK hZ hS mw_2144 rfl hl.1 (Nat.le_of_ble_eq_true rfl) dX16_readAccessed_138 ⟨(Nat.le_of_eq ((Nat.add_comm _ _).trans gm138_1)), (Nat.le_of_eq ((Nat.add_comm _ _).trans gm138_2))⟩) hP hD hS hA rfl rfl (by decide) (by decide) (by decide) (fun xq138_6 ux138_7 xfs138_8 H locs hpx138_9 hpexfs138_8 hP hD hS => ?_) (fun r138_3 u138_4 H locs hp138_5 hP hD hS => ?_)
          · exact hpx138_9.elim
          obtain ⟨T138_310, kc138_311, kn138_312⟩ := u138_4
          obtain ⟨hp138_313, hp138_314, hp138_315, hp138_316, hp138_317, hp138_318, hp138_319⟩ := hp138_5
          subst hp138_313
          replace hp138_315 : FF (((kc138_311 : Nat) : Int) ≤ 4) := hp138_315
          replace hp138_316 : FF (((kn138_312 : Nat) : Int) ≤ 22) := hp138_316
          replace hp138_317 : FF (((T138_310.sz : Nat) : Int) ≤ 4) := hp138_317
          replace hp138_318 : FF (((T138_310.dep : Nat) : Int) ≤ 1) := hp138_318
          replace hp138_319 : FF (((T138_310.c4 : Nat) : Int) ≤ 0) := hp138_319
          obtain ⟨c138_320, ec138_320⟩ : ∃ x9 : Nat, x9 = c131_320 + kc138_311 := ⟨_, rfl⟩
          have ec138_320 := FF.mk ec138_320
          have mc138_320 : FF (c138_320 ≤ MC) := FF.mk (Int.ofNat_le.mp (show ((c138_320 : Nat) : Int) ≤ ((MC : Nat) : Int) by have q0 := FF.out hq2; have q1 := FF.out hq4; have q2 := FF.out hp131_315; have q3 := FF.out ec131_320; have q4 := FF.out hp138_315; have q5 := FF.out ec138_320; omega))
          obtain ⟨k138_321, ek138_321⟩ : ∃ x9 : Nat, x9 = k131_321 + kn138_312 := ⟨_, rfl⟩
          have ek138_321 := FF.mk ek138_321
          have mk138_321 : FF (k138_321 ≤ MS) := FF.mk (Int.ofNat_le.mp (show ((k138_321 : Nat) : Int) ≤ ((MS : Nat) : Int) by have q0 := FF.out hq2; have q1 := FF.out hq5; have q2 := FF.out hp131_316; have q3 := FF.out ek131_321; have q4 := FF.out hp138_316; have q5 := FF.out ek138_321; omega))
          have hP : va_P D vwCl (([(ugu, .inl (ct 1, 7, .inl g_ugu)), (mm, .inr (16, fs_mm)), (utape, .inl (ct 1, 2000, .inl g_utape))] ++ (T138_310.cells Z0)) ++ (p131_322)) _ := hP
          have hD : va_D A (([(ugu, .inl (ct 1, 7, .inl g_ugu)), (mm, .inr (16, fs_mm)), (utape, .inl (ct 1, 2000, .inl g_utape))] ++ (T138_310.cells Z0)) ++ (p131_322)) := hD
          have hP := pool_in hP
          have hD := pool_inD hD
          obtain ⟨p138_322, ep138_322⟩ : ∃ p9 : va_W, p9 = (p131_322 ++ (T138_310.cells Z0)) := ⟨_, rfl⟩
          rw [← ep138_322] at hP hD
          have hk138_323 : FF (0 ≤ ((T138_310.sz : Nat) : Int)) := Int.natCast_nonneg _
          have hk138_324 : FF (0 ≤ ((T138_310.dep : Nat) : Int)) := Int.natCast_nonneg _
          have hk138_325 : FF (0 ≤ ((T138_310.c4 : Nat) : Int)) := Int.natCast_nonneg _
          have hP : va_P D vwCl ([(ugu, .inl (ct 1, 7, .inl g_ugu)), (mm, .inr (16, fs_mm)), (utape, .inl (ct 1, 2000, .inl g_utape))] ++ (p138_322)) _ := hP
          have hD : va_D A ([(ugu, .inl (ct 1, 7, .inl g_ugu)), (mm, .inr (16, fs_mm)), (utape, .inl (ct 1, 2000, .inl g_utape))] ++ (p138_322)) := hD
          refine W.widen (k := c138_320) (n := k138_321) (Nat.le_of_eq (FF.out ec138_320).symm) (Nat.le_of_eq (FF.out ek138_321).symm) (W.eq (g2 := F0 m 141 ls [.ref T138_310.root, .ref T131_310.root]) rfl ?_)
          obtain ⟨m141_1, gm141_1⟩ : ∃ m9 : Nat, m9 + c138_320 = MC := ⟨MC - c138_320, Nat.sub_add_cancel (FF.out mc138_320)⟩
          have em141_1 := FF.mk gm141_1
          obtain ⟨m141_2, gm141_2⟩ : ∃ m9 : Nat, m9 + k138_321 = MS := ⟨MS - k138_321, Nat.sub_add_cancel (FF.out mk138_321)⟩
          have em141_2 := FF.mk gm141_2
          refine gt_q (pl := (p138_322)) (wr := [(ugu, .inl (ct 1, 7, .inl g_ugu)), (mm, .inr (16, fs_mm)), (utape, .inl (ct 1, 2000, .inl g_utape))]) [] [0, 1, 2] (rt_S (As := [.ref T131_310.root, .ref T138_310.root]) (rest := []) (c_X16_and_e l hst D ct m141_1 m141_2 T131_310 T138_310 hp131_314 hp138_314 (show 1 ≤ ((m141_1 : Nat) : Int) by have q0 := FF.out hq2; have q1 := FF.out hq4; have q2 := FF.out hp131_315; have q3 := FF.out ec131_320; have q4 := FF.out hp138_315; have q5 := FF.out ec138_320; have q6 := FF.out em141_1; omega) (show 7 ≤ ((m141_2 : Nat) : Int) by have q0 := FF.out hq2; have q1 := FF.out hq5; have q2 := FF.out hp131_316; have q3 := FF.out ek131_321; have q4 := FF.out hp138_316; have q5 := FF.out ek138_321; have q6 := FF.out em141_2; omega) _) (cb_of (n := 2) hn mw_2154 mw_13 mw_2152 mhX16_and ⟨(Nat.le_of_ble_eq_true rfl), (Nat.le_of_ble_eq_true rfl)⟩) hx hb hml hown hn hK hSK hZ hS mw_2153 rfl hl.1 (Nat.le_of_ble_eq_true rfl) dX16_readAccessed_141 ⟨(Nat.le_of_eq ((Nat.add_comm _ _).trans gm141_1)), (Nat.le_of_eq ((Nat.add_comm _ _).trans gm141_2))⟩) hP hD hS hA rfl rfl (by decide) (by decide) (by decide) (fun xq141_6 ux141_7 xfs141_8 H locs hpx141_9 hpexfs141_8 hP hD hS => ?_) (fun r141_3 u141_4 H locs hp141_5 hP hD hS => ?_)
          · exact hpx141_9.elim
          obtain ⟨T141_310, nw141_311, kc141_312, kn141_313⟩ := u141_4
          obtain ⟨hp141_314, hp141_315, hp141_316, hp141_317, hp141_318, hp141_319, hp141_320, hp141_321⟩ := hp141_5
          subst hp141_314
          replace hp141_317 : FF (((kc141_312 : Nat) : Int) ≤ 1) := hp141_317
          replace hp141_318 : FF (((kn141_313 : Nat) : Int) ≤ 7) := hp141_318
          replace hp141_319 : FF (((T141_310.dep : Nat) : Int) ≤ ((T131_310.dep : Nat) : Int) ∨ ((T141_310.dep : Nat) : Int) ≤ ((T138_310.dep : Nat) : Int)) := hp141_319
          replace hp141_320 : FF (((T141_310.sz : Nat) : Int) = ((T131_310.sz : Nat) : Int) + ((T138_310.sz : Nat) : Int) + 1) := hp141_320
          replace hp141_321 : FF (((T141_310.c4 : Nat) : Int) = ((T131_310.c4 : Nat) : Int) + ((T138_310.c4 : Nat) : Int)) := hp141_321
          obtain ⟨c141_322, ec141_322⟩ : ∃ x9 : Nat, x9 = c138_320 + kc141_312 := ⟨_, rfl⟩
          have ec141_322 := FF.mk ec141_322
          have mc141_322 : FF (c141_322 ≤ MC) := FF.mk (Int.ofNat_le.mp (show ((c141_322 : Nat) : Int) ≤ ((MC : Nat) : Int) by have q0 := FF.out hq2; have q1 := FF.out hq4; have q2 := FF.out hp131_315; have q3 := FF.out ec131_320; have q4 := FF.out hp138_315; have q5 := FF.out ec138_320; have q6 := FF.out hp141_317; have q7 := FF.out ec141_322; omega))
          obtain ⟨k141_323, ek141_323⟩ : ∃ x9 : Nat, x9 = k138_321 + kn141_313 := ⟨_, rfl⟩
          have ek141_323 := FF.mk ek141_323
          have mk141_323 : FF (k141_323 ≤ MS) := FF.mk (Int.ofNat_le.mp (show ((k141_323 : Nat) : Int) ≤ ((MS : Nat) : Int) by have q0 := FF.out hq2; have q1 := FF.out hq5; have q2 := FF.out hp131_316; have q3 := FF.out ek131_321; have q4 := FF.out hp138_316; have q5 := FF.out ek138_321; have q6 := FF.out hp141_318; have q7 := FF.out ek141_323; omega))
          have hP : va_P D vwCl (([(ugu, .inl (ct 1, 7, .inl g_ugu)), (mm, .inr (16, fs_mm)), (utape, .inl (ct 1, 2000, .inl g_utape))] ++ nw141_311) ++ (p138_322)) _ := hP
          have hD : va_D A (([(ugu, .inl (ct 1, 7, .inl g_ugu)), (mm, .inr (16, fs_mm)), (utape, .inl (ct 1, 2000, .inl g_utape))] ++ nw141_311) ++ (p138_322)) := hD
          have hP := pool_in hP
          have hD := pool_inD hD
          obtain ⟨p141_324, ep141_324⟩ : ∃ p9 : va_W, p9 = (p138_322 ++ nw141_311) := ⟨_, rfl⟩
          rw [← ep141_324] at hP hD
          have hk141_325 : FF (0 ≤ ((T141_310.sz : Nat) : Int)) := Int.natCast_nonneg _
          have hk141_326 : FF (0 ≤ ((T141_310.dep : Nat) : Int)) := Int.natCast_nonneg _
          have hk141_327 : FF (0 ≤ ((T141_310.c4 : Nat) : Int)) := Int.natCast_nonneg _
          have hP : va_P D vwCl ([(ugu, .inl (ct 1, 7, .inl g_ugu)), (mm, .inr (16, fs_mm)), (utape, .inl (ct 1, 2000, .inl g_utape))] ++ (p141_324)) _ := hP
          have hD : va_D A ([(ugu, .inl (ct 1, 7, .inl g_ugu)), (mm, .inr (16, fs_mm)), (utape, .inl (ct 1, 2000, .inl g_utape))] ++ (p141_324)) := hD
          refine W.widen (k := c141_322) (n := k141_323) (Nat.le_of_eq (FF.out ec141_322).symm) (Nat.le_of_eq (FF.out ek141_323).symm) (W.eq (g2 := F0 m 144 ls [.ref T141_310.root]) rfl ?_)
          have hP : va_P D vwCl ([(ugu, .inl (ct 1, 7, .inl g_ugu)), (mm, .inr (16, fs_mm)), (utape, .inl (ct 1, 2000, .inl g_utape))] ++ (T141_310.cells Z0)) _ := hP.perm (seg_perm (fun f => by have w0 := seg_sum (List.Perm.of_eq ep131_322) f; have w1 := seg_sum (List.Perm.of_eq ep138_322) f; have w2 := seg_sum hp141_316 f; have w3 := seg_sum (List.Perm.of_eq ep141_324) f; simp only [ST.cells_leaf, ST.cells_minus, ST.cells_group, ST.cells_acc, ST.cells_two, FT.cells_two, FT.cells_inv, FT.cells_test, FT.cells_pair, List.map_append, List.sum_append, List.map_nil, List.sum_nil] at w0 w1 w2 w3 ⊢ <;> omega))
          have hD : va_D A ([(ugu, .inl (ct 1, 7, .inl g_ugu)), (mm, .inr (16, fs_mm)), (utape, .inl (ct 1, 2000, .inl g_utape))] ++ (T141_310.cells Z0)) := hD.perm (seg_perm (fun f => by have w0 := seg_sum (List.Perm.of_eq ep131_322) f; have w1 := seg_sum (List.Perm.of_eq ep138_322) f; have w2 := seg_sum hp141_316 f; have w3 := seg_sum (List.Perm.of_eq ep141_324) f; simp only [ST.cells_leaf, ST.cells_minus, ST.cells_group, ST.cells_acc, ST.cells_two, FT.cells_two, FT.cells_inv, FT.cells_test, FT.cells_pair, List.map_append, List.sum_append, List.map_nil, List.sum_nil] at w0 w1 w2 w3 ⊢ <;> omega))
          exact et_r (SX := List Value × Int32 × Int32 × Int32 × Int32 × Int32 × (Nat → Int32)) hQ hx hb hr hlocks dX16_readAccessed_144 (fs_mm, x_mm_5, x_mm_6, x_mm_7, x_mm_10, x_mm_11, x_mm_13, g_ugu, T141_310, c141_322, k141_323) ⟨(SB.rf _ _), h_x_mm_5, hf_mm_5, h_x_mm_6, hf_mm_6, (rg_w h_x_mm_7 (by decide)), hf_mm_7, h_x_mm_10, hf_mm_10, h_x_mm_11, hf_mm_11, h_x_mm_13, hf_mm_13, h_g_ugu, rfl, hp141_315, (show x_mm_7.toInt ≤ x_mm_8.toInt by have q0 := FF.out hq1; omega), (show x_mm_6.toInt ≤ x_mm_8.toInt by have q0 := FF.out hq2; omega), (show x_mm_5.toInt ≠ 0 → x_mm_6.toInt + 1 ≤ x_mm_7.toInt by have q0 := h_x_mm_5.1; have q1 := FF.out hq3; omega), (show x_mm_6.toInt ≤ x_mm_6.toInt by omega), (show ((c141_322 : Nat) : Int) ≤ 17 * (x_mm_6.toInt - x_mm_6.toInt) + 19 by have q0 := FF.out hp131_315; have q1 := FF.out ec131_320; have q2 := FF.out hp138_315; have q3 := FF.out ec138_320; have q4 := FF.out hp141_317; have q5 := FF.out ec141_322; omega), (show ((k141_323 : Nat) : Int) ≤ 100 * (x_mm_6.toInt - x_mm_6.toInt) + 109 by have q0 := FF.out hp131_316; have q1 := FF.out ek131_321; have q2 := FF.out hp138_316; have q3 := FF.out ek138_321; have q4 := FF.out hp141_318; have q5 := FF.out ek141_323; omega), (show ((T141_310.sz : Nat) : Int) ≤ 19 * (x_mm_6.toInt - x_mm_6.toInt) + 19 by have q0 := FF.out hp131_317; have q1 := FF.out hp138_317; have q2 := FF.out hp141_320; omega), (show 4 * ((T141_310.c4 : Nat) : Int) ≤ (x_mm_6.toInt - x_mm_6.toInt) by have q0 := FF.out hp131_319; have q1 := FF.out hp138_319; have q2 := FF.out hp141_321; omega), (show ((T141_310.dep : Nat) : Int) ≤ 83 by have q0 := FF.out hp131_318; have q1 := FF.out hp138_318; have q2 := FF.out hp141_319; omega), (show x_mm_10.toInt = x_mm_10.toInt by omega)⟩ hP hD hS [1, 2, 0] (by decide) rfl (Nat.le_refl _) (Nat.le_refl _) (FF.out mc141_322) (FF.out mk141_323)
        refine lv_tableOut (tgt := 145) hx hb dX16_readAccessed_89 (by have q0 := r21_3; have q1 := q0.1; have q2 := q0.2; omega) (by decide) ?_
        have hl89_5001 := FF.mk h89_101
        have hl89_5002 := FF.mk h89_111
        have hl89_5003 := FF.mk h89_121
        refine lv_iload_n hx hb dX16_readAccessed_145 rfl (lv_at hl 0 rfl) ?_
        obtain ⟨m146_1, gm146_1⟩ : ∃ m9 : Nat, m9 + 0 = MC := ⟨MC - 0, Nat.sub_add_cancel (Nat.zero_le MC)⟩
        have em146_1 := FF.mk gm146_1
        obtain ⟨m146_2, gm146_2⟩ : ∃ m9 : Nat, m9 + 0 = MS := ⟨MS - 0, Nat.sub_add_cancel (Nat.zero_le MS)⟩
        have em146_2 := FF.mk gm146_2
        refine gt_q (pl := (([] : va_W))) (wr := [(ugu, .inl (ct 1, 7, .inl g_ugu)), (mm, .inr (16, fs_mm)), (utape, .inl (ct 1, 2000, .inl g_utape))]) [] [0, 1, 2] (rt_S (As := [.int v0]) (rest := []) (c_X16_guard l hst D ct m146_1 m146_2 v0 (show 16 ≤ ((m146_1 : Nat) : Int) by have q0 := FF.out hq2; have q1 := FF.out hq4; have q2 := FF.out em146_1; omega) (show 90 ≤ ((m146_2 : Nat) : Int) by have q0 := FF.out hq2; have q1 := FF.out hq5; have q2 := FF.out em146_2; omega) _) (cb_of (n := 1) hn mw_2126 mw_13 mw_2124 mhX16_guard ⟨(Nat.le_of_ble_eq_true rfl), (Nat.le_of_ble_eq_true rfl)⟩) hx hb hml hown hn hK hSK hZ hS mw_2125 rfl hl.1 (Nat.le_of_ble_eq_true rfl) dX16_readAccessed_146 ⟨(Nat.le_of_eq ((Nat.add_comm _ _).trans gm146_1)), (Nat.le_of_eq ((Nat.add_comm _ _).trans gm146_2))⟩) hP hD hS hA rfl rfl (by decide) (by decide) (by decide) (fun xq146_6 ux146_7 xfs146_8 H locs hpx146_9 hpexfs146_8 hP hD hS => ?_) (fun r146_3 u146_4 H locs hp146_5 hP hD hS => ?_)
        · exact hpx146_9.elim
        obtain ⟨T146_310, kc146_311, kn146_312⟩ := u146_4
        obtain ⟨hp146_313, hp146_314, hp146_315, hp146_316, hp146_317, hp146_318, hp146_319⟩ := hp146_5
        subst hp146_313
        replace hp146_315 : FF (((kc146_311 : Nat) : Int) ≤ 16) := hp146_315
        replace hp146_316 : FF (((kn146_312 : Nat) : Int) ≤ 90) := hp146_316
        replace hp146_317 : FF (((T146_310.sz : Nat) : Int) ≤ 16) := hp146_317
        replace hp146_318 : FF (((T146_310.dep : Nat) : Int) ≤ 1) := hp146_318
        replace hp146_319 : FF (((T146_310.c4 : Nat) : Int) ≤ 0) := hp146_319
        obtain ⟨c146_320, ec146_320⟩ : ∃ x9 : Nat, x9 = 0 + kc146_311 := ⟨_, rfl⟩
        have ec146_320 := FF.mk ec146_320
        have mc146_320 : FF (c146_320 ≤ MC) := FF.mk (Int.ofNat_le.mp (show ((c146_320 : Nat) : Int) ≤ ((MC : Nat) : Int) by have q0 := FF.out hq2; have q1 := FF.out hq4; have q2 := FF.out hp146_315; have q3 := FF.out ec146_320; omega))
        obtain ⟨k146_321, ek146_321⟩ : ∃ x9 : Nat, x9 = 0 + kn146_312 := ⟨_, rfl⟩
        have ek146_321 := FF.mk ek146_321
        have mk146_321 : FF (k146_321 ≤ MS) := FF.mk (Int.ofNat_le.mp (show ((k146_321 : Nat) : Int) ≤ ((MS : Nat) : Int) by have q0 := FF.out hq2; have q1 := FF.out hq5; have q2 := FF.out hp146_316; have q3 := FF.out ek146_321; omega))
        have hP : va_P D vwCl (([(ugu, .inl (ct 1, 7, .inl g_ugu)), (mm, .inr (16, fs_mm)), (utape, .inl (ct 1, 2000, .inl g_utape))] ++ (T146_310.cells Z0)) ++ (([] : va_W))) _ := hP
        have hD : va_D A (([(ugu, .inl (ct 1, 7, .inl g_ugu)), (mm, .inr (16, fs_mm)), (utape, .inl (ct 1, 2000, .inl g_utape))] ++ (T146_310.cells Z0)) ++ (([] : va_W))) := hD
        have hP := pool_in hP
        have hD := pool_inD hD
        obtain ⟨p146_322, ep146_322⟩ : ∃ p9 : va_W, p9 = (([] : va_W) ++ (T146_310.cells Z0)) := ⟨_, rfl⟩
        rw [← ep146_322] at hP hD
        have hk146_323 : FF (0 ≤ ((T146_310.sz : Nat) : Int)) := Int.natCast_nonneg _
        have hk146_324 : FF (0 ≤ ((T146_310.dep : Nat) : Int)) := Int.natCast_nonneg _
        have hk146_325 : FF (0 ≤ ((T146_310.c4 : Nat) : Int)) := Int.natCast_nonneg _
        have hP : va_P D vwCl ([(ugu, .inl (ct 1, 7, .inl g_ugu)), (mm, .inr (16, fs_mm)), (utape, .inl (ct 1, 2000, .inl g_utape))] ++ (p146_322)) _ := hP
        have hD : va_D A ([(ugu, .inl (ct 1, 7, .inl g_ugu)), (mm, .inr (16, fs_mm)), (utape, .inl (ct 1, 2000, .inl g_utape))] ++ (p146_322)) := hD
        refine W.widen (k := c146_320) (n := k146_321) (Nat.le_of_eq (FF.out ec146_320).symm) (Nat.le_of_eq (FF.out ek146_321).symm) (W.eq (g2 := F0 m 149 ls [.ref T146_310.root]) rfl ?_)
        have hP : va_P D vwCl ([(ugu, .inl (ct 1, 7, .inl g_ugu)), (mm, .inr (16, fs_mm)), (utape, .inl (ct 1, 2000, .inl g_utape))] ++ (T146_310.cells Z0)) _ := hP.perm (seg_perm (fun f => by have w0 := seg_sum (List.Perm.of_eq ep146_322) f; simp only [ST.cells_leaf, ST.cells_minus, ST.cells_group, ST.cells_acc, ST.cells_two, FT.cells_two, FT.cells_inv, FT.cells_test, FT.cells_pair, List.map_append, List.sum_append, List.map_nil, List.sum_nil] at w0 ⊢ <;> omega))
        have hD : va_D A ([(ugu, .inl (ct 1, 7, .inl g_ugu)), (mm, .inr (16, fs_mm)), (utape, .inl (ct 1, 2000, .inl g_utape))] ++ (T146_310.cells Z0)) := hD.perm (seg_perm (fun f => by have w0 := seg_sum (List.Perm.of_eq ep146_322) f; simp only [ST.cells_leaf, ST.cells_minus, ST.cells_group, ST.cells_acc, ST.cells_two, FT.cells_two, FT.cells_inv, FT.cells_test, FT.cells_pair, List.map_append, List.sum_append, List.map_nil, List.sum_nil] at w0 ⊢ <;> omega))
        exact et_r (SX := List Value × Int32 × Int32 × Int32 × Int32 × Int32 × (Nat → Int32)) hQ hx hb hr hlocks dX16_readAccessed_149 (fs_mm, x_mm_5, x_mm_6, x_mm_7, x_mm_10, x_mm_11, x_mm_13, g_ugu, T146_310, c146_320, k146_321) ⟨(SB.rf _ _), h_x_mm_5, hf_mm_5, h_x_mm_6, hf_mm_6, (rg_w h_x_mm_7 (by decide)), hf_mm_7, h_x_mm_10, hf_mm_10, h_x_mm_11, hf_mm_11, h_x_mm_13, hf_mm_13, h_g_ugu, rfl, hp146_314, (show x_mm_7.toInt ≤ x_mm_8.toInt by have q0 := FF.out hq1; omega), (show x_mm_6.toInt ≤ x_mm_8.toInt by have q0 := FF.out hq2; omega), (show x_mm_5.toInt ≠ 0 → x_mm_6.toInt + 1 ≤ x_mm_7.toInt by have q0 := h_x_mm_5.1; have q1 := FF.out hq3; omega), (show x_mm_6.toInt ≤ x_mm_6.toInt by omega), (show ((c146_320 : Nat) : Int) ≤ 17 * (x_mm_6.toInt - x_mm_6.toInt) + 19 by have q0 := FF.out hp146_315; have q1 := FF.out ec146_320; omega), (show ((k146_321 : Nat) : Int) ≤ 100 * (x_mm_6.toInt - x_mm_6.toInt) + 109 by have q0 := FF.out hp146_316; have q1 := FF.out ek146_321; omega), (show ((T146_310.sz : Nat) : Int) ≤ 19 * (x_mm_6.toInt - x_mm_6.toInt) + 19 by have q0 := FF.out hp146_317; omega), (show 4 * ((T146_310.c4 : Nat) : Int) ≤ (x_mm_6.toInt - x_mm_6.toInt) by have q0 := FF.out hp146_319; omega), (show ((T146_310.dep : Nat) : Int) ≤ 83 by have q0 := FF.out hp146_318; omega), (show x_mm_10.toInt = x_mm_10.toInt by omega)⟩ hP hD hS [1, 2, 0] (by decide) rfl (Nat.le_refl _) (Nat.le_refl _) (FF.out mc146_320) (FF.out mk146_321)
      refine lv_icmp_ne (tgt := 88) hx hb dX16_readAccessed_26 (by decide) (fun c26_1 => ?_) (fun c26_1 => ?_)
      · have t26_2 := FF.mk (i_ne c26_1)
        have r26_3 : rg v0 2 6 := rg_neAl t26_2 r21_3 (show rg (1 : Int32) 1 1 from rg_l (by decide)) (by decide)
        exact b88  H locs ls  (lv_sub hl [1] rfl) hP hD hS
      · have t26_2 := FF.mk (i_eq c26_1)
        have r26_3 : rg v0 1 1 := rg_eqA t26_2 r21_3 (show rg (1 : Int32) 1 1 from rg_l (by decide)) (by decide)
        refine lv_aload_n hx hb dX16_readAccessed_29 rfl (lv_at hl 0 rfl) ?_
        refine va_ldcwS (own := RX16) (tx := "proto") (index := 393) (q := (ct (100 + 52))) hx hb hown (hSK 52 (by decide)) dX16_readAccessed_30 ?_
        refine gq_i (k1 := 0) (n1 := 0) (wr := [(ugu, .inl (ct 1, 7, .inl g_ugu))]) [1, 2] [0] (rn_V (As := [.ref (ct (100 + 52))]) (rest := []) (c_X16_is l D ct mm 52 5 fs_mm utape x_mm_5 x_mm_6 x_mm_7 g_utape ⟨by decide, rfl⟩ hlen_mm hf_mm_0 h_x_mm_5 hf_mm_5 h_x_mm_6 hf_mm_6 h_x_mm_7 hf_mm_7 h_g_utape (show x_mm_7.toInt ≤ 2000 by have q0 := FF.out hq0; omega) (show x_mm_5.toInt ≠ 0 → x_mm_6.toInt + 1 ≤ x_mm_7.toInt by have q0 := h_x_mm_5.1; have q1 := FF.out hq3; omega) _) (cb_of (n := 1) hn mw_1962 mw_13 mw_1959 mhX16_is ⟨(Nat.le_of_ble_eq_true rfl), (Nat.le_of_ble_eq_true rfl)⟩) hx hb hml hown hn hK hSK hZ hS mw_1961 mw_s186 (ci := 16) (q0 := 0) rfl rfl rfl rfl hl.1 (Nat.le_of_ble_eq_true rfl) dX16_readAccessed_33 ⟨(Nat.zero_le MC), (Nat.zero_le MS)⟩) hP hD hS hA rfl rfl (by decide) (by decide) (by decide) (Nat.le_refl _) (Nat.le_refl _) (fun r33_1 u33_2 H locs hp33_3 hP hD hS => ?_)
        obtain ⟨hp33_4, hp33_5⟩ := hp33_3
        have hp33_4 : rg r33_1 0 1 := hp33_4
        replace hp33_5 : FF (r33_1.toInt = 1 → x_mm_5.toInt ≠ 0 ∧ x_mm_7.toInt - x_mm_6.toInt = ((5 : Nat) : Int)) := hp33_5
        have hP : va_P D vwCl ([(ugu, .inl (ct 1, 7, .inl g_ugu)), (mm, .inr (16, fs_mm)), (utape, .inl (ct 1, 2000, .inl g_utape))] ++ (([] : va_W))) _ := hP
        have hD : va_D A ([(ugu, .inl (ct 1, 7, .inl g_ugu)), (mm, .inr (16, fs_mm)), (utape, .inl (ct 1, 2000, .inl g_utape))] ++ (([] : va_W))) := hD
        refine lv_if_eq (tgt := 88) hx hb dX16_readAccessed_36 (by decide) (fun c36_1 => ?_) (fun c36_1 => ?_)
        · have t36_2 := FF.mk (i_eq c36_1)
          have r36_3 : rg r33_1 0 0 := rg_eqA t36_2 hp33_4 (show rg (0 : Int32) 0 0 from rg_l (by decide)) (by decide)
          exact b88  H locs ls  (lv_sub hl [1] rfl) hP hD hS
        · have t36_2 := FF.mk (i_ne c36_1)
          have r36_3 : rg r33_1 1 1 := rg_neAl t36_2 hp33_4 (show rg (0 : Int32) 0 0 from rg_l (by decide)) (by decide)
          exact b39  H locs ls  (lv_sub hl [0, 1] rfl) hP hD hS
  · have t7_2 := FF.mk (i_ne c7_1)
    have r7_3 : rg r4_1 1 1 := rg_neAl t7_2 hp4_4 (show rg (0 : Int32) 0 0 from rg_l (by decide)) (by decide)
    refine lv_aload_n hx hb dX16_readAccessed_10 rfl (lv_at hl 0 rfl) ?_
    refine lv_iload_n hx hb dX16_readAccessed_11 rfl (lv_at hl 1 rfl) ?_
    refine va_put (D := D) (ci := 16) (v := .int v0) (ty := .int) (C := RX16) (T := TX16) (N := 78) hx hb (htX16 hn) (fun _ h => h) tyX16 tyX16_ok nmX16 hown hK hP hD hS 1 rfl rfl 11 (by decide) (hn.get mw_1550 rfl) (fun _ h9 => h9) rfl (by decide +kernel) rfl rfl (by rw [hlen_mm]; decide) dX16_readAccessed_12 (fun H locs hP hD hS => ?_)
    have hP : va_P D vwCl ([(ugu, .inl (ct 1, 7, .inl g_ugu)), (mm, .inr (16, (fs_mm.set 11 (.int v0)))), (utape, .inl (ct 1, 2000, .inl g_utape))] ++ (([] : va_W))) _ := hP
    have hD : va_D A ([(ugu, .inl (ct 1, 7, .inl g_ugu)), (mm, .inr (16, (fs_mm.set 11 (.int v0)))), (utape, .inl (ct 1, 2000, .inl g_utape))] ++ (([] : va_W))) := hD
    obtain ⟨m12_1, em12_1⟩ : ∃ z, z = (fs_mm.set 11 (.int v0)) := ⟨_, rfl⟩
    rw [← em12_1] at hP hD
    have hsm12_1 : SB fs_mm m12_1 [5, 6, 7, 10, 11, 13] := by rw [em12_1]; exact SB.set (SB.rf _ _) (by decide)
    have hfm12_1_5 : m12_1[5]? = some (.int x_mm_5) := by rw [em12_1]; exact fs_ne (by decide) hf_mm_5
    have hfm12_1_6 : m12_1[6]? = some (.int x_mm_6) := by rw [em12_1]; exact fs_ne (by decide) hf_mm_6
    have hfm12_1_7 : m12_1[7]? = some (.int x_mm_7) := by rw [em12_1]; exact fs_ne (by decide) hf_mm_7
    have hfm12_1_10 : m12_1[10]? = some (.int x_mm_10) := by rw [em12_1]; exact fs_ne (by decide) hf_mm_10
    have hfm12_1_13 : m12_1[13]? = some (.int x_mm_13) := by rw [em12_1]; exact fs_ne (by decide) hf_mm_13
    have hfm12_1_11 : m12_1[11]? = some (.int v0) := by rw [em12_1]; exact fs_eq (by rw [hlen_mm]; decide)
    have hP : va_P D vwCl ([(ugu, .inl (ct 1, 7, .inl g_ugu)), (mm, .inr (16, m12_1)), (utape, .inl (ct 1, 2000, .inl g_utape))] ++ (([] : va_W))) _ := hP
    have hD : va_D A ([(ugu, .inl (ct 1, 7, .inl g_ugu)), (mm, .inr (16, m12_1)), (utape, .inl (ct 1, 2000, .inl g_utape))] ++ (([] : va_W))) := hD
    refine lv_aload_n hx hb dX16_readAccessed_15 rfl (lv_at hl 0 rfl) ?_
    obtain ⟨m16_1, gm16_1⟩ : ∃ m9 : Nat, m9 + 0 = MC := ⟨MC - 0, Nat.sub_add_cancel (Nat.zero_le MC)⟩
    have em16_1 := FF.mk gm16_1
    obtain ⟨m16_2, gm16_2⟩ : ∃ m9 : Nat, m9 + 0 = MS := ⟨MS - 0, Nat.sub_add_cancel (Nat.zero_le MS)⟩
    have em16_2 := FF.mk gm16_2
    refine gt_q (pl := (([] : va_W))) (wr := []) [1, 2, 0] [] (rt_V (As := []) (rest := []) (c_X16_readRelation l hst D ct m16_1 m16_2 mm m12_1 utape x_mm_5 x_mm_6 x_mm_7 x_mm_8 x_mm_10 v0 ugu g_utape g_ugu (hsm12_1.1.trans hlen_mm) (SB.get hsm12_1 (by decide) hf_mm_0) h_x_mm_5 hfm12_1_5 h_x_mm_6 hfm12_1_6 h_x_mm_7 hfm12_1_7 h_x_mm_8 (SB.get hsm12_1 (by decide) hf_mm_8) h_x_mm_10 hfm12_1_10 (rg_w h_v0 (by decide)) hfm12_1_11 (SB.get hsm12_1 (by decide) hf_mm_12) h_g_utape h_g_ugu (show x_mm_7.toInt ≤ 2000 by have q0 := FF.out hq0; omega) (show x_mm_7.toInt ≤ x_mm_8.toInt by have q0 := FF.out hq1; omega) (show x_mm_6.toInt ≤ x_mm_8.toInt by have q0 := FF.out hq2; omega) (show x_mm_5.toInt ≠ 0 → x_mm_6.toInt + 1 ≤ x_mm_7.toInt by have q0 := h_x_mm_5.1; have q1 := FF.out hq3; omega) (show 17 * (x_mm_8.toInt - x_mm_6.toInt) + 120 ≤ ((m16_1 : Nat) : Int) by have q0 := FF.out hq4; have q1 := FF.out em16_1; omega) (show 100 * (x_mm_8.toInt - x_mm_6.toInt) + 700 ≤ ((m16_2 : Nat) : Int) by have q0 := FF.out hq5; have q1 := FF.out em16_2; omega) _) (cb_of (n := 0) hn mw_2027 mw_13 mw_2024 mhX16_readRelation ⟨(Nat.le_of_ble_eq_true rfl), (Nat.le_of_ble_eq_true rfl)⟩) hx hb hml hown hn hK hSK hZ hS mw_2026 mw_s191 (ci := 16) (q0 := 0) rfl rfl rfl rfl hl.1 (Nat.le_of_ble_eq_true rfl) dX16_readAccessed_16 ⟨(Nat.le_of_eq ((Nat.add_comm _ _).trans gm16_1)), (Nat.le_of_eq ((Nat.add_comm _ _).trans gm16_2))⟩) hP hD hS hA rfl rfl (by decide) (by decide) (by decide) (fun xq16_6 ux16_7 xfs16_8 H locs hpx16_9 hpexfs16_8 hP hD hS => ?_) (fun r16_3 u16_4 H locs hp16_5 hP hD hS => ?_)
    · obtain ⟨fs2_mm16_10, y_mm_616_11, y_mm_716_12, y_mm_1016_13, y_mm_1116_14, y_mm_1316_15, k_ugu16_16⟩ := ux16_7
      obtain ⟨hp16_17, hp16_18, hp16_19, hp16_20, hp16_21, hp16_22, hp16_23, hp16_24, hp16_25, hp16_26, hp16_27, hp16_28⟩ := hpx16_9
      have hs16_29 : SB fs_mm fs2_mm16_10 [5, 6, 7, 10, 11, 13] := SB.trans hsm12_1 hp16_17 (by decide)
      have hp16_18 : rg y_mm_616_11 0 2000 := hp16_18
      have hp16_20 : rg y_mm_716_12 0 2002 := hp16_20
      have hp16_22 : rg y_mm_1016_13 0 2 := hp16_22
      have hp16_24 : rg y_mm_1116_14 (-1) 6 := hp16_24
      have hp16_26 : rg y_mm_1316_15 0 6 := hp16_26
      have hP : va_P D vwCl [(mm, .inr (16, fs2_mm16_10)), (utape, .inl (ct 1, 2000, .inl g_utape)), (ugu, .inl (ct 1, 7, .inl k_ugu16_16)), (xq16_6, .inr (15, xfs16_8))] _ := hP
      have hD : va_D A [(mm, .inr (16, fs2_mm16_10)), (utape, .inl (ct 1, 2000, .inl g_utape)), (ugu, .inl (ct 1, 7, .inl k_ugu16_16)), (xq16_6, .inr (15, xfs16_8))] := hD
      refine vx_widen (k := MC) (n := MS) (Nat.le_of_eq ((Nat.add_comm _ _).trans gm16_1)) (Nat.le_of_eq ((Nat.add_comm _ _).trans gm16_2)) ?_
      exact xo hQ htab hlocks hK rfl hP hD hS (fs2_mm16_10, y_mm_616_11, y_mm_716_12, y_mm_1016_13, y_mm_1116_14, y_mm_1316_15, k_ugu16_16) (fs := xfs16_8) ⟨hs16_29, hp16_18, hp16_19, hp16_20, hp16_21, hp16_22, hp16_23, hp16_24, hp16_25, (rg_w hp16_26 (by decide)), hp16_27, hp16_28⟩ hpexfs16_8 [0, 1, 2, 3] (by decide) rfl (kq := 3) rfl (Nat.le_refl _) (Nat.le_refl _)
    obtain ⟨fs2_mm16_310, y_mm_516_311, y_mm_616_312, y_mm_716_313, y_mm_1016_314, y_mm_1116_315, y_mm_1316_316, k_ugu16_317, T16_318, kc16_319, kn16_320⟩ := u16_4
    obtain ⟨hp16_321, hp16_322, hp16_323, hp16_324, hp16_325, hp16_326, hp16_327, hp16_328, hp16_329, hp16_330, hp16_331, hp16_332, hp16_333, hp16_334, hp16_335, hp16_336, hp16_337, hp16_338, hp16_339, hp16_340, hp16_341, hp16_342, hp16_343, hp16_344, hp16_345, hp16_346, hp16_347⟩ := hp16_5
    have hs16_348 : SB fs_mm fs2_mm16_310 [5, 6, 7, 10, 11, 13] := SB.trans hsm12_1 hp16_321 (by decide)
    have hp16_322 : rg y_mm_516_311 0 2 := hp16_322
    have hp16_324 : rg y_mm_616_312 0 2000 := hp16_324
    have hp16_326 : rg y_mm_716_313 0 2001 := hp16_326
    have hp16_328 : rg y_mm_1016_314 0 2 := hp16_328
    have hp16_330 : rg y_mm_1116_315 (-1) 6 := hp16_330
    have hp16_332 : rg y_mm_1316_316 0 6 := hp16_332
    subst hp16_335
    replace hp16_337 : FF (y_mm_716_313.toInt ≤ x_mm_8.toInt) := hp16_337
    replace hp16_338 : FF (y_mm_616_312.toInt ≤ x_mm_8.toInt) := hp16_338
    replace hp16_339 : FF (y_mm_516_311.toInt ≠ 0 → y_mm_616_312.toInt + 1 ≤ y_mm_716_313.toInt) := hp16_339
    replace hp16_340 : FF (x_mm_7.toInt ≤ y_mm_616_312.toInt) := hp16_340
    replace hp16_341 : FF (1 ≤ y_mm_616_312.toInt - x_mm_6.toInt) := hp16_341
    replace hp16_342 : FF (((kc16_319 : Nat) : Int) ≤ 10 * (y_mm_616_312.toInt - x_mm_6.toInt) + 0) := hp16_342
    replace hp16_343 : FF (((kn16_320 : Nat) : Int) ≤ 60 * (y_mm_616_312.toInt - x_mm_6.toInt) + 0) := hp16_343
    replace hp16_344 : FF (((T16_318.sz : Nat) : Int) ≤ 10 * (y_mm_616_312.toInt - x_mm_6.toInt) + 0) := hp16_344
    replace hp16_345 : FF (4 * ((T16_318.c4 : Nat) : Int) ≤ (y_mm_616_312.toInt - x_mm_6.toInt)) := hp16_345
    replace hp16_346 : FF (((T16_318.dep : Nat) : Int) ≤ 83) := hp16_346
    replace hp16_347 : FF (y_mm_1016_314.toInt = x_mm_10.toInt) := hp16_347
    obtain ⟨c16_349, ec16_349⟩ : ∃ x9 : Nat, x9 = 0 + kc16_319 := ⟨_, rfl⟩
    have ec16_349 := FF.mk ec16_349
    have mc16_349 : FF (c16_349 ≤ MC) := FF.mk (Int.ofNat_le.mp (show ((c16_349 : Nat) : Int) ≤ ((MC : Nat) : Int) by have q0 := FF.out hq2; have q1 := FF.out hq4; have q2 := FF.out hp16_338; have q3 := FF.out hp16_342; have q4 := FF.out ec16_349; omega))
    obtain ⟨k16_350, ek16_350⟩ : ∃ x9 : Nat, x9 = 0 + kn16_320 := ⟨_, rfl⟩
    have ek16_350 := FF.mk ek16_350
    have mk16_350 : FF (k16_350 ≤ MS) := FF.mk (Int.ofNat_le.mp (show ((k16_350 : Nat) : Int) ≤ ((MS : Nat) : Int) by have q0 := FF.out hq2; have q1 := FF.out hq5; have q2 := FF.out hp16_338; have q3 := FF.out hp16_343; have q4 := FF.out ek16_350; omega))
    have hP : va_P D vwCl (([(mm, .inr (16, fs2_mm16_310)), (utape, .inl (ct 1, 2000, .inl g_utape)), (ugu, .inl (ct 1, 7, .inl k_ugu16_317))] ++ (T16_318.cells Z0)) ++ (([] : va_W))) _ := hP
    have hD : va_D A (([(mm, .inr (16, fs2_mm16_310)), (utape, .inl (ct 1, 2000, .inl g_utape)), (ugu, .inl (ct 1, 7, .inl k_ugu16_317))] ++ (T16_318.cells Z0)) ++ (([] : va_W))) := hD
    have hP := pool_in hP
    have hD := pool_inD hD
    obtain ⟨p16_351, ep16_351⟩ : ∃ p9 : va_W, p9 = (([] : va_W) ++ (T16_318.cells Z0)) := ⟨_, rfl⟩
    rw [← ep16_351] at hP hD
    have hk16_352 : FF (0 ≤ ((T16_318.sz : Nat) : Int)) := Int.natCast_nonneg _
    have hk16_353 : FF (0 ≤ ((T16_318.dep : Nat) : Int)) := Int.natCast_nonneg _
    have hk16_354 : FF (0 ≤ ((T16_318.c4 : Nat) : Int)) := Int.natCast_nonneg _
    have hP : va_P D vwCl ([(mm, .inr (16, fs2_mm16_310)), (utape, .inl (ct 1, 2000, .inl g_utape)), (ugu, .inl (ct 1, 7, .inl k_ugu16_317))] ++ (p16_351)) _ := hP
    have hD : va_D A ([(mm, .inr (16, fs2_mm16_310)), (utape, .inl (ct 1, 2000, .inl g_utape)), (ugu, .inl (ct 1, 7, .inl k_ugu16_317))] ++ (p16_351)) := hD
    refine W.widen (k := c16_349) (n := k16_350) (Nat.le_of_eq (FF.out ec16_349).symm) (Nat.le_of_eq (FF.out ek16_350).symm) (W.eq (g2 := F0 m 19 ls [.ref T16_318.root]) rfl ?_)
    have hP : va_P D vwCl ([(mm, .inr (16, fs2_mm16_310)), (utape, .inl (ct 1, 2000, .inl g_utape)), (ugu, .inl (ct 1, 7, .inl k_ugu16_317))] ++ (T16_318.cells Z0)) _ := hP.perm (seg_perm (fun f => by have w0 := seg_sum (List.Perm.of_eq ep16_351) f; simp only [ST.cells_leaf, ST.cells_minus, ST.cells_group, ST.cells_acc, ST.cells_two, FT.cells_two, FT.cells_inv, FT.cells_test, FT.cells_pair, List.map_append, List.sum_append, List.map_nil, List.sum_nil] at w0 ⊢ <;> omega))
    have hD : va_D A ([(mm, .inr (16, fs2_mm16_310)), (utape, .inl (ct 1, 2000, .inl g_utape)), (ugu, .inl (ct 1, 7, .inl k_ugu16_317))] ++ (T16_318.cells Z0)) := hD.perm (seg_perm (fun f => by have w0 := seg_sum (List.Perm.of_eq ep16_351) f; simp only [ST.cells_leaf, ST.cells_minus, ST.cells_group, ST.cells_acc, ST.cells_two, FT.cells_two, FT.cells_inv, FT.cells_test, FT.cells_pair, List.map_append, List.sum_append, List.map_nil, List.sum_nil] at w0 ⊢ <;> omega))
    exact et_r (SX := List Value × Int32 × Int32 × Int32 × Int32 × Int32 × (Nat → Int32)) hQ hx hb hr hlocks dX16_readAccessed_19 (fs2_mm16_310, y_mm_516_311, y_mm_616_312, y_mm_716_313, y_mm_1016_314, y_mm_1116_315, y_mm_1316_316, k_ugu16_317, T16_318, c16_349, k16_350) ⟨hs16_348, hp16_322, hp16_323, hp16_324, hp16_325, (rg_w hp16_326 (by decide)), hp16_327, hp16_328, hp16_329, hp16_330, hp16_331, (rg_w hp16_332 (by decide)), hp16_333, hp16_334, rfl, hp16_336, (show y_mm_716_313.toInt ≤ x_mm_8.toInt by have q0 := FF.out hp16_337; omega), (show y_mm_616_312.toInt ≤ x_mm_8.toInt by have q0 := FF.out hp16_338; omega), (show y_mm_516_311.toInt ≠ 0 → y_mm_616_312.toInt + 1 ≤ y_mm_716_313.toInt by have q0 := hp16_322.1; have q1 := FF.out hp16_339; omega), (show x_mm_6.toInt ≤ y_mm_616_312.toInt by have q0 := FF.out hp16_341; omega), (show ((c16_349 : Nat) : Int) ≤ 17 * (y_mm_616_312.toInt - x_mm_6.toInt) + 19 by have q0 := FF.out hp16_341; have q1 := FF.out hp16_342; have q2 := FF.out ec16_349; omega), (show ((k16_350 : Nat) : Int) ≤ 100 * (y_mm_616_312.toInt - x_mm_6.toInt) + 109 by have q0 := FF.out hp16_341; have q1 := FF.out hp16_343; have q2 := FF.out ek16_350; omega), (show ((T16_318.sz : Nat) : Int) ≤ 19 * (y_mm_616_312.toInt - x_mm_6.toInt) + 19 by have q0 := FF.out hp16_341; have q1 := FF.out hp16_344; omega), (show 4 * ((T16_318.c4 : Nat) : Int) ≤ (y_mm_616_312.toInt - x_mm_6.toInt) by have q0 := FF.out hp16_345; omega), (show ((T16_318.dep : Nat) : Int) ≤ 83 by have q0 := FF.out hp16_346; omega), (show y_mm_1016_314.toInt = x_mm_10.toInt by have q0 := FF.out hp16_347; omega)⟩ hP hD hS [0, 1, 2] (by decide) rfl (Nat.le_refl _) (Nat.le_refl _) (FF.out mc16_349) (FF.out mk16_350)
set_option maxHeartbeats 2000000 in
theorem c_X16_readAddressed (l : Launch) (hst : l.stackTraces = false) (D : va_G) (ct : Nat → ClassId) (MC : Nat) (MS : Nat) (mm : Nat) (v0 : Int32) (fs_mm : List Value) (utape : Nat) (x_mm_5 : Int32) (x_mm_6 : Int32) (x_mm_7 : Int32) (x_mm_8 : Int32) (g_utape : Nat → Int32) (h_v0 : rg v0 0 2) (hlen_mm : fs_mm.length = 78) (hf_mm_0 : fs_mm[0]? = some (.ref utape)) (h_x_mm_5 : rg x_mm_5 0 2) (hf_mm_5 : fs_mm[5]? = some (.int x_mm_5)) (h_x_mm_6 : rg x_mm_6 0 2000) (hf_mm_6 : fs_mm[6]? = some (.int x_mm_6)) (h_x_mm_7 : rg x_mm_7 0 2001) (hf_mm_7 : fs_mm[7]? = some (.int x_mm_7)) (h_x_mm_8 : rg x_mm_8 0 2000) (hf_mm_8 : fs_mm[8]? = some (.int x_mm_8)) (h_g_utape : Rg g_utape 2000 0 255) (hq0 : x_mm_7.toInt ≤ 2000) (hq1 : x_mm_7.toInt ≤ x_mm_8.toInt) (hq2 : x_mm_6.toInt ≤ x_mm_8.toInt) (hq3 : x_mm_5.toInt ≠ 0 → x_mm_6.toInt + 1 ≤ x_mm_7.toInt) (hq4 : 17 * (x_mm_8.toInt - x_mm_6.toInt) + 120 ≤ ((MC : Nat) : Int)) (hq5 : 100 * (x_mm_8.toInt - x_mm_6.toInt) + 700 ≤ ((MS : Nat) : Int)) (hq6 : x_mm_5.toInt ≠ 0) (hq7 : x_mm_6.toInt + 3 ≤ x_mm_7.toInt) : KT (V := Nat) (S := List Value × Int32 × Int32 × Int32 × FT × Nat × Nat) (SX := List Value × Int32 × Int32) l yX16_readAddressed cX16_readAddressed 8 (some (.object "FilterForgeModel$Filter")) 10 215 D ct [.ref mm, .int v0] [(mm, .inr (16, fs_mm)), (utape, .inl (ct 1, 2000, .inl g_utape))] MC MS (fun r : Nat => some (.ref r)) (fun (r : Nat) (u : List Value × Int32 × Int32 × Int32 × FT × Nat × Nat) => match u with | (fs2_mm, y_mm_5, y_mm_6, y_mm_7, T, kc, kn) => SB fs_mm fs2_mm [5, 6, 7] ∧ rg y_mm_5 0 2 ∧ fs2_mm[5]? = some (.int y_mm_5) ∧ rg y_mm_6 0 2000 ∧ fs2_mm[6]? = some (.int y_mm_6) ∧ rg y_mm_7 0 2002 ∧ fs2_mm[7]? = some (.int y_mm_7) ∧ r = T.root ∧ T.ok ∧ (y_mm_7.toInt ≤ x_mm_8.toInt) ∧ (y_mm_6.toInt ≤ x_mm_8.toInt) ∧ (y_mm_5.toInt ≠ 0 → y_mm_6.toInt + 1 ≤ y_mm_7.toInt) ∧ (x_mm_7.toInt ≤ y_mm_6.toInt) ∧ (1 ≤ y_mm_6.toInt - x_mm_6.toInt) ∧ (((kc : Nat) : Int) ≤ 17 * (y_mm_6.toInt - x_mm_6.toInt) + 0) ∧ (((kn : Nat) : Int) ≤ 100 * (y_mm_6.toInt - x_mm_6.toInt) + 0) ∧ (((T.sz : Nat) : Int) ≤ 19 * (y_mm_6.toInt - x_mm_6.toInt) + 0) ∧ (4 * ((T.c4 : Nat) : Int) ≤ (y_mm_6.toInt - x_mm_6.toInt)) ∧ (((T.dep : Nat) : Int) ≤ 83)) (fun (u : List Value × Int32 × Int32 × Int32 × FT × Nat × Nat) => match u with | (fs2_mm, y_mm_5, y_mm_6, y_mm_7, T, kc, kn) => [(mm, .inr (16, fs2_mm)), (utape, .inl (ct 1, 2000, .inl g_utape))] ++ (T.cells Z0)) (fun (u : List Value × Int32 × Int32 × Int32 × FT × Nat × Nat) => match u with | (fs2_mm, y_mm_5, y_mm_6, y_mm_7, T, kc, kn) => kc) (fun (u : List Value × Int32 × Int32 × Int32 × FT × Nat × Nat) => match u with | (fs2_mm, y_mm_5, y_mm_6, y_mm_7, T, kc, kn) => kn) 15 RX15 peW (fun (u : List Value × Int32 × Int32) => match u with | (fs2_mm, y_mm_6, y_mm_7) => SB fs_mm fs2_mm [5, 6, 7] ∧ rg y_mm_6 0 2000 ∧ fs2_mm[6]? = some (.int y_mm_6) ∧ rg y_mm_7 0 2002 ∧ fs2_mm[7]? = some (.int y_mm_7)) (fun (u : List Value × Int32 × Int32) => match u with | (fs2_mm, y_mm_6, y_mm_7) => [(mm, .inr (16, fs2_mm)), (utape, .inl (ct 1, 2000, .inl g_utape))]) := by
  refine KT_of (by decide) (Nat.le_of_ble_eq_true rfl) (fun p e s m below meth c A Q C0 htab hA H locs hS hP hD hQ ls hl => ?_)
  obtain ⟨hx, hb, hr, hown, hin, hml, hlocks, hn, hK, hZ, hSK⟩ := C0
  have hl : lv_has ls 8 [(0, .ref mm), (1, .int v0)] := hl
  have hP : va_P D vwCl ([(mm, .inr (16, fs_mm)), (utape, .inl (ct 1, 2000, .inl g_utape))] ++ (([] : va_W))) H := by rw [List.append_nil]; exact hP
  have hD : va_D A ([(mm, .inr (16, fs_mm)), (utape, .inl (ct 1, 2000, .inl g_utape))] ++ (([] : va_W))) := by rw [List.append_nil]; exact hD
  replace hq0 := FF.mk hq0
  replace hq1 := FF.mk hq1
  replace hq2 := FF.mk hq2
  replace hq3 := FF.mk hq3
  replace hq4 := FF.mk hq4
  replace hq5 := FF.mk hq5
  replace hq6 := FF.mk hq6
  replace hq7 := FF.mk hq7
  refine lv_aload_n hx hb dX16_readAddressed_0 rfl (lv_at hl 0 rfl) ?_
  refine va_ldcwS (own := RX16) (tx := "host") (index := 362) (q := (ct (100 + 57))) hx hb hown (hSK 57 (by decide)) dX16_readAddressed_1 ?_
  refine gq_i (k1 := 0) (n1 := 0) (wr := []) [0, 1] [] (rn_V (As := [.ref (ct (100 + 57))]) (rest := []) (c_X16_is l D ct mm 57 4 fs_mm utape x_mm_5 x_mm_6 x_mm_7 g_utape ⟨by decide, rfl⟩ hlen_mm hf_mm_0 h_x_mm_5 hf_mm_5 h_x_mm_6 hf_mm_6 h_x_mm_7 hf_mm_7 h_g_utape (show x_mm_7.toInt ≤ 2000 by have q0 := FF.out hq0; omega) (show x_mm_5.toInt ≠ 0 → x_mm_6.toInt + 1 ≤ x_mm_7.toInt by have q0 := FF.out hq7; omega) _) (cb_of (n := 1) hn mw_1962 mw_13 mw_1959 mhX16_is ⟨(Nat.le_of_ble_eq_true rfl), (Nat.le_of_ble_eq_true rfl)⟩) hx hb hml hown hn hK hSK hZ hS mw_1961 mw_s186 (ci := 16) (q0 := 0) rfl rfl rfl rfl hl.1 (Nat.le_of_ble_eq_true rfl) dX16_readAddressed_4 ⟨(Nat.zero_le MC), (Nat.zero_le MS)⟩) hP hD hS hA rfl rfl (by decide) (by decide) (by decide) (Nat.le_refl _) (Nat.le_refl _) (fun r4_1 u4_2 H locs hp4_3 hP hD hS => ?_)
  obtain ⟨hp4_4, hp4_5⟩ := hp4_3
  have hp4_4 : rg r4_1 0 1 := hp4_4
  replace hp4_5 : FF (r4_1.toInt = 1 → x_mm_5.toInt ≠ 0 ∧ x_mm_7.toInt - x_mm_6.toInt = ((4 : Nat) : Int)) := hp4_5
  have hP : va_P D vwCl ([(mm, .inr (16, fs_mm)), (utape, .inl (ct 1, 2000, .inl g_utape))] ++ (([] : va_W))) _ := hP
  have hD : va_D A ([(mm, .inr (16, fs_mm)), (utape, .inl (ct 1, 2000, .inl g_utape))] ++ (([] : va_W))) := hD
  refine lv_if_eq (tgt := 27) hx hb dX16_readAddressed_7 (by decide) (fun c7_1 => ?_) (fun c7_1 => ?_)
  · have t7_2 := FF.mk (i_eq c7_1)
    have r7_3 : rg r4_1 0 0 := rg_eqA t7_2 hp4_4 (show rg (0 : Int32) 0 0 from rg_l (by decide)) (by decide)
    refine lv_aload_n hx hb dX16_readAddressed_27 rfl (lv_at hl 0 rfl) ?_
    refine va_ldcwS (own := RX16) (tx := "net") (index := 363) (q := (ct (100 + 58))) hx hb hown (hSK 58 (by decide)) dX16_readAddressed_28 ?_
    refine gq_i (k1 := 0) (n1 := 0) (wr := []) [0, 1] [] (rn_V (As := [.ref (ct (100 + 58))]) (rest := []) (c_X16_is l D ct mm 58 3 fs_mm utape x_mm_5 x_mm_6 x_mm_7 g_utape ⟨by decide, rfl⟩ hlen_mm hf_mm_0 h_x_mm_5 hf_mm_5 h_x_mm_6 hf_mm_6 h_x_mm_7 hf_mm_7 h_g_utape (show x_mm_7.toInt ≤ 2000 by have q0 := FF.out hq0; omega) (show x_mm_5.toInt ≠ 0 → x_mm_6.toInt + 1 ≤ x_mm_7.toInt by have q0 := FF.out hq7; omega) _) (cb_of (n := 1) hn mw_1962 mw_13 mw_1959 mhX16_is ⟨(Nat.le_of_ble_eq_true rfl), (Nat.le_of_ble_eq_true rfl)⟩) hx hb hml hown hn hK hSK hZ hS mw_1961 mw_s186 (ci := 16) (q0 := 0) rfl rfl rfl rfl hl.1 (Nat.le_of_ble_eq_true rfl) dX16_readAddressed_31 ⟨(Nat.zero_le MC), (Nat.zero_le MS)⟩) hP hD hS hA rfl rfl (by decide) (by decide) (by decide) (Nat.le_refl _) (Nat.le_refl _) (fun r31_1 u31_2 H locs hp31_3 hP hD hS => ?_)
    obtain ⟨hp31_4, hp31_5⟩ := hp31_3
    have hp31_4 : rg r31_1 0 1 := hp31_4
    replace hp31_5 : FF (r31_1.toInt = 1 → x_mm_5.toInt ≠ 0 ∧ x_mm_7.toInt - x_mm_6.toInt = ((3 : Nat) : Int)) := hp31_5
    have hP : va_P D vwCl ([(mm, .inr (16, fs_mm)), (utape, .inl (ct 1, 2000, .inl g_utape))] ++ (([] : va_W))) _ := hP
    have hD : va_D A ([(mm, .inr (16, fs_mm)), (utape, .inl (ct 1, 2000, .inl g_utape))] ++ (([] : va_W))) := hD
    refine lv_if_eq (tgt := 136) hx hb dX16_readAddressed_34 (by decide) (fun c34_1 => ?_) (fun c34_1 => ?_)
    · have t34_2 := FF.mk (i_eq c34_1)
      have r34_3 : rg r31_1 0 0 := rg_eqA t34_2 hp31_4 (show rg (0 : Int32) 0 0 from rg_l (by decide)) (by decide)
      refine lv_aload_n hx hb dX16_readAddressed_136 rfl (lv_at hl 0 rfl) ?_
      refine va_ldcwS (own := RX16) (tx := "portrange") (index := 367) (q := (ct (100 + 60))) hx hb hown (hSK 60 (by decide)) dX16_readAddressed_137 ?_
      refine gq_i (k1 := 0) (n1 := 0) (wr := []) [0, 1] [] (rn_V (As := [.ref (ct (100 + 60))]) (rest := []) (c_X16_is l D ct mm 60 9 fs_mm utape x_mm_5 x_mm_6 x_mm_7 g_utape ⟨by decide, rfl⟩ hlen_mm hf_mm_0 h_x_mm_5 hf_mm_5 h_x_mm_6 hf_mm_6 h_x_mm_7 hf_mm_7 h_g_utape (show x_mm_7.toInt ≤ 2000 by have q0 := FF.out hq0; omega) (show x_mm_5.toInt ≠ 0 → x_mm_6.toInt + 1 ≤ x_mm_7.toInt by have q0 := FF.out hq7; omega) _) (cb_of (n := 1) hn mw_1962 mw_13 mw_1959 mhX16_is ⟨(Nat.le_of_ble_eq_true rfl), (Nat.le_of_ble_eq_true rfl)⟩) hx hb hml hown hn hK hSK hZ hS mw_1961 mw_s186 (ci := 16) (q0 := 0) rfl rfl rfl rfl hl.1 (Nat.le_of_ble_eq_true rfl) dX16_readAddressed_140 ⟨(Nat.zero_le MC), (Nat.zero_le MS)⟩) hP hD hS hA rfl rfl (by decide) (by decide) (by decide) (Nat.le_refl _) (Nat.le_refl _) (fun r140_1 u140_2 H locs hp140_3 hP hD hS => ?_)
      obtain ⟨hp140_4, hp140_5⟩ := hp140_3
      have hp140_4 : rg r140_1 0 1 := hp140_4
      replace hp140_5 : FF (r140_1.toInt = 1 → x_mm_5.toInt ≠ 0 ∧ x_mm_7.toInt - x_mm_6.toInt = ((9 : Nat) : Int)) := hp140_5
      have hP : va_P D vwCl ([(mm, .inr (16, fs_mm)), (utape, .inl (ct 1, 2000, .inl g_utape))] ++ (([] : va_W))) _ := hP
      have hD : va_D A ([(mm, .inr (16, fs_mm)), (utape, .inl (ct 1, 2000, .inl g_utape))] ++ (([] : va_W))) := hD
      refine lv_istore_n (lv' := [(2, .int r140_1), (0, .ref mm), (1, .int v0)]) hx hb dX16_readAddressed_143 rfl hl (by decide) rfl (fun ls hl => ?_)
      refine lv_aload_n hx hb dX16_readAddressed_144 rfl (lv_at hl 1 rfl) ?_
      obtain ⟨c145_1, ec145_1⟩ : ∃ x9 : Nat, x9 = 0 + 1 := ⟨_, rfl⟩
      have ec145_1 := FF.mk ec145_1
      have mc145_1 : FF (c145_1 ≤ MC) := FF.mk (Int.ofNat_le.mp (show ((c145_1 : Nat) : Int) ≤ ((MC : Nat) : Int) by have q0 := FF.out hq2; have q1 := FF.out hq4; have q2 := FF.out ec145_1; omega))
      obtain ⟨k145_2, ek145_2⟩ : ∃ x9 : Nat, x9 = 0 + 7 := ⟨_, rfl⟩
      have ek145_2 := FF.mk ek145_2
      have mk145_2 : FF (k145_2 ≤ MS) := FF.mk (Int.ofNat_le.mp (show ((k145_2 : Nat) : Int) ≤ ((MS : Nat) : Int) by have q0 := FF.out hq2; have q1 := FF.out hq5; have q2 := FF.out ek145_2; omega))
      refine gt_q (pl := (([] : va_W))) (wr := []) [0, 1] [] (rt_V (As := []) (rest := []) (c_X16_next l hst D ct mm fs_mm utape x_mm_7 x_mm_8 g_utape hlen_mm hf_mm_0 h_x_mm_7 hf_mm_7 h_x_mm_8 hf_mm_8 h_g_utape (show x_mm_7.toInt ≤ x_mm_8.toInt by have q0 := FF.out hq1; omega) _) (cb_of (n := 0) hn mw_1912 mw_13 mw_1909 mhX16_next ⟨(Nat.le_of_ble_eq_true rfl), (Nat.le_of_ble_eq_true rfl)⟩) hx hb hml hown hn hK hSK hZ hS mw_1911 mw_s179 (ci := 16) (q0 := 0) rfl rfl rfl rfl hl.1 (Nat.le_of_ble_eq_true rfl) dX16_readAddressed_145 ⟨(Nat.le_trans (Nat.le_of_eq (FF.out ec145_1).symm) (FF.out mc145_1)), (Nat.le_trans (Nat.le_of_eq (FF.out ek145_2).symm) (FF.out mk145_2))⟩) hP hD hS hA rfl rfl (by decide) (by decide) (by decide) (fun xq145_6 ux145_7 xfs145_8 H locs hpx145_9 hpexfs145_8 hP hD hS => ?_) (fun r145_3 u145_4 H locs hp145_5 hP hD hS => ?_)
      · obtain ⟨fs2_mm145_10, y_mm_6145_11⟩ := ux145_7
        obtain ⟨hp145_12, hp145_13, hp145_14, hp145_15⟩ := hpx145_9
        have hs145_16 : SB fs_mm fs2_mm145_10 [5, 6, 7] := SB.trans (SB.rf _ _) hp145_12 (by decide)
        have hp145_13 : rg y_mm_6145_11 0 2000 := hp145_13
        have hP : va_P D vwCl [(mm, .inr (16, fs2_mm145_10)), (utape, .inl (ct 1, 2000, .inl g_utape)), (xq145_6, .inr (15, xfs145_8))] _ := hP
        have hD : va_D A [(mm, .inr (16, fs2_mm145_10)), (utape, .inl (ct 1, 2000, .inl g_utape)), (xq145_6, .inr (15, xfs145_8))] := hD
        refine vx_widen (k := c145_1) (n := k145_2) (Nat.le_of_eq (FF.out ec145_1).symm) (Nat.le_of_eq (FF.out ek145_2).symm) ?_
        exact xo hQ htab hlocks hK rfl hP hD hS (fs2_mm145_10, y_mm_6145_11, x_mm_7) (fs := xfs145_8) ⟨hs145_16, hp145_13, hp145_14, (rg_w h_x_mm_7 (by decide)), hp145_15⟩ hpexfs145_8 [0, 1, 2] (by decide) rfl (kq := 2) rfl (FF.out mc145_1) (FF.out mk145_2)
      obtain ⟨fs2_mm145_310, y_mm_5145_311, y_mm_6145_312, y_mm_7145_313⟩ := u145_4
      obtain ⟨hp145_314, hp145_315, hp145_316, hp145_317, hp145_318, hp145_319, hp145_320, hp145_321, hp145_322, hp145_323, hp145_324⟩ := hp145_5
      have hs145_325 : SB fs_mm fs2_mm145_310 [5, 6, 7] := SB.trans (SB.rf _ _) hp145_314 (by decide)
      have hp145_315 : rg y_mm_5145_311 0 2 := hp145_315
      have hp145_317 : rg y_mm_6145_312 0 2000 := hp145_317
      have hp145_319 : rg y_mm_7145_313 0 2002 := hp145_319
      replace hp145_321 : FF (y_mm_7145_313.toInt ≤ x_mm_8.toInt) := hp145_321
      replace hp145_322 : FF (y_mm_6145_312.toInt ≤ x_mm_8.toInt) := hp145_322
      replace hp145_323 : FF (y_mm_5145_311.toInt ≠ 0 → y_mm_6145_312.toInt + 1 ≤ y_mm_7145_313.toInt) := hp145_323
      replace hp145_324 : FF (x_mm_7.toInt ≤ y_mm_6145_312.toInt) := hp145_324
      have hP : va_P D vwCl ([(mm, .inr (16, fs2_mm145_310)), (utape, .inl (ct 1, 2000, .inl g_utape))] ++ (([] : va_W))) _ := hP
      have hD : va_D A ([(mm, .inr (16, fs2_mm145_310)), (utape, .inl (ct 1, 2000, .inl g_utape))] ++ (([] : va_W))) := hD
      refine W.widen (k := 0) (n := 0) (Nat.le_refl _) (Nat.le_refl _) (W.eq (g2 := F0 m 148 ls []) rfl ?_)
      refine lv_aload_n hx hb dX16_readAddressed_148 rfl (lv_at hl 1 rfl) ?_
      refine lv_lconst (v := 0) hx hb dX16_readAddressed_149 (by decide) ?_
      refine lv_ldc2 (v := 65535) hx hb hown (hn.get mw_2156 rfl) dX16_readAddressed_150 ?_
      obtain ⟨c153_1, ec153_1⟩ : ∃ x9 : Nat, x9 = 0 + 1 := ⟨_, rfl⟩
      have ec153_1 := FF.mk ec153_1
      have mc153_1 : FF (c153_1 ≤ MC) := FF.mk (Int.ofNat_le.mp (show ((c153_1 : Nat) : Int) ≤ ((MC : Nat) : Int) by have q0 := FF.out hq2; have q1 := FF.out hq4; have q2 := FF.out ec153_1; omega))
      obtain ⟨k153_2, ek153_2⟩ : ∃ x9 : Nat, x9 = 0 + 7 := ⟨_, rfl⟩
      have ek153_2 := FF.mk ek153_2
      have mk153_2 : FF (k153_2 ≤ MS) := FF.mk (Int.ofNat_le.mp (show ((k153_2 : Nat) : Int) ≤ ((MS : Nat) : Int) by have q0 := FF.out hq2; have q1 := FF.out hq5; have q2 := FF.out ek153_2; omega))
      refine gt_q (pl := (([] : va_W))) (wr := []) [0, 1] [] (rt_V (As := [.long 0, .long 65535]) (rest := []) (c_X16_wantNumber l hst D ct mm (0 : Int64) (65535 : Int64) fs2_mm145_310 utape y_mm_5145_311 y_mm_6145_312 y_mm_7145_313 x_mm_8 g_utape (rl_w (show rl (0 : Int64) 0 0 from rl_l (by decide)) (by decide)) (rl_w (show rl (65535 : Int64) 65535 65535 from rl_l (by decide)) (by decide)) (hs145_325.1.trans hlen_mm) (SB.get hs145_325 (by decide) hf_mm_0) hp145_315 hp145_316 hp145_317 hp145_318 (rg_of (show 0 ≤ y_mm_7145_313.toInt ∧ y_mm_7145_313.toInt ≤ 2001 by have q0 := hp145_319.1; have q1 := h_x_mm_8.2; have q2 := FF.out hp145_321; omega)) hp145_320 h_x_mm_8 (SB.get hs145_325 (by decide) hf_mm_8) h_g_utape (show y_mm_7145_313.toInt ≤ 2000 by have q0 := h_x_mm_8.2; have q1 := FF.out hp145_321; omega) (show y_mm_7145_313.toInt ≤ x_mm_8.toInt by have q0 := FF.out hp145_321; omega) (show y_mm_6145_312.toInt ≤ x_mm_8.toInt by have q0 := FF.out hp145_322; omega) (show y_mm_5145_311.toInt ≠ 0 → y_mm_6145_312.toInt + 1 ≤ y_mm_7145_313.toInt by have q0 := hp145_315.1; have q1 := FF.out hp145_323; omega) _) (cb_of (n := 2) hn mw_2077 mw_13 mw_2074 mhX16_wantNumber ⟨(Nat.le_of_ble_eq_true rfl), (Nat.le_of_ble_eq_true rfl)⟩) hx hb hml hown hn hK hSK hZ hS mw_2076 mw_s196 (ci := 16) (q0 := 0) rfl rfl rfl rfl hl.1 (Nat.le_of_ble_eq_true rfl) dX16_readAddressed_153 ⟨(Nat.le_trans (Nat.le_of_eq (FF.out ec153_1).symm) (FF.out mc153_1)), (Nat.le_trans (Nat.le_of_eq (FF.out ek153_2).symm) (FF.out mk153_2))⟩) hP hD hS hA rfl rfl (by decide) (by decide) (by decide) (fun xq153_6 ux153_7 xfs153_8 H locs hpx153_9 hpexfs153_8 hP hD hS => ?_) (fun r153_3 u153_4 H locs hp153_5 hP hD hS => ?_)
      · obtain ⟨fs2_mm153_10, y_mm_6153_11⟩ := ux153_7
        obtain ⟨hp153_12, hp153_13, hp153_14, hp153_15⟩ := hpx153_9
        have hs153_16 : SB fs_mm fs2_mm153_10 [5, 6, 7] := SB.trans hs145_325 hp153_12 (by decide)
        have hp153_13 : rg y_mm_6153_11 0 2000 := hp153_13
        have hP : va_P D vwCl [(mm, .inr (16, fs2_mm153_10)), (utape, .inl (ct 1, 2000, .inl g_utape)), (xq153_6, .inr (15, xfs153_8))] _ := hP
        have hD : va_D A [(mm, .inr (16, fs2_mm153_10)), (utape, .inl (ct 1, 2000, .inl g_utape)), (xq153_6, .inr (15, xfs153_8))] := hD
        refine vx_widen (k := c153_1) (n := k153_2) (Nat.le_of_eq (FF.out ec153_1).symm) (Nat.le_of_eq (FF.out ek153_2).symm) ?_
        exact xo hQ htab hlocks hK rfl hP hD hS (fs2_mm153_10, y_mm_6153_11, y_mm_7145_313) (fs := xfs153_8) ⟨hs153_16, hp153_13, hp153_14, hp145_319, hp153_15⟩ hpexfs153_8 [0, 1, 2] (by decide) rfl (kq := 2) rfl (FF.out mc153_1) (FF.out mk153_2)
      obtain ⟨fs2_mm153_310, y_mm_5153_311, y_mm_6153_312, y_mm_7153_313⟩ := u153_4
      obtain ⟨hp153_314, hp153_315, hp153_316, hp153_317, hp153_318, hp153_319, hp153_320, hp153_321, hp153_322, hp153_323, hp153_324, hp153_325, hp153_326, hp153_327⟩ := hp153_5
      have hs153_328 : SB fs_mm fs2_mm153_310 [5, 6, 7] := SB.trans hs145_325 hp153_315 (by decide)
      have hp153_314 : rl r153_3 (-1) 4294967295 := hp153_314
      have hp153_316 : rg y_mm_5153_311 0 2 := hp153_316
      have hp153_318 : rg y_mm_6153_312 0 2000 := hp153_318
      have hp153_320 : rg y_mm_7153_313 0 2002 := hp153_320
      replace hp153_322 : FF (y_mm_7153_313.toInt ≤ x_mm_8.toInt) := hp153_322
      replace hp153_323 : FF (y_mm_6153_312.toInt ≤ x_mm_8.toInt) := hp153_323
      replace hp153_324 : FF (y_mm_5153_311.toInt ≠ 0 → y_mm_6153_312.toInt + 1 ≤ y_mm_7153_313.toInt) := hp153_324
      replace hp153_325 : FF (y_mm_7145_313.toInt ≤ y_mm_6153_312.toInt) := hp153_325
      replace hp153_326 : FF ((0 : Int64).toInt ≤ r153_3.toInt ∧ r153_3.toInt ≤ (65535 : Int64).toInt) := hp153_326
      replace hp153_327 : FF (y_mm_5145_311.toInt ≠ 0) := hp153_327
      have hP : va_P D vwCl ([(mm, .inr (16, fs2_mm153_310)), (utape, .inl (ct 1, 2000, .inl g_utape))] ++ (([] : va_W))) _ := hP
      have hD : va_D A ([(mm, .inr (16, fs2_mm153_310)), (utape, .inl (ct 1, 2000, .inl g_utape))] ++ (([] : va_W))) := hD
      refine W.widen (k := 0) (n := 0) (Nat.le_refl _) (Nat.le_refl _) (W.eq (g2 := F0 m 156 ls [.long r153_3]) rfl ?_)
      refine lv_lstore_n (lv' := [(3, .long r153_3), (2, .int r140_1), (0, .ref mm), (1, .int v0)]) hx hb dX16_readAddressed_156 rfl hl (by decide) rfl (fun ls hl => ?_)
      refine lv_lload_n hx hb dX16_readAddressed_157 rfl (lv_at hl 0 rfl) ?_
      refine lv_lstore (lv' := [(5, .long r153_3), (3, .long r153_3), (2, .int r140_1), (0, .ref mm), (1, .int v0)]) hx hb dX16_readAddressed_158 hl (by decide) rfl (fun ls hl => ?_)
      refine lv_iload_n hx hb dX16_readAddressed_160 rfl (lv_at hl 2 rfl) ?_
      have b181 : ∀ (j181_l5 : Int64) (j181_amm : List Value) (j181_fmm_5 : Int32) (j181_fmm_6 : Int32) (j181_fmm_7 : Int32) (H : Heap) (locs : List Loc) (ls : Array Slot), (rl j181_l5 (-1) 4294967295) → (SB fs_mm j181_amm [5, 6, 7]) → (rg j181_fmm_5 0 2) → (j181_amm[5]? = some (.int j181_fmm_5)) → (rg j181_fmm_6 0 2000) → (j181_amm[6]? = some (.int j181_fmm_6)) → (rg j181_fmm_7 0 2002) → (j181_amm[7]? = some (.int j181_fmm_7)) → (FF (j181_fmm_7.toInt ≤ x_mm_8.toInt)) → (FF (j181_fmm_6.toInt ≤ x_mm_8.toInt)) → (FF (j181_fmm_5.toInt ≠ 0 → j181_fmm_6.toInt + 1 ≤ j181_fmm_7.toInt)) → (FF (x_mm_7.toInt + 1 ≤ j181_fmm_6.toInt)) → lv_has ls 8 [(1, .int v0), (2, .int r140_1), (3, .long r153_3), (5, .long j181_l5)] → va_P D vwCl ([(mm, .inr (16, j181_amm)), (utape, .inl (ct 1, 2000, .inl g_utape))] ++ (([] : va_W))) H → va_D A ([(mm, .inr (16, j181_amm)), (utape, .inl (ct 1, 2000, .inl g_utape))] ++ (([] : va_W))) → va_S A s.heap H locs → W p l e ({ frames := 10, cells := MC, slots := MS, locals := 215 }) s m [.ref mm, .int v0].toArray below meth c H locs 0 0 Q (F0 m 181 ls []) := by
        intro j181_l5 j181_amm j181_fmm_5 j181_fmm_6 j181_fmm_7 H locs ls r181_1001 hs181_1002 r181_1003 hf181_1004 r181_1005 hf181_1006 r181_1007 hf181_1008 hi181_1009 hi181_1010 hi181_1011 hi181_1012 hl hP hD hS
        refine lv_iload_n hx hb dX16_readAddressed_181 rfl (lv_at hl 0 rfl) ?_
        refine lv_lload_n hx hb dX16_readAddressed_182 rfl (lv_at hl 2 rfl) ?_
        refine lv_lload hx hb dX16_readAddressed_183 (lv_at hl 3 rfl) ?_
        refine lv_iload_n hx hb dX16_readAddressed_185 rfl (lv_at hl 1 rfl) ?_
        obtain ⟨m186_1, gm186_1⟩ : ∃ m9 : Nat, m9 + 0 = MC := ⟨MC - 0, Nat.sub_add_cancel (Nat.zero_le MC)⟩
        have em186_1 := FF.mk gm186_1
        obtain ⟨m186_2, gm186_2⟩ : ∃ m9 : Nat, m9 + 0 = MS := ⟨MS - 0, Nat.sub_add_cancel (Nat.zero_le MS)⟩
        have em186_2 := FF.mk gm186_2
        refine gt_q (pl := (([] : va_W))) (wr := [(mm, .inr (16, j181_amm)), (utape, .inl (ct 1, 2000, .inl g_utape))]) [] [0, 1] (rt_S (As := [.int v0, .long r153_3, .long j181_l5, .int r140_1]) (rest := []) (c_X16_ports l hst D ct m186_1 m186_2 v0 r153_3 j181_l5 r140_1 hp140_4 (show 68 ≤ ((m186_1 : Nat) : Int) by have q0 := FF.out hq1; have q1 := FF.out hq4; have q2 := FF.out hq7; have q3 := FF.out em186_1; omega) (show 398 ≤ ((m186_2 : Nat) : Int) by have q0 := FF.out hq1; have q1 := FF.out hq5; have q2 := FF.out hq7; have q3 := FF.out em186_2; omega) _) (cb_of (n := 4) hn mw_2193 mw_13 mw_2191 mhX16_ports ⟨(Nat.le_of_ble_eq_true rfl), (Nat.le_of_ble_eq_true rfl)⟩) hx hb hml hown hn hK hSK hZ hS mw_2192 rfl hl.1 (Nat.le_of_ble_eq_true rfl) dX16_readAddressed_186 ⟨(Nat.le_of_eq ((Nat.add_comm _ _).trans gm186_1)), (Nat.le_of_eq ((Nat.add_comm _ _).trans gm186_2))⟩) hP hD hS hA rfl rfl (by decide) (by decide) (by decide) (fun xq186_6 ux186_7 xfs186_8 H locs hpx186_9 hpexfs186_8 hP hD hS => ?_) (fun r186_3 u186_4 H locs hp186_5 hP hD hS => ?_)
        · exact hpx186_9.elim
        obtain ⟨T186_310, kc186_311, kn186_312⟩ := u186_4
        obtain ⟨hp186_313, hp186_314, hp186_315, hp186_316, hp186_317, hp186_318, hp186_319⟩ := hp186_5
        subst hp186_313
        replace hp186_315 : FF (((kc186_311 : Nat) : Int) ≤ 68) := hp186_315
        replace hp186_316 : FF (((kn186_312 : Nat) : Int) ≤ 398) := hp186_316
        replace hp186_317 : FF (((T186_310.sz : Nat) : Int) ≤ 76) := hp186_317
        replace hp186_318 : FF (((T186_310.dep : Nat) : Int) ≤ 1) := hp186_318
        replace hp186_319 : FF (((T186_310.c4 : Nat) : Int) ≤ 0) := hp186_319
        obtain ⟨c186_320, ec186_320⟩ : ∃ x9 : Nat, x9 = 0 + kc186_311 := ⟨_, rfl⟩
        have ec186_320 := FF.mk ec186_320
        have mc186_320 : FF (c186_320 ≤ MC) := FF.mk (Int.ofNat_le.mp (show ((c186_320 : Nat) : Int) ≤ ((MC : Nat) : Int) by have q0 := FF.out hq1; have q1 := FF.out hq4; have q2 := FF.out hq7; have q3 := FF.out hp186_315; have q4 := FF.out ec186_320; omega))
        obtain ⟨k186_321, ek186_321⟩ : ∃ x9 : Nat, x9 = 0 + kn186_312 := ⟨_, rfl⟩
        have ek186_321 := FF.mk ek186_321
        have mk186_321 : FF (k186_321 ≤ MS) := FF.mk (Int.ofNat_le.mp (show ((k186_321 : Nat) : Int) ≤ ((MS : Nat) : Int) by have q0 := FF.out hq1; have q1 := FF.out hq5; have q2 := FF.out hq7; have q3 := FF.out hp186_316; have q4 := FF.out ek186_321; omega))
        have hP : va_P D vwCl (([(mm, .inr (16, j181_amm)), (utape, .inl (ct 1, 2000, .inl g_utape))] ++ (T186_310.cells Z0)) ++ (([] : va_W))) _ := hP
        have hD : va_D A (([(mm, .inr (16, j181_amm)), (utape, .inl (ct 1, 2000, .inl g_utape))] ++ (T186_310.cells Z0)) ++ (([] : va_W))) := hD
        have hP := pool_in hP
        have hD := pool_inD hD
        obtain ⟨p186_322, ep186_322⟩ : ∃ p9 : va_W, p9 = (([] : va_W) ++ (T186_310.cells Z0)) := ⟨_, rfl⟩
        rw [← ep186_322] at hP hD
        have hk186_323 : FF (0 ≤ ((T186_310.sz : Nat) : Int)) := Int.natCast_nonneg _
        have hk186_324 : FF (0 ≤ ((T186_310.dep : Nat) : Int)) := Int.natCast_nonneg _
        have hk186_325 : FF (0 ≤ ((T186_310.c4 : Nat) : Int)) := Int.natCast_nonneg _
        have hP : va_P D vwCl ([(mm, .inr (16, j181_amm)), (utape, .inl (ct 1, 2000, .inl g_utape))] ++ (p186_322)) _ := hP
        have hD : va_D A ([(mm, .inr (16, j181_amm)), (utape, .inl (ct 1, 2000, .inl g_utape))] ++ (p186_322)) := hD
        refine W.widen (k := c186_320) (n := k186_321) (Nat.le_of_eq (FF.out ec186_320).symm) (Nat.le_of_eq (FF.out ek186_321).symm) (W.eq (g2 := F0 m 189 ls [.ref T186_310.root]) rfl ?_)
        have hP : va_P D vwCl ([(mm, .inr (16, j181_amm)), (utape, .inl (ct 1, 2000, .inl g_utape))] ++ (T186_310.cells Z0)) _ := hP.perm (seg_perm (fun f => by have w0 := seg_sum (List.Perm.of_eq ep186_322) f; simp only [ST.cells_leaf, ST.cells_minus, ST.cells_group, ST.cells_acc, ST.cells_two, FT.cells_two, FT.cells_inv, FT.cells_test, FT.cells_pair, List.map_append, List.sum_append, List.map_nil, List.sum_nil] at w0 ⊢ <;> omega))
        have hD : va_D A ([(mm, .inr (16, j181_amm)), (utape, .inl (ct 1, 2000, .inl g_utape))] ++ (T186_310.cells Z0)) := hD.perm (seg_perm (fun f => by have w0 := seg_sum (List.Perm.of_eq ep186_322) f; simp only [ST.cells_leaf, ST.cells_minus, ST.cells_group, ST.cells_acc, ST.cells_two, FT.cells_two, FT.cells_inv, FT.cells_test, FT.cells_pair, List.map_append, List.sum_append, List.map_nil, List.sum_nil] at w0 ⊢ <;> omega))
        exact et_r (SX := List Value × Int32 × Int32) hQ hx hb hr hlocks dX16_readAddressed_189 (j181_amm, j181_fmm_5, j181_fmm_6, j181_fmm_7, T186_310, c186_320, k186_321) ⟨hs181_1002, r181_1003, hf181_1004, r181_1005, hf181_1006, r181_1007, hf181_1008, rfl, hp186_314, (show j181_fmm_7.toInt ≤ x_mm_8.toInt by have q0 := FF.out hi181_1009; omega), (show j181_fmm_6.toInt ≤ x_mm_8.toInt by have q0 := FF.out hi181_1010; omega), (show j181_fmm_5.toInt ≠ 0 → j181_fmm_6.toInt + 1 ≤ j181_fmm_7.toInt by have q0 := r181_1003.1; have q1 := FF.out hi181_1011; omega), (show x_mm_7.toInt ≤ j181_fmm_6.toInt by have q0 := FF.out hi181_1012; omega), (show 1 ≤ j181_fmm_6.toInt - x_mm_6.toInt by have q0 := FF.out hq7; have q1 := FF.out hi181_1012; omega), (show ((c186_320 : Nat) : Int) ≤ 17 * (j181_fmm_6.toInt - x_mm_6.toInt) + 0 by have q0 := FF.out hq7; have q1 := FF.out hi181_1012; have q2 := FF.out hp186_315; have q3 := FF.out ec186_320; omega), (show ((k186_321 : Nat) : Int) ≤ 100 * (j181_fmm_6.toInt - x_mm_6.toInt) + 0 by have q0 := FF.out hq7; have q1 := FF.out hi181_1012; have q2 := FF.out hp186_316; have q3 := FF.out ek186_321; omega), (show ((T186_310.sz : Nat) : Int) ≤ 19 * (j181_fmm_6.toInt - x_mm_6.toInt) + 0 by have q0 := FF.out hq7; have q1 := FF.out hi181_1012; have q2 := FF.out hp186_317; omega), (show 4 * ((T186_310.c4 : Nat) : Int) ≤ (j181_fmm_6.toInt - x_mm_6.toInt) by have q0 := FF.out hq7; have q1 := FF.out hi181_1012; have q2 := FF.out hp186_319; omega), (show ((T186_310.dep : Nat) : Int) ≤ 83 by have q0 := FF.out hp186_318; omega)⟩ hP hD hS [0, 1] (by decide) rfl (Nat.le_refl _) (Nat.le_refl _) (FF.out mc186_320) (FF.out mk186_321)
      refine lv_if_eq (tgt := 181) hx hb dX16_readAddressed_161 (by decide) (fun c161_1 => ?_) (fun c161_1 => ?_)
      · have t161_2 := FF.mk (i_eq c161_1)
        have r161_3 : rg r140_1 0 0 := rg_eqA t161_2 hp140_4 (show rg (0 : Int32) 0 0 from rg_l (by decide)) (by decide)
        exact b181 r153_3 fs2_mm153_310 y_mm_5153_311 y_mm_6153_312 y_mm_7153_313 H locs ls hp153_314 hs153_328 hp153_316 hp153_317 hp153_318 hp153_319 hp153_320 hp153_321 (show y_mm_7153_313.toInt ≤ x_mm_8.toInt by have q0 := FF.out hp153_322; omega) (show y_mm_6153_312.toInt ≤ x_mm_8.toInt by have q0 := FF.out hp153_323; omega) (show y_mm_5153_311.toInt ≠ 0 → y_mm_6153_312.toInt + 1 ≤ y_mm_7153_313.toInt by have q0 := hp153_316.1; have q1 := FF.out hp153_324; omega) (show x_mm_7.toInt + 1 ≤ y_mm_6153_312.toInt by have q0 := hp145_315.1; have q1 := FF.out hp145_323; have q2 := FF.out hp145_324; have q3 := FF.out hp153_325; have q4 := FF.out hp153_327; omega) (lv_sub hl [4, 2, 1, 0] rfl) hP hD hS
      · have t161_2 := FF.mk (i_ne c161_1)
        have r161_3 : rg r140_1 1 1 := rg_neAl t161_2 hp140_4 (show rg (0 : Int32) 0 0 from rg_l (by decide)) (by decide)
        refine lv_aload_n hx hb dX16_readAddressed_164 rfl (lv_at hl 3 rfl) ?_
        refine va_ldcwS (own := RX16) (tx := "-") (index := 414) (q := (ct (100 + 31))) hx hb hown (hSK 31 (by decide)) dX16_readAddressed_165 ?_
        obtain ⟨c168_1, ec168_1⟩ : ∃ x9 : Nat, x9 = 0 + 1 := ⟨_, rfl⟩
        have ec168_1 := FF.mk ec168_1
        have mc168_1 : FF (c168_1 ≤ MC) := FF.mk (Int.ofNat_le.mp (show ((c168_1 : Nat) : Int) ≤ ((MC : Nat) : Int) by have q0 := FF.out hq2; have q1 := FF.out hq4; have q2 := FF.out ec168_1; omega))
        obtain ⟨k168_2, ek168_2⟩ : ∃ x9 : Nat, x9 = 0 + 7 := ⟨_, rfl⟩
        have ek168_2 := FF.mk ek168_2
        have mk168_2 : FF (k168_2 ≤ MS) := FF.mk (Int.ofNat_le.mp (show ((k168_2 : Nat) : Int) ≤ ((MS : Nat) : Int) by have q0 := FF.out hq2; have q1 := FF.out hq5; have q2 := FF.out ek168_2; omega))
        refine gt_q (pl := (([] : va_W))) (wr := []) [0, 1] [] (rt_V (As := [.ref (ct (100 + 31))]) (rest := []) (c_X16_want l hst D ct mm 31 1 fs2_mm153_310 utape y_mm_5153_311 y_mm_6153_312 y_mm_7153_313 x_mm_8 g_utape ⟨by decide, rfl⟩ (hs153_328.1.trans hlen_mm) (SB.get hs153_328 (by decide) hf_mm_0) hp153_316 hp153_317 hp153_318 hp153_319 (rg_of (show 0 ≤ y_mm_7153_313.toInt ∧ y_mm_7153_313.toInt ≤ 2001 by have q0 := hp153_320.1; have q1 := h_x_mm_8.2; have q2 := FF.out hp153_322; omega)) hp153_321 h_x_mm_8 (SB.get hs153_328 (by decide) hf_mm_8) h_g_utape (show y_mm_7153_313.toInt ≤ 2000 by have q0 := h_x_mm_8.2; have q1 := FF.out hp153_322; omega) (show y_mm_7153_313.toInt ≤ x_mm_8.toInt by have q0 := FF.out hp153_322; omega) (show y_mm_6153_312.toInt ≤ x_mm_8.toInt by have q0 := FF.out hp153_323; omega) (show y_mm_5153_311.toInt ≠ 0 → y_mm_6153_312.toInt + 1 ≤ y_mm_7153_313.toInt by have q0 := hp153_316.1; have q1 := FF.out hp153_324; omega) _) (cb_of (n := 1) hn mw_2007 mw_13 mw_2004 mhX16_want ⟨(Nat.le_of_ble_eq_true rfl), (Nat.le_of_ble_eq_true rfl)⟩) hx hb hml hown hn hK hSK hZ hS mw_2006 mw_s188 (ci := 16) (q0 := 0) rfl rfl rfl rfl hl.1 (Nat.le_of_ble_eq_true rfl) dX16_readAddressed_168 ⟨(Nat.le_trans (Nat.le_of_eq (FF.out ec168_1).symm) (FF.out mc168_1)), (Nat.le_trans (Nat.le_of_eq (FF.out ek168_2).symm) (FF.out mk168_2))⟩) hP hD hS hA rfl rfl (by decide) (by decide) (by decide) (fun xq168_6 ux168_7 xfs168_8 H locs hpx168_9 hpexfs168_8 hP hD hS => ?_) (fun r168_3 u168_4 H locs hp168_5 hP hD hS => ?_)
        · obtain ⟨fs2_mm168_10, y_mm_6168_11⟩ := ux168_7
          obtain ⟨hp168_12, hp168_13, hp168_14, hp168_15⟩ := hpx168_9
          have hs168_16 : SB fs_mm fs2_mm168_10 [5, 6, 7] := SB.trans hs153_328 hp168_12 (by decide)
          have hp168_13 : rg y_mm_6168_11 0 2000 := hp168_13
          have hP : va_P D vwCl [(mm, .inr (16, fs2_mm168_10)), (utape, .inl (ct 1, 2000, .inl g_utape)), (xq168_6, .inr (15, xfs168_8))] _ := hP
          have hD : va_D A [(mm, .inr (16, fs2_mm168_10)), (utape, .inl (ct 1, 2000, .inl g_utape)), (xq168_6, .inr (15, xfs168_8))] := hD
          refine vx_widen (k := c168_1) (n := k168_2) (Nat.le_of_eq (FF.out ec168_1).symm) (Nat.le_of_eq (FF.out ek168_2).symm) ?_
          exact xo hQ htab hlocks hK rfl hP hD hS (fs2_mm168_10, y_mm_6168_11, y_mm_7153_313) (fs := xfs168_8) ⟨hs168_16, hp168_13, hp168_14, hp153_320, hp168_15⟩ hpexfs168_8 [0, 1, 2] (by decide) rfl (kq := 2) rfl (FF.out mc168_1) (FF.out mk168_2)
        obtain ⟨fs2_mm168_310, y_mm_5168_311, y_mm_6168_312, y_mm_7168_313⟩ := u168_4
        obtain ⟨hp168_314, hp168_315, hp168_316, hp168_317, hp168_318, hp168_319, hp168_320, hp168_321, hp168_322, hp168_323, hp168_324, hp168_325⟩ := hp168_5
        have hs168_326 : SB fs_mm fs2_mm168_310 [5, 6, 7] := SB.trans hs153_328 hp168_314 (by decide)
        have hp168_315 : rg y_mm_5168_311 0 2 := hp168_315
        have hp168_317 : rg y_mm_6168_312 0 2000 := hp168_317
        have hp168_319 : rg y_mm_7168_313 0 2002 := hp168_319
        replace hp168_321 : FF (y_mm_7168_313.toInt ≤ x_mm_8.toInt) := hp168_321
        replace hp168_322 : FF (y_mm_6168_312.toInt ≤ x_mm_8.toInt) := hp168_322
        replace hp168_323 : FF (y_mm_5168_311.toInt ≠ 0 → y_mm_6168_312.toInt + 1 ≤ y_mm_7168_313.toInt) := hp168_323
        replace hp168_324 : FF (y_mm_7153_313.toInt ≤ y_mm_6168_312.toInt) := hp168_324
        replace hp168_325 : FF (y_mm_5153_311.toInt ≠ 0 ∧ y_mm_7153_313.toInt - y_mm_6153_312.toInt = ((1 : Nat) : Int)) := hp168_325
        have hP : va_P D vwCl ([(mm, .inr (16, fs2_mm168_310)), (utape, .inl (ct 1, 2000, .inl g_utape))] ++ (([] : va_W))) _ := hP
        have hD : va_D A ([(mm, .inr (16, fs2_mm168_310)), (utape, .inl (ct 1, 2000, .inl g_utape))] ++ (([] : va_W))) := hD
        refine W.widen (k := 0) (n := 0) (Nat.le_refl _) (Nat.le_refl _) (W.eq (g2 := F0 m 171 ls []) rfl ?_)
        refine lv_aload_n hx hb dX16_readAddressed_171 rfl (lv_at hl 3 rfl) ?_
        refine lv_lload_n hx hb dX16_readAddressed_172 rfl (lv_at hl 1 rfl) ?_
        refine lv_ldc2 (v := 65535) hx hb hown (hn.get mw_2156 rfl) dX16_readAddressed_173 ?_
        obtain ⟨c176_1, ec176_1⟩ : ∃ x9 : Nat, x9 = 0 + 1 := ⟨_, rfl⟩
        have ec176_1 := FF.mk ec176_1
        have mc176_1 : FF (c176_1 ≤ MC) := FF.mk (Int.ofNat_le.mp (show ((c176_1 : Nat) : Int) ≤ ((MC : Nat) : Int) by have q0 := FF.out hq2; have q1 := FF.out hq4; have q2 := FF.out ec176_1; omega))
        obtain ⟨k176_2, ek176_2⟩ : ∃ x9 : Nat, x9 = 0 + 7 := ⟨_, rfl⟩
        have ek176_2 := FF.mk ek176_2
        have mk176_2 : FF (k176_2 ≤ MS) := FF.mk (Int.ofNat_le.mp (show ((k176_2 : Nat) : Int) ≤ ((MS : Nat) : Int) by have q0 := FF.out hq2; have q1 := FF.out hq5; have q2 := FF.out ek176_2; omega))
        refine gt_q (pl := (([] : va_W))) (wr := []) [0, 1] [] (rt_V (As := [.long r153_3, .long 65535]) (rest := []) (c_X16_wantNumber l hst D ct mm r153_3 (65535 : Int64) fs2_mm168_310 utape y_mm_5168_311 y_mm_6168_312 y_mm_7168_313 x_mm_8 g_utape (rl_of (show 0 ≤ r153_3.toInt ∧ r153_3.toInt ≤ 4294967296 by have q0 := FF.out hp153_326; have q1 := (show (0 : Int64).toInt = 0 from by decide); have q2 := (show (65535 : Int64).toInt = 65535 from by decide); omega)) (rl_w (show rl (65535 : Int64) 65535 65535 from rl_l (by decide)) (by decide)) (hs168_326.1.trans hlen_mm) (SB.get hs168_326 (by decide) hf_mm_0) hp168_315 hp168_316 hp168_317 hp168_318 (rg_of (show 0 ≤ y_mm_7168_313.toInt ∧ y_mm_7168_313.toInt ≤ 2001 by have q0 := hp168_319.1; have q1 := h_x_mm_8.2; have q2 := FF.out hp168_321; omega)) hp168_320 h_x_mm_8 (SB.get hs168_326 (by decide) hf_mm_8) h_g_utape (show y_mm_7168_313.toInt ≤ 2000 by have q0 := h_x_mm_8.2; have q1 := FF.out hp168_321; omega) (show y_mm_7168_313.toInt ≤ x_mm_8.toInt by have q0 := FF.out hp168_321; omega) (show y_mm_6168_312.toInt ≤ x_mm_8.toInt by have q0 := FF.out hp168_322; omega) (show y_mm_5168_311.toInt ≠ 0 → y_mm_6168_312.toInt + 1 ≤ y_mm_7168_313.toInt by have q0 := hp168_315.1; have q1 := FF.out hp168_323; omega) _) (cb_of (n := 2) hn mw_2077 mw_13 mw_2074 mhX16_wantNumber ⟨(Nat.le_of_ble_eq_true rfl), (Nat.le_of_ble_eq_true rfl)⟩) hx hb hml hown hn hK hSK hZ hS mw_2076 mw_s196 (ci := 16) (q0 := 0) rfl rfl rfl rfl hl.1 (Nat.le_of_ble_eq_true rfl) dX16_readAddressed_176 ⟨(Nat.le_trans (Nat.le_of_eq (FF.out ec176_1).symm) (FF.out mc176_1)), (Nat.le_trans (Nat.le_of_eq (FF.out ek176_2).symm) (FF.out mk176_2))⟩) hP hD hS hA rfl rfl (by decide) (by decide) (by decide) (fun xq176_6 ux176_7 xfs176_8 H locs hpx176_9 hpexfs176_8 hP hD hS => ?_) (fun r176_3 u176_4 H locs hp176_5 hP hD hS => ?_)
        · obtain ⟨fs2_mm176_10, y_mm_6176_11⟩ := ux176_7
          obtain ⟨hp176_12, hp176_13, hp176_14, hp176_15⟩ := hpx176_9
          have hs176_16 : SB fs_mm fs2_mm176_10 [5, 6, 7] := SB.trans hs168_326 hp176_12 (by decide)
          have hp176_13 : rg y_mm_6176_11 0 2000 := hp176_13
          have hP : va_P D vwCl [(mm, .inr (16, fs2_mm176_10)), (utape, .inl (ct 1, 2000, .inl g_utape)), (xq176_6, .inr (15, xfs176_8))] _ := hP
          have hD : va_D A [(mm, .inr (16, fs2_mm176_10)), (utape, .inl (ct 1, 2000, .inl g_utape)), (xq176_6, .inr (15, xfs176_8))] := hD
          refine vx_widen (k := c176_1) (n := k176_2) (Nat.le_of_eq (FF.out ec176_1).symm) (Nat.le_of_eq (FF.out ek176_2).symm) ?_
          exact xo hQ htab hlocks hK rfl hP hD hS (fs2_mm176_10, y_mm_6176_11, y_mm_7168_313) (fs := xfs176_8) ⟨hs176_16, hp176_13, hp176_14, hp168_319, hp176_15⟩ hpexfs176_8 [0, 1, 2] (by decide) rfl (kq := 2) rfl (FF.out mc176_1) (FF.out mk176_2)
        obtain ⟨fs2_mm176_310, y_mm_5176_311, y_mm_6176_312, y_mm_7176_313⟩ := u176_4
        obtain ⟨hp176_314, hp176_315, hp176_316, hp176_317, hp176_318, hp176_319, hp176_320, hp176_321, hp176_322, hp176_323, hp176_324, hp176_325, hp176_326, hp176_327⟩ := hp176_5
        have hs176_328 : SB fs_mm fs2_mm176_310 [5, 6, 7] := SB.trans hs168_326 hp176_315 (by decide)
        have hp176_314 : rl r176_3 (-1) 4294967295 := hp176_314
        have hp176_316 : rg y_mm_5176_311 0 2 := hp176_316
        have hp176_318 : rg y_mm_6176_312 0 2000 := hp176_318
        have hp176_320 : rg y_mm_7176_313 0 2002 := hp176_320
        replace hp176_322 : FF (y_mm_7176_313.toInt ≤ x_mm_8.toInt) := hp176_322
        replace hp176_323 : FF (y_mm_6176_312.toInt ≤ x_mm_8.toInt) := hp176_323
        replace hp176_324 : FF (y_mm_5176_311.toInt ≠ 0 → y_mm_6176_312.toInt + 1 ≤ y_mm_7176_313.toInt) := hp176_324
        replace hp176_325 : FF (y_mm_7168_313.toInt ≤ y_mm_6176_312.toInt) := hp176_325
        replace hp176_326 : FF (r153_3.toInt ≤ r176_3.toInt ∧ r176_3.toInt ≤ (65535 : Int64).toInt) := hp176_326
        replace hp176_327 : FF (y_mm_5168_311.toInt ≠ 0) := hp176_327
        have hP : va_P D vwCl ([(mm, .inr (16, fs2_mm176_310)), (utape, .inl (ct 1, 2000, .inl g_utape))] ++ (([] : va_W))) _ := hP
        have hD : va_D A ([(mm, .inr (16, fs2_mm176_310)), (utape, .inl (ct 1, 2000, .inl g_utape))] ++ (([] : va_W))) := hD
        refine W.widen (k := 0) (n := 0) (Nat.le_refl _) (Nat.le_refl _) (W.eq (g2 := F0 m 179 ls [.long r176_3]) rfl ?_)
        refine lv_lstore (lv' := [(5, .long r176_3), (3, .long r153_3), (2, .int r140_1), (0, .ref mm), (1, .int v0)]) hx hb dX16_readAddressed_179 hl (by decide) rfl (fun ls hl => ?_)
        exact b181 r176_3 fs2_mm176_310 y_mm_5176_311 y_mm_6176_312 y_mm_7176_313 H locs ls hp176_314 hs176_328 hp176_316 hp176_317 hp176_318 hp176_319 hp176_320 hp176_321 (show y_mm_7176_313.toInt ≤ x_mm_8.toInt by have q0 := FF.out hp176_322; omega) (show y_mm_6176_312.toInt ≤ x_mm_8.toInt by have q0 := FF.out hp176_323; omega) (show y_mm_5176_311.toInt ≠ 0 → y_mm_6176_312.toInt + 1 ≤ y_mm_7176_313.toInt by have q0 := hp176_316.1; have q1 := FF.out hp176_324; omega) (show x_mm_7.toInt + 1 ≤ y_mm_6176_312.toInt by have q0 := hp145_315.1; have q1 := hp168_315.1; have q2 := FF.out hp145_323; have q3 := FF.out hp145_324; have q4 := FF.out hp153_325; have q5 := FF.out hp153_327; have q6 := FF.out hp168_323; have q7 := FF.out hp168_324; have q8 := FF.out hp168_325; have q9 := FF.out hp176_325; have q10 := FF.out hp176_327; omega) (lv_sub hl [4, 2, 1, 0] rfl) hP hD hS
    · have t34_2 := FF.mk (i_ne c34_1)
      have r34_3 : rg r31_1 1 1 := rg_neAl t34_2 hp31_4 (show rg (0 : Int32) 0 0 from rg_l (by decide)) (by decide)
      refine lv_aload_n hx hb dX16_readAddressed_37 rfl (lv_at hl 0 rfl) ?_
      obtain ⟨c38_1, ec38_1⟩ : ∃ x9 : Nat, x9 = 0 + 1 := ⟨_, rfl⟩
      have ec38_1 := FF.mk ec38_1
      have mc38_1 : FF (c38_1 ≤ MC) := FF.mk (Int.ofNat_le.mp (show ((c38_1 : Nat) : Int) ≤ ((MC : Nat) : Int) by have q0 := FF.out hq2; have q1 := FF.out hq4; have q2 := FF.out ec38_1; omega))
      obtain ⟨k38_2, ek38_2⟩ : ∃ x9 : Nat, x9 = 0 + 7 := ⟨_, rfl⟩
      have ek38_2 := FF.mk ek38_2
      have mk38_2 : FF (k38_2 ≤ MS) := FF.mk (Int.ofNat_le.mp (show ((k38_2 : Nat) : Int) ≤ ((MS : Nat) : Int) by have q0 := FF.out hq2; have q1 := FF.out hq5; have q2 := FF.out ek38_2; omega))
      refine gt_q (pl := (([] : va_W))) (wr := []) [0, 1] [] (rt_V (As := []) (rest := []) (c_X16_next l hst D ct mm fs_mm utape x_mm_7 x_mm_8 g_utape hlen_mm hf_mm_0 h_x_mm_7 hf_mm_7 h_x_mm_8 hf_mm_8 h_g_utape (show x_mm_7.toInt ≤ x_mm_8.toInt by have q0 := FF.out hq1; omega) _) (cb_of (n := 0) hn mw_1912 mw_13 mw_1909 mhX16_next ⟨(Nat.le_of_ble_eq_true rfl), (Nat.le_of_ble_eq_true rfl)⟩) hx hb hml hown hn hK hSK hZ hS mw_1911 mw_s179 (ci := 16) (q0 := 0) rfl rfl rfl rfl hl.1 (Nat.le_of_ble_eq_true rfl) dX16_readAddressed_38 ⟨(Nat.le_trans (Nat.le_of_eq (FF.out ec38_1).symm) (FF.out mc38_1)), (Nat.le_trans (Nat.le_of_eq (FF.out ek38_2).symm) (FF.out mk38_2))⟩) hP hD hS hA rfl rfl (by decide) (by decide) (by decide) (fun xq38_6 ux38_7 xfs38_8 H locs hpx38_9 hpexfs38_8 hP hD hS => ?_) (fun r38_3 u38_4 H locs hp38_5 hP hD hS => ?_)
      · obtain ⟨fs2_mm38_10, y_mm_638_11⟩ := ux38_7
        obtain ⟨hp38_12, hp38_13, hp38_14, hp38_15⟩ := hpx38_9
        have hs38_16 : SB fs_mm fs2_mm38_10 [5, 6, 7] := SB.trans (SB.rf _ _) hp38_12 (by decide)
        have hp38_13 : rg y_mm_638_11 0 2000 := hp38_13
        have hP : va_P D vwCl [(mm, .inr (16, fs2_mm38_10)), (utape, .inl (ct 1, 2000, .inl g_utape)), (xq38_6, .inr (15, xfs38_8))] _ := hP
        have hD : va_D A [(mm, .inr (16, fs2_mm38_10)), (utape, .inl (ct 1, 2000, .inl g_utape)), (xq38_6, .inr (15, xfs38_8))] := hD
        refine vx_widen (k := c38_1) (n := k38_2) (Nat.le_of_eq (FF.out ec38_1).symm) (Nat.le_of_eq (FF.out ek38_2).symm) ?_
        exact xo hQ htab hlocks hK rfl hP hD hS (fs2_mm38_10, y_mm_638_11, x_mm_7) (fs := xfs38_8) ⟨hs38_16, hp38_13, hp38_14, (rg_w h_x_mm_7 (by decide)), hp38_15⟩ hpexfs38_8 [0, 1, 2] (by decide) rfl (kq := 2) rfl (FF.out mc38_1) (FF.out mk38_2)
      obtain ⟨fs2_mm38_310, y_mm_538_311, y_mm_638_312, y_mm_738_313⟩ := u38_4
      obtain ⟨hp38_314, hp38_315, hp38_316, hp38_317, hp38_318, hp38_319, hp38_320, hp38_321, hp38_322, hp38_323, hp38_324⟩ := hp38_5
      have hs38_325 : SB fs_mm fs2_mm38_310 [5, 6, 7] := SB.trans (SB.rf _ _) hp38_314 (by decide)
      have hp38_315 : rg y_mm_538_311 0 2 := hp38_315
      have hp38_317 : rg y_mm_638_312 0 2000 := hp38_317
      have hp38_319 : rg y_mm_738_313 0 2002 := hp38_319
      replace hp38_321 : FF (y_mm_738_313.toInt ≤ x_mm_8.toInt) := hp38_321
      replace hp38_322 : FF (y_mm_638_312.toInt ≤ x_mm_8.toInt) := hp38_322
      replace hp38_323 : FF (y_mm_538_311.toInt ≠ 0 → y_mm_638_312.toInt + 1 ≤ y_mm_738_313.toInt) := hp38_323
      replace hp38_324 : FF (x_mm_7.toInt ≤ y_mm_638_312.toInt) := hp38_324
      have hP : va_P D vwCl ([(mm, .inr (16, fs2_mm38_310)), (utape, .inl (ct 1, 2000, .inl g_utape))] ++ (([] : va_W))) _ := hP
      have hD : va_D A ([(mm, .inr (16, fs2_mm38_310)), (utape, .inl (ct 1, 2000, .inl g_utape))] ++ (([] : va_W))) := hD
      refine W.widen (k := 0) (n := 0) (Nat.le_refl _) (Nat.le_refl _) (W.eq (g2 := F0 m 41 ls []) rfl ?_)
      refine lv_aload_n hx hb dX16_readAddressed_41 rfl (lv_at hl 0 rfl) ?_
      obtain ⟨c42_1, ec42_1⟩ : ∃ x9 : Nat, x9 = 0 + 1 := ⟨_, rfl⟩
      have ec42_1 := FF.mk ec42_1
      have mc42_1 : FF (c42_1 ≤ MC) := FF.mk (Int.ofNat_le.mp (show ((c42_1 : Nat) : Int) ≤ ((MC : Nat) : Int) by have q0 := FF.out hq2; have q1 := FF.out hq4; have q2 := FF.out ec42_1; omega))
      obtain ⟨k42_2, ek42_2⟩ : ∃ x9 : Nat, x9 = 0 + 7 := ⟨_, rfl⟩
      have ek42_2 := FF.mk ek42_2
      have mk42_2 : FF (k42_2 ≤ MS) := FF.mk (Int.ofNat_le.mp (show ((k42_2 : Nat) : Int) ≤ ((MS : Nat) : Int) by have q0 := FF.out hq2; have q1 := FF.out hq5; have q2 := FF.out ek42_2; omega))
      refine gt_q (pl := (([] : va_W))) (wr := []) [0, 1] [] (rt_V (As := []) (rest := []) (c_X16_wantAddress l hst D ct mm fs2_mm38_310 utape y_mm_538_311 y_mm_638_312 y_mm_738_313 x_mm_8 g_utape (hs38_325.1.trans hlen_mm) (SB.get hs38_325 (by decide) hf_mm_0) hp38_315 hp38_316 hp38_317 hp38_318 (rg_of (show 0 ≤ y_mm_738_313.toInt ∧ y_mm_738_313.toInt ≤ 2001 by have q0 := hp38_319.1; have q1 := h_x_mm_8.2; have q2 := FF.out hp38_321; omega)) hp38_320 h_x_mm_8 (SB.get hs38_325 (by decide) hf_mm_8) h_g_utape (show y_mm_738_313.toInt ≤ 2000 by have q0 := h_x_mm_8.2; have q1 := FF.out hp38_321; omega) (show y_mm_738_313.toInt ≤ x_mm_8.toInt by have q0 := FF.out hp38_321; omega) (show y_mm_638_312.toInt ≤ x_mm_8.toInt by have q0 := FF.out hp38_322; omega) (show y_mm_538_311.toInt ≠ 0 → y_mm_638_312.toInt + 1 ≤ y_mm_738_313.toInt by have q0 := hp38_315.1; have q1 := FF.out hp38_323; omega) _) (cb_of (n := 0) hn mw_2179 mw_13 mw_2176 mhX16_wantAddress ⟨(Nat.le_of_ble_eq_true rfl), (Nat.le_of_ble_eq_true rfl)⟩) hx hb hml hown hn hK hSK hZ hS mw_2178 mw_s202 (ci := 16) (q0 := 0) rfl rfl rfl rfl hl.1 (Nat.le_of_ble_eq_true rfl) dX16_readAddressed_42 ⟨(Nat.le_trans (Nat.le_of_eq (FF.out ec42_1).symm) (FF.out mc42_1)), (Nat.le_trans (Nat.le_of_eq (FF.out ek42_2).symm) (FF.out mk42_2))⟩) hP hD hS hA rfl rfl (by decide) (by decide) (by decide) (fun xq42_6 ux42_7 xfs42_8 H locs hpx42_9 hpexfs42_8 hP hD hS => ?_) (fun r42_3 u42_4 H locs hp42_5 hP hD hS => ?_)
      · obtain ⟨fs2_mm42_10, y_mm_642_11⟩ := ux42_7
        obtain ⟨hp42_12, hp42_13, hp42_14, hp42_15⟩ := hpx42_9
        have hs42_16 : SB fs_mm fs2_mm42_10 [5, 6, 7] := SB.trans hs38_325 hp42_12 (by decide)
        have hp42_13 : rg y_mm_642_11 0 2000 := hp42_13
        have hP : va_P D vwCl [(mm, .inr (16, fs2_mm42_10)), (utape, .inl (ct 1, 2000, .inl g_utape)), (xq42_6, .inr (15, xfs42_8))] _ := hP
        have hD : va_D A [(mm, .inr (16, fs2_mm42_10)), (utape, .inl (ct 1, 2000, .inl g_utape)), (xq42_6, .inr (15, xfs42_8))] := hD
        refine vx_widen (k := c42_1) (n := k42_2) (Nat.le_of_eq (FF.out ec42_1).symm) (Nat.le_of_eq (FF.out ek42_2).symm) ?_
        exact xo hQ htab hlocks hK rfl hP hD hS (fs2_mm42_10, y_mm_642_11, y_mm_738_313) (fs := xfs42_8) ⟨hs42_16, hp42_13, hp42_14, hp38_319, hp42_15⟩ hpexfs42_8 [0, 1, 2] (by decide) rfl (kq := 2) rfl (FF.out mc42_1) (FF.out mk42_2)
      obtain ⟨fs2_mm42_310, y_mm_542_311, y_mm_642_312, y_mm_742_313⟩ := u42_4
      obtain ⟨hp42_314, hp42_315, hp42_316, hp42_317, hp42_318, hp42_319, hp42_320, hp42_321, hp42_322, hp42_323, hp42_324, hp42_325, hp42_326⟩ := hp42_5
      have hs42_327 : SB fs_mm fs2_mm42_310 [5, 6, 7] := SB.trans hs38_325 hp42_314 (by decide)
      have hp42_315 : rg y_mm_542_311 0 2 := hp42_315
      have hp42_317 : rg y_mm_642_312 0 2000 := hp42_317
      have hp42_319 : rg y_mm_742_313 0 2002 := hp42_319
      replace hp42_321 : FF (y_mm_742_313.toInt ≤ x_mm_8.toInt) := hp42_321
      replace hp42_322 : FF (y_mm_642_312.toInt ≤ x_mm_8.toInt) := hp42_322
      replace hp42_323 : FF (y_mm_542_311.toInt ≠ 0 → y_mm_642_312.toInt + 1 ≤ y_mm_742_313.toInt) := hp42_323
      replace hp42_324 : FF (y_mm_738_313.toInt ≤ y_mm_642_312.toInt) := hp42_324
      replace hp42_325 : FF (y_mm_638_312.toInt + 7 ≤ y_mm_738_313.toInt) := hp42_325
      replace hp42_326 : FF (y_mm_538_311.toInt ≠ 0) := hp42_326
      have hP : va_P D vwCl ([(mm, .inr (16, fs2_mm42_310)), (utape, .inl (ct 1, 2000, .inl g_utape))] ++ (([] : va_W))) _ := hP
      have hD : va_D A ([(mm, .inr (16, fs2_mm42_310)), (utape, .inl (ct 1, 2000, .inl g_utape))] ++ (([] : va_W))) := hD
      refine W.widen (k := 0) (n := 0) (Nat.le_refl _) (Nat.le_refl _) (W.eq (g2 := F0 m 45 ls [.long r42_3]) rfl ?_)
      refine lv_lstore_n (lv' := [(2, .long r42_3), (0, .ref mm), (1, .int v0)]) hx hb dX16_readAddressed_45 rfl hl (by decide) rfl (fun ls hl => ?_)
      refine lv_aload_n hx hb dX16_readAddressed_46 rfl (lv_at hl 1 rfl) ?_
      refine va_ldcwS (own := RX16) (tx := "/") (index := 410) (q := (ct (100 + 38))) hx hb hown (hSK 38 (by decide)) dX16_readAddressed_47 ?_
      obtain ⟨c50_1, ec50_1⟩ : ∃ x9 : Nat, x9 = 0 + 1 := ⟨_, rfl⟩
      have ec50_1 := FF.mk ec50_1
      have mc50_1 : FF (c50_1 ≤ MC) := FF.mk (Int.ofNat_le.mp (show ((c50_1 : Nat) : Int) ≤ ((MC : Nat) : Int) by have q0 := FF.out hq4; have q1 := FF.out hq7; have q2 := FF.out hp38_321; have q3 := FF.out hp38_324; have q4 := FF.out hp42_325; have q5 := FF.out ec50_1; omega))
      obtain ⟨k50_2, ek50_2⟩ : ∃ x9 : Nat, x9 = 0 + 7 := ⟨_, rfl⟩
      have ek50_2 := FF.mk ek50_2
      have mk50_2 : FF (k50_2 ≤ MS) := FF.mk (Int.ofNat_le.mp (show ((k50_2 : Nat) : Int) ≤ ((MS : Nat) : Int) by have q0 := FF.out hq2; have q1 := FF.out hq5; have q2 := FF.out ek50_2; omega))
      refine gt_q (pl := (([] : va_W))) (wr := []) [0, 1] [] (rt_V (As := [.ref (ct (100 + 38))]) (rest := []) (c_X16_want l hst D ct mm 38 1 fs2_mm42_310 utape y_mm_542_311 y_mm_642_312 y_mm_742_313 x_mm_8 g_utape ⟨by decide, rfl⟩ (hs42_327.1.trans hlen_mm) (SB.get hs42_327 (by decide) hf_mm_0) hp42_315 hp42_316 hp42_317 hp42_318 (rg_of (show 0 ≤ y_mm_742_313.toInt ∧ y_mm_742_313.toInt ≤ 2001 by have q0 := hp42_319.1; have q1 := h_x_mm_8.2; have q2 := FF.out hp42_321; omega)) hp42_320 h_x_mm_8 (SB.get hs42_327 (by decide) hf_mm_8) h_g_utape (show y_mm_742_313.toInt ≤ 2000 by have q0 := h_x_mm_8.2; have q1 := FF.out hp42_321; omega) (show y_mm_742_313.toInt ≤ x_mm_8.toInt by have q0 := FF.out hp42_321; omega) (show y_mm_642_312.toInt ≤ x_mm_8.toInt by have q0 := FF.out hp42_322; omega) (show y_mm_542_311.toInt ≠ 0 → y_mm_642_312.toInt + 1 ≤ y_mm_742_313.toInt by have q0 := hp42_315.1; have q1 := FF.out hp42_323; omega) _) (cb_of (n := 1) hn mw_2007 mw_13 mw_2004 mhX16_want ⟨(Nat.le_of_ble_eq_true rfl), (Nat.le_of_ble_eq_true rfl)⟩) hx hb hml hown hn hK hSK hZ hS mw_2006 mw_s188 (ci := 16) (q0 := 0) rfl rfl rfl rfl hl.1 (Nat.le_of_ble_eq_true rfl) dX16_readAddressed_50 ⟨(Nat.le_trans (Nat.le_of_eq (FF.out ec50_1).symm) (FF.out mc50_1)), (Nat.le_trans (Nat.le_of_eq (FF.out ek50_2).symm) (FF.out mk50_2))⟩) hP hD hS hA rfl rfl (by decide) (by decide) (by decide) (fun xq50_6 ux50_7 xfs50_8 H locs hpx50_9 hpexfs50_8 hP hD hS => ?_) (fun r50_3 u50_4 H locs hp50_5 hP hD hS => ?_)
      · obtain ⟨fs2_mm50_10, y_mm_650_11⟩ := ux50_7
        obtain ⟨hp50_12, hp50_13, hp50_14, hp50_15⟩ := hpx50_9
        have hs50_16 : SB fs_mm fs2_mm50_10 [5, 6, 7] := SB.trans hs42_327 hp50_12 (by decide)
        have hp50_13 : rg y_mm_650_11 0 2000 := hp50_13
        have hP : va_P D vwCl [(mm, .inr (16, fs2_mm50_10)), (utape, .inl (ct 1, 2000, .inl g_utape)), (xq50_6, .inr (15, xfs50_8))] _ := hP
        have hD : va_D A [(mm, .inr (16, fs2_mm50_10)), (utape, .inl (ct 1, 2000, .inl g_utape)), (xq50_6, .inr (15, xfs50_8))] := hD
        refine vx_widen (k := c50_1) (n := k50_2) (Nat.le_of_eq (FF.out ec50_1).symm) (Nat.le_of_eq (FF.out ek50_2).symm) ?_
        exact xo hQ htab hlocks hK rfl hP hD hS (fs2_mm50_10, y_mm_650_11, y_mm_742_313) (fs := xfs50_8) ⟨hs50_16, hp50_13, hp50_14, hp42_319, hp50_15⟩ hpexfs50_8 [0, 1, 2] (by decide) rfl (kq := 2) rfl (FF.out mc50_1) (FF.out mk50_2)
      obtain ⟨fs2_mm50_310, y_mm_550_311, y_mm_650_312, y_mm_750_313⟩ := u50_4
      obtain ⟨hp50_314, hp50_315, hp50_316, hp50_317, hp50_318, hp50_319, hp50_320, hp50_321, hp50_322, hp50_323, hp50_324, hp50_325⟩ := hp50_5
      have hs50_326 : SB fs_mm fs2_mm50_310 [5, 6, 7] := SB.trans hs42_327 hp50_314 (by decide)
      have hp50_315 : rg y_mm_550_311 0 2 := hp50_315
      have hp50_317 : rg y_mm_650_312 0 2000 := hp50_317
      have hp50_319 : rg y_mm_750_313 0 2002 := hp50_319
      replace hp50_321 : FF (y_mm_750_313.toInt ≤ x_mm_8.toInt) := hp50_321
      replace hp50_322 : FF (y_mm_650_312.toInt ≤ x_mm_8.toInt) := hp50_322
      replace hp50_323 : FF (y_mm_550_311.toInt ≠ 0 → y_mm_650_312.toInt + 1 ≤ y_mm_750_313.toInt) := hp50_323
      replace hp50_324 : FF (y_mm_742_313.toInt ≤ y_mm_650_312.toInt) := hp50_324
      replace hp50_325 : FF (y_mm_542_311.toInt ≠ 0 ∧ y_mm_742_313.toInt - y_mm_642_312.toInt = ((1 : Nat) : Int)) := hp50_325
      have hP : va_P D vwCl ([(mm, .inr (16, fs2_mm50_310)), (utape, .inl (ct 1, 2000, .inl g_utape))] ++ (([] : va_W))) _ := hP
      have hD : va_D A ([(mm, .inr (16, fs2_mm50_310)), (utape, .inl (ct 1, 2000, .inl g_utape))] ++ (([] : va_W))) := hD
      refine W.widen (k := 0) (n := 0) (Nat.le_refl _) (Nat.le_refl _) (W.eq (g2 := F0 m 53 ls []) rfl ?_)
      refine lv_aload_n hx hb dX16_readAddressed_53 rfl (lv_at hl 1 rfl) ?_
      refine gq_l (k1 := 0) (n1 := 0) (wr := []) [0, 1] [] (rn_V (As := []) (rest := []) (c_X16_number l D ct mm fs2_mm50_310 utape y_mm_550_311 y_mm_650_312 y_mm_750_313 x_mm_8 g_utape (hs50_326.1.trans hlen_mm) (SB.get hs50_326 (by decide) hf_mm_0) hp50_315 hp50_316 hp50_317 hp50_318 (rg_of (show 0 ≤ y_mm_750_313.toInt ∧ y_mm_750_313.toInt ≤ 2001 by have q0 := hp50_319.1; have q1 := h_x_mm_8.2; have q2 := FF.out hp50_321; omega)) hp50_320 h_x_mm_8 (SB.get hs50_326 (by decide) hf_mm_8) h_g_utape (show y_mm_750_313.toInt ≤ 2000 by have q0 := h_x_mm_8.2; have q1 := FF.out hp50_321; omega) (show y_mm_750_313.toInt ≤ x_mm_8.toInt by have q0 := FF.out hp50_321; omega) (show y_mm_650_312.toInt ≤ x_mm_8.toInt by have q0 := FF.out hp50_322; omega) (show y_mm_550_311.toInt ≠ 0 → y_mm_650_312.toInt + 1 ≤ y_mm_750_313.toInt by have q0 := hp50_315.1; have q1 := FF.out hp50_323; omega) _) (cb_of (n := 0) hn mw_2081 mw_13 mw_2078 mhX16_number ⟨(Nat.le_of_ble_eq_true rfl), (Nat.le_of_ble_eq_true rfl)⟩) hx hb hml hown hn hK hSK hZ hS mw_2080 mw_s197 (ci := 16) (q0 := 0) rfl rfl rfl rfl hl.1 (Nat.le_of_ble_eq_true rfl) dX16_readAddressed_54 ⟨(Nat.zero_le MC), (Nat.zero_le MS)⟩) hP hD hS hA rfl rfl (by decide) (by decide) (by decide) (Nat.le_refl _) (Nat.le_refl _) (fun r54_1 u54_2 H locs hp54_3 hP hD hS => ?_)
      obtain ⟨hp54_4, hp54_5⟩ := hp54_3
      have hp54_4 : rl r54_1 (-1) 4294967295 := hp54_4
      replace hp54_5 : FF (0 ≤ r54_1.toInt → y_mm_550_311.toInt ≠ 0) := hp54_5
      have hP : va_P D vwCl ([(mm, .inr (16, fs2_mm50_310)), (utape, .inl (ct 1, 2000, .inl g_utape))] ++ (([] : va_W))) _ := hP
      have hD : va_D A ([(mm, .inr (16, fs2_mm50_310)), (utape, .inl (ct 1, 2000, .inl g_utape))] ++ (([] : va_W))) := hD
      refine lv_lstore (lv' := [(4, .long r54_1), (2, .long r42_3), (0, .ref mm), (1, .int v0)]) hx hb dX16_readAddressed_57 hl (by decide) rfl (fun ls hl => ?_)
      refine lv_aload_n hx hb dX16_readAddressed_59 rfl (lv_at hl 2 rfl) ?_
      refine lv_lload hx hb dX16_readAddressed_60 (lv_at hl 0 rfl) ?_
      refine lv_lconst (v := 0) hx hb dX16_readAddressed_62 (by decide) ?_
      refine W.lcmp hx hb dX16_readAddressed_63 ?_
      refine lv_topi (fun z63_1 ez63_1 => ?_)
      have b81 : ∀ (j81_s0 : Int32) (H : Heap) (locs : List Loc) (ls : Array Slot), (rg j81_s0 0 1) → (FF (j81_s0.toInt = 1 → 0 ≤ r54_1.toInt ∧ r54_1.toInt ≤ 32)) → lv_has ls 8 [(0, .ref mm), (1, .int v0), (2, .long r42_3), (4, .long r54_1)] → va_P D vwCl ([(mm, .inr (16, fs2_mm50_310)), (utape, .inl (ct 1, 2000, .inl g_utape))] ++ (([] : va_W))) H → va_D A ([(mm, .inr (16, fs2_mm50_310)), (utape, .inl (ct 1, 2000, .inl g_utape))] ++ (([] : va_W))) → va_S A s.heap H locs → W p l e ({ frames := 10, cells := MC, slots := MS, locals := 215 }) s m [.ref mm, .int v0].toArray below meth c H locs 0 0 Q (F0 m 81 ls [.int j81_s0, .ref mm]) := by
        intro j81_s0 H locs ls r81_1001 hi81_1002 hl hP hD hS
        obtain ⟨c81_1, ec81_1⟩ : ∃ x9 : Nat, x9 = 0 + 1 := ⟨_, rfl⟩
        have ec81_1 := FF.mk ec81_1
        have mc81_1 : FF (c81_1 ≤ MC) := FF.mk (Int.ofNat_le.mp (show ((c81_1 : Nat) : Int) ≤ ((MC : Nat) : Int) by have q0 := FF.out hq2; have q1 := FF.out hq4; have q2 := FF.out ec81_1; omega))
        obtain ⟨k81_2, ek81_2⟩ : ∃ x9 : Nat, x9 = 0 + 7 := ⟨_, rfl⟩
        have ek81_2 := FF.mk ek81_2
        have mk81_2 : FF (k81_2 ≤ MS) := FF.mk (Int.ofNat_le.mp (show ((k81_2 : Nat) : Int) ≤ ((MS : Nat) : Int) by have q0 := FF.out hq2; have q1 := FF.out hq5; have q2 := FF.out ek81_2; omega))
        refine gt_q (pl := (([] : va_W))) (wr := [(utape, .inl (ct 1, 2000, .inl g_utape))]) [0] [1] (rt_V (As := [.int j81_s0]) (rest := []) (c_X16_must l hst D ct mm j81_s0 fs2_mm50_310 y_mm_650_312 r81_1001 (hs50_326.1.trans hlen_mm) hp50_317 hp50_318 _) (cb_of (n := 1) hn mw_1927 mw_13 mw_1924 mhX16_must ⟨(Nat.le_of_ble_eq_true rfl), (Nat.le_of_ble_eq_true rfl)⟩) hx hb hml hown hn hK hSK hZ hS mw_1926 mw_s182 (ci := 16) (q0 := 0) rfl rfl rfl rfl hl.1 (Nat.le_of_ble_eq_true rfl) dX16_readAddressed_81 ⟨(Nat.le_trans (Nat.le_of_eq (FF.out ec81_1).symm) (FF.out mc81_1)), (Nat.le_trans (Nat.le_of_eq (FF.out ek81_2).symm) (FF.out mk81_2))⟩) hP hD hS hA rfl rfl (by decide) (by decide) (by decide) (fun xq81_6 ux81_7 xfs81_8 H locs hpx81_9 hpexfs81_8 hP hD hS => ?_) (fun r81_3 u81_4 H locs hp81_5 hP hD hS => ?_)
        · have hP : va_P D vwCl [(utape, .inl (ct 1, 2000, .inl g_utape)), (mm, .inr (16, fs2_mm50_310)), (xq81_6, .inr (15, xfs81_8))] _ := hP
          have hD : va_D A [(utape, .inl (ct 1, 2000, .inl g_utape)), (mm, .inr (16, fs2_mm50_310)), (xq81_6, .inr (15, xfs81_8))] := hD
          refine vx_widen (k := c81_1) (n := k81_2) (Nat.le_of_eq (FF.out ec81_1).symm) (Nat.le_of_eq (FF.out ek81_2).symm) ?_
          exact xo hQ htab hlocks hK rfl hP hD hS (fs2_mm50_310, y_mm_650_312, y_mm_750_313) (fs := xfs81_8) ⟨hs50_326, hp50_317, hp50_318, hp50_319, hp50_320⟩ hpexfs81_8 [1, 0, 2] (by decide) rfl (kq := 2) rfl (FF.out mc81_1) (FF.out mk81_2)
        have hp81_310 := hp81_5
        replace hp81_310 : FF (j81_s0.toInt = 1) := hp81_310
        have hP : va_P D vwCl ([(utape, .inl (ct 1, 2000, .inl g_utape)), (mm, .inr (16, fs2_mm50_310))] ++ (([] : va_W))) _ := hP
        have hD : va_D A ([(utape, .inl (ct 1, 2000, .inl g_utape)), (mm, .inr (16, fs2_mm50_310))] ++ (([] : va_W))) := hD
        refine W.widen (k := 0) (n := 0) (Nat.le_refl _) (Nat.le_refl _) (W.eq (g2 := F0 m 84 ls []) rfl ?_)
        refine lv_ldc2 (v := 4294967295) hx hb hown (hn.get mw_1820 rfl) dX16_readAddressed_84 ?_
        refine lv_ldc2 (v := 32) hx hb hown (hn.get mw_2190 rfl) dX16_readAddressed_87 ?_
        refine lv_lload hx hb dX16_readAddressed_90 (lv_at hl 3 rfl) ?_
        refine lv_lsub hx hb dX16_readAddressed_92 ?_
        refine lv_topl (fun z92_1 ez92_1 => ?_)
        have r92_2 : rl z92_1 (-4294967263) 33 := rgL_sub ez92_1 (show rl (32 : Int64) 32 32 from rl_l (by decide)) hp54_4 (by decide)
        refine lv_l2i hx hb dX16_readAddressed_93 rfl ?_
        refine lv_topi (fun z93_1 ez93_1 => ?_)
        refine lv_lshl hx hb dX16_readAddressed_94 rfl ?_
        refine lv_topl (fun z94_1 ez94_1 => ?_)
        refine lv_ldc2 (v := 4294967295) hx hb hown (hn.get mw_1820 rfl) dX16_readAddressed_95 ?_
        refine lv_land hx hb dX16_readAddressed_98 ?_
        refine lv_topl (fun z98_1 ez98_1 => ?_)
        have r98_2 : rl z98_1 0 4294967295 := rgL_andr ez98_1 (show rl (4294967295 : Int64) 4294967295 4294967295 from rl_l (by decide)) (by decide)
        refine lv_lstore (lv' := [(6, .long z98_1), (0, .ref mm), (1, .int v0), (2, .long r42_3), (4, .long r54_1)]) hx hb dX16_readAddressed_99 hl (by decide) rfl (fun ls hl => ?_)
        refine lv_aload_n hx hb dX16_readAddressed_101 rfl (lv_at hl 1 rfl) ?_
        refine lv_lload_n hx hb dX16_readAddressed_102 rfl (lv_at hl 3 rfl) ?_
        refine lv_lload hx hb dX16_readAddressed_103 (lv_at hl 0 rfl) ?_
        refine lv_ldc2 (v := (-1)) hx hb hown (hn.get mw_1798 rfl) dX16_readAddressed_105 ?_
        refine lv_lxor hx hb dX16_readAddressed_108 ?_
        refine lv_topl (fun z108_1 ez108_1 => ?_)
        refine lv_land hx hb dX16_readAddressed_109 ?_
        refine lv_topl (fun z109_1 ez109_1 => ?_)
        refine lv_lconst (v := 0) hx hb dX16_readAddressed_110 (by decide) ?_
        refine W.lcmp hx hb dX16_readAddressed_111 ?_
        refine lv_topi (fun z111_1 ez111_1 => ?_)
        have b120 : ∀ (j120_s0 : Int32) (H : Heap) (locs : List Loc) (ls : Array Slot), (rg j120_s0 0 1) → lv_has ls 8 [(0, .ref mm), (1, .int v0), (2, .long r42_3), (6, .long z98_1)] → va_P D vwCl ([(utape, .inl (ct 1, 2000, .inl g_utape)), (mm, .inr (16, fs2_mm50_310))] ++ (([] : va_W))) H → va_D A ([(utape, .inl (ct 1, 2000, .inl g_utape)), (mm, .inr (16, fs2_mm50_310))] ++ (([] : va_W))) → va_S A s.heap H locs → W p l e ({ frames := 10, cells := MC, slots := MS, locals := 215 }) s m [.ref mm, .int v0].toArray below meth c H locs 0 0 Q (F0 m 120 ls [.int j120_s0, .ref mm]) := by
          intro j120_s0 H locs ls r120_1001 hl hP hD hS
          obtain ⟨c120_1, ec120_1⟩ : ∃ x9 : Nat, x9 = 0 + 1 := ⟨_, rfl⟩
          have ec120_1 := FF.mk ec120_1
          have mc120_1 : FF (c120_1 ≤ MC) := FF.mk (Int.ofNat_le.mp (show ((c120_1 : Nat) : Int) ≤ ((MC : Nat) : Int) by have q0 := FF.out hq2; have q1 := FF.out hq4; have q2 := FF.out ec120_1; omega))
          obtain ⟨k120_2, ek120_2⟩ : ∃ x9 : Nat, x9 = 0 + 7 := ⟨_, rfl⟩
          have ek120_2 := FF.mk ek120_2
          have mk120_2 : FF (k120_2 ≤ MS) := FF.mk (Int.ofNat_le.mp (show ((k120_2 : Nat) : Int) ≤ ((MS : Nat) : Int) by have q0 := FF.out hq2; have q1 := FF.out hq5; have q2 := FF.out ek120_2; omega))
          refine gt_q (pl := (([] : va_W))) (wr := [(utape, .inl (ct 1, 2000, .inl g_utape))]) [1] [0] (rt_V (As := [.int j120_s0]) (rest := []) (c_X16_must l hst D ct mm j120_s0 fs2_mm50_310 y_mm_650_312 r120_1001 (hs50_326.1.trans hlen_mm) hp50_317 hp50_318 _) (cb_of (n := 1) hn mw_1927 mw_13 mw_1924 mhX16_must ⟨(Nat.le_of_ble_eq_true rfl), (Nat.le_of_ble_eq_true rfl)⟩) hx hb hml hown hn hK hSK hZ hS mw_1926 mw_s182 (ci := 16) (q0 := 0) rfl rfl rfl rfl hl.1 (Nat.le_of_ble_eq_true rfl) dX16_readAddressed_120 ⟨(Nat.le_trans (Nat.le_of_eq (FF.out ec120_1).symm) (FF.out mc120_1)), (Nat.le_trans (Nat.le_of_eq (FF.out ek120_2).symm) (FF.out mk120_2))⟩) hP hD hS hA rfl rfl (by decide) (by decide) (by decide) (fun xq120_6 ux120_7 xfs120_8 H locs hpx120_9 hpexfs120_8 hP hD hS => ?_) (fun r120_3 u120_4 H locs hp120_5 hP hD hS => ?_)
          · have hP : va_P D vwCl [(utape, .inl (ct 1, 2000, .inl g_utape)), (mm, .inr (16, fs2_mm50_310)), (xq120_6, .inr (15, xfs120_8))] _ := hP
            have hD : va_D A [(utape, .inl (ct 1, 2000, .inl g_utape)), (mm, .inr (16, fs2_mm50_310)), (xq120_6, .inr (15, xfs120_8))] := hD
            refine vx_widen (k := c120_1) (n := k120_2) (Nat.le_of_eq (FF.out ec120_1).symm) (Nat.le_of_eq (FF.out ek120_2).symm) ?_
            exact xo hQ htab hlocks hK rfl hP hD hS (fs2_mm50_310, y_mm_650_312, y_mm_750_313) (fs := xfs120_8) ⟨hs50_326, hp50_317, hp50_318, hp50_319, hp50_320⟩ hpexfs120_8 [1, 0, 2] (by decide) rfl (kq := 2) rfl (FF.out mc120_1) (FF.out mk120_2)
          have hp120_310 := hp120_5
          replace hp120_310 : FF (j120_s0.toInt = 1) := hp120_310
          have hP : va_P D vwCl ([(utape, .inl (ct 1, 2000, .inl g_utape)), (mm, .inr (16, fs2_mm50_310))] ++ (([] : va_W))) _ := hP
          have hD : va_D A ([(utape, .inl (ct 1, 2000, .inl g_utape)), (mm, .inr (16, fs2_mm50_310))] ++ (([] : va_W))) := hD
          refine W.widen (k := 0) (n := 0) (Nat.le_refl _) (Nat.le_refl _) (W.eq (g2 := F0 m 123 ls []) rfl ?_)
          refine lv_aload_n hx hb dX16_readAddressed_123 rfl (lv_at hl 0 rfl) ?_
          obtain ⟨c124_1, ec124_1⟩ : ∃ x9 : Nat, x9 = 0 + 1 := ⟨_, rfl⟩
          have ec124_1 := FF.mk ec124_1
          have mc124_1 : FF (c124_1 ≤ MC) := FF.mk (Int.ofNat_le.mp (show ((c124_1 : Nat) : Int) ≤ ((MC : Nat) : Int) by have q0 := FF.out hq2; have q1 := FF.out hq4; have q2 := FF.out ec124_1; omega))
          obtain ⟨k124_2, ek124_2⟩ : ∃ x9 : Nat, x9 = 0 + 7 := ⟨_, rfl⟩
          have ek124_2 := FF.mk ek124_2
          have mk124_2 : FF (k124_2 ≤ MS) := FF.mk (Int.ofNat_le.mp (show ((k124_2 : Nat) : Int) ≤ ((MS : Nat) : Int) by have q0 := FF.out hq2; have q1 := FF.out hq5; have q2 := FF.out ek124_2; omega))
          refine gt_q (pl := (([] : va_W))) (wr := []) [1, 0] [] (rt_V (As := []) (rest := []) (c_X16_next l hst D ct mm fs2_mm50_310 utape y_mm_750_313 x_mm_8 g_utape (hs50_326.1.trans hlen_mm) (SB.get hs50_326 (by decide) hf_mm_0) (rg_of (show 0 ≤ y_mm_750_313.toInt ∧ y_mm_750_313.toInt ≤ 2001 by have q0 := hp50_319.1; have q1 := h_x_mm_8.2; have q2 := FF.out hp50_321; omega)) hp50_320 h_x_mm_8 (SB.get hs50_326 (by decide) hf_mm_8) h_g_utape (show y_mm_750_313.toInt ≤ x_mm_8.toInt by have q0 := FF.out hp50_321; omega) _) (cb_of (n := 0) hn mw_1912 mw_13 mw_1909 mhX16_next ⟨(Nat.le_of_ble_eq_true rfl), (Nat.le_of_ble_eq_true rfl)⟩) hx hb hml hown hn hK hSK hZ hS mw_1911 mw_s179 (ci := 16) (q0 := 0) rfl rfl rfl rfl hl.1 (Nat.le_of_ble_eq_true rfl) dX16_readAddressed_124 ⟨(Nat.le_trans (Nat.le_of_eq (FF.out ec124_1).symm) (FF.out mc124_1)), (Nat.le_trans (Nat.le_of_eq (FF.out ek124_2).symm) (FF.out mk124_2))⟩) hP hD hS hA rfl rfl (by decide) (by decide) (by decide) (fun xq124_6 ux124_7 xfs124_8 H locs hpx124_9 hpexfs124_8 hP hD hS => ?_) (fun r124_3 u124_4 H locs hp124_5 hP hD hS => ?_)
          · obtain ⟨fs2_mm124_10, y_mm_6124_11⟩ := ux124_7
            obtain ⟨hp124_12, hp124_13, hp124_14, hp124_15⟩ := hpx124_9
            have hs124_16 : SB fs_mm fs2_mm124_10 [5, 6, 7] := SB.trans hs50_326 hp124_12 (by decide)
            have hp124_13 : rg y_mm_6124_11 0 2000 := hp124_13
            have hP : va_P D vwCl [(mm, .inr (16, fs2_mm124_10)), (utape, .inl (ct 1, 2000, .inl g_utape)), (xq124_6, .inr (15, xfs124_8))] _ := hP
            have hD : va_D A [(mm, .inr (16, fs2_mm124_10)), (utape, .inl (ct 1, 2000, .inl g_utape)), (xq124_6, .inr (15, xfs124_8))] := hD
            refine vx_widen (k := c124_1) (n := k124_2) (Nat.le_of_eq (FF.out ec124_1).symm) (Nat.le_of_eq (FF.out ek124_2).symm) ?_
            exact xo hQ htab hlocks hK rfl hP hD hS (fs2_mm124_10, y_mm_6124_11, y_mm_750_313) (fs := xfs124_8) ⟨hs124_16, hp124_13, hp124_14, hp50_319, hp124_15⟩ hpexfs124_8 [0, 1, 2] (by decide) rfl (kq := 2) rfl (FF.out mc124_1) (FF.out mk124_2)
          obtain ⟨fs2_mm124_310, y_mm_5124_311, y_mm_6124_312, y_mm_7124_313⟩ := u124_4
          obtain ⟨hp124_314, hp124_315, hp124_316, hp124_317, hp124_318, hp124_319, hp124_320, hp124_321, hp124_322, hp124_323, hp124_324⟩ := hp124_5
          have hs124_325 : SB fs_mm fs2_mm124_310 [5, 6, 7] := SB.trans hs50_326 hp124_314 (by decide)
          have hp124_315 : rg y_mm_5124_311 0 2 := hp124_315
          have hp124_317 : rg y_mm_6124_312 0 2000 := hp124_317
          have hp124_319 : rg y_mm_7124_313 0 2002 := hp124_319
          replace hp124_321 : FF (y_mm_7124_313.toInt ≤ x_mm_8.toInt) := hp124_321
          replace hp124_322 : FF (y_mm_6124_312.toInt ≤ x_mm_8.toInt) := hp124_322
          replace hp124_323 : FF (y_mm_5124_311.toInt ≠ 0 → y_mm_6124_312.toInt + 1 ≤ y_mm_7124_313.toInt) := hp124_323
          replace hp124_324 : FF (y_mm_750_313.toInt ≤ y_mm_6124_312.toInt) := hp124_324
          have hP : va_P D vwCl ([(mm, .inr (16, fs2_mm124_310)), (utape, .inl (ct 1, 2000, .inl g_utape))] ++ (([] : va_W))) _ := hP
          have hD : va_D A ([(mm, .inr (16, fs2_mm124_310)), (utape, .inl (ct 1, 2000, .inl g_utape))] ++ (([] : va_W))) := hD
          refine W.widen (k := 0) (n := 0) (Nat.le_refl _) (Nat.le_refl _) (W.eq (g2 := F0 m 127 ls []) rfl ?_)
          refine lv_iload_n hx hb dX16_readAddressed_127 rfl (lv_at hl 1 rfl) ?_
          refine lv_lload hx hb dX16_readAddressed_128 (lv_at hl 3 rfl) ?_
          refine lv_lload_n hx hb dX16_readAddressed_130 rfl (lv_at hl 2 rfl) ?_
          refine lv_iconst (v := 1) hx hb dX16_readAddressed_131 (by decide) ?_
          obtain ⟨m132_1, gm132_1⟩ : ∃ m9 : Nat, m9 + 0 = MC := ⟨MC - 0, Nat.sub_add_cancel (Nat.zero_le MC)⟩
          have em132_1 := FF.mk gm132_1
          obtain ⟨m132_2, gm132_2⟩ : ∃ m9 : Nat, m9 + 0 = MS := ⟨MS - 0, Nat.sub_add_cancel (Nat.zero_le MS)⟩
          have em132_2 := FF.mk gm132_2
          refine gt_q (pl := (([] : va_W))) (wr := [(mm, .inr (16, fs2_mm124_310)), (utape, .inl (ct 1, 2000, .inl g_utape))]) [] [0, 1] (rt_S (As := [.int v0, .long z98_1, .long r42_3, .int 1]) (rest := []) (c_X16_hosts l hst D ct m132_1 m132_2 v0 z98_1 r42_3 (1 : Int32) (rg_w (show rg (1 : Int32) 1 1 from rg_l (by decide)) (by decide)) (show 18 ≤ ((m132_1 : Nat) : Int) by have q0 := FF.out hq2; have q1 := FF.out hq4; have q2 := FF.out em132_1; omega) (show 104 ≤ ((m132_2 : Nat) : Int) by have q0 := FF.out hq2; have q1 := FF.out hq5; have q2 := FF.out em132_2; omega) _) (cb_of (n := 4) hn mw_2184 mw_13 mw_2182 mhX16_hosts ⟨(Nat.le_of_ble_eq_true rfl), (Nat.le_of_ble_eq_true rfl)⟩) hx hb hml hown hn hK hSK hZ hS mw_2183 rfl hl.1 (Nat.le_of_ble_eq_true rfl) dX16_readAddressed_132 ⟨(Nat.le_of_eq ((Nat.add_comm _ _).trans gm132_1)), (Nat.le_of_eq ((Nat.add_comm _ _).trans gm132_2))⟩) hP hD hS hA rfl rfl (by decide) (by decide) (by decide) (fun xq132_6 ux132_7 xfs132_8 H locs hpx132_9 hpexfs132_8 hP hD hS => ?_) (fun r132_3 u132_4 H locs hp132_5 hP hD hS => ?_)
          · exact hpx132_9.elim
          obtain ⟨T132_310, kc132_311, kn132_312⟩ := u132_4
          obtain ⟨hp132_313, hp132_314, hp132_315, hp132_316, hp132_317, hp132_318, hp132_319⟩ := hp132_5
          subst hp132_313
          replace hp132_315 : FF (((kc132_311 : Nat) : Int) ≤ 18) := hp132_315
          replace hp132_316 : FF (((kn132_312 : Nat) : Int) ≤ 104) := hp132_316
          replace hp132_317 : FF (((T132_310.sz : Nat) : Int) ≤ 18) := hp132_317
          replace hp132_318 : FF (((T132_310.dep : Nat) : Int) ≤ 1) := hp132_318
          replace hp132_319 : FF (((T132_310.c4 : Nat) : Int) ≤ 2) := hp132_319
          obtain ⟨c132_320, ec132_320⟩ : ∃ x9 : Nat, x9 = 0 + kc132_311 := ⟨_, rfl⟩
          have ec132_320 := FF.mk ec132_320
          have mc132_320 : FF (c132_320 ≤ MC) := FF.mk (Int.ofNat_le.mp (show ((c132_320 : Nat) : Int) ≤ ((MC : Nat) : Int) by have q0 := FF.out hq2; have q1 := FF.out hq4; have q2 := FF.out hp132_315; have q3 := FF.out ec132_320; omega))
          obtain ⟨k132_321, ek132_321⟩ : ∃ x9 : Nat, x9 = 0 + kn132_312 := ⟨_, rfl⟩
          have ek132_321 := FF.mk ek132_321
          have mk132_321 : FF (k132_321 ≤ MS) := FF.mk (Int.ofNat_le.mp (show ((k132_321 : Nat) : Int) ≤ ((MS : Nat) : Int) by have q0 := FF.out hq2; have q1 := FF.out hq5; have q2 := FF.out hp132_316; have q3 := FF.out ek132_321; omega))
          have hP : va_P D vwCl (([(mm, .inr (16, fs2_mm124_310)), (utape, .inl (ct 1, 2000, .inl g_utape))] ++ (T132_310.cells Z0)) ++ (([] : va_W))) _ := hP
          have hD : va_D A (([(mm, .inr (16, fs2_mm124_310)), (utape, .inl (ct 1, 2000, .inl g_utape))] ++ (T132_310.cells Z0)) ++ (([] : va_W))) := hD
          have hP := pool_in hP
          have hD := pool_inD hD
          obtain ⟨p132_322, ep132_322⟩ : ∃ p9 : va_W, p9 = (([] : va_W) ++ (T132_310.cells Z0)) := ⟨_, rfl⟩
          rw [← ep132_322] at hP hD
          have hk132_323 : FF (0 ≤ ((T132_310.sz : Nat) : Int)) := Int.natCast_nonneg _
          have hk132_324 : FF (0 ≤ ((T132_310.dep : Nat) : Int)) := Int.natCast_nonneg _
          have hk132_325 : FF (0 ≤ ((T132_310.c4 : Nat) : Int)) := Int.natCast_nonneg _
          have hP : va_P D vwCl ([(mm, .inr (16, fs2_mm124_310)), (utape, .inl (ct 1, 2000, .inl g_utape))] ++ (p132_322)) _ := hP
          have hD : va_D A ([(mm, .inr (16, fs2_mm124_310)), (utape, .inl (ct 1, 2000, .inl g_utape))] ++ (p132_322)) := hD
          refine W.widen (k := c132_320) (n := k132_321) (Nat.le_of_eq (FF.out ec132_320).symm) (Nat.le_of_eq (FF.out ek132_321).symm) (W.eq (g2 := F0 m 135 ls [.ref T132_310.root]) rfl ?_)
          have hP : va_P D vwCl ([(mm, .inr (16, fs2_mm124_310)), (utape, .inl (ct 1, 2000, .inl g_utape))] ++ (T132_310.cells Z0)) _ := hP.perm (seg_perm (fun f => by have w0 := seg_sum (List.Perm.of_eq ep132_322) f; simp only [ST.cells_leaf, ST.cells_minus, ST.cells_group, ST.cells_acc, ST.cells_two, FT.cells_two, FT.cells_inv, FT.cells_test, FT.cells_pair, List.map_append, List.sum_append, List.map_nil, List.sum_nil] at w0 ⊢ <;> omega))
          have hD : va_D A ([(mm, .inr (16, fs2_mm124_310)), (utape, .inl (ct 1, 2000, .inl g_utape))] ++ (T132_310.cells Z0)) := hD.perm (seg_perm (fun f => by have w0 := seg_sum (List.Perm.of_eq ep132_322) f; simp only [ST.cells_leaf, ST.cells_minus, ST.cells_group, ST.cells_acc, ST.cells_two, FT.cells_two, FT.cells_inv, FT.cells_test, FT.cells_pair, List.map_append, List.sum_append, List.map_nil, List.sum_nil] at w0 ⊢ <;> omega))
          exact et_r (SX := List Value × Int32 × Int32) hQ hx hb hr hlocks dX16_readAddressed_135 (fs2_mm124_310, y_mm_5124_311, y_mm_6124_312, y_mm_7124_313, T132_310, c132_320, k132_321) ⟨hs124_325, hp124_315, hp124_316, hp124_317, hp124_318, hp124_319, hp124_320, rfl, hp132_314, (show y_mm_7124_313.toInt ≤ x_mm_8.toInt by have q0 := FF.out hp124_321; omega), (show y_mm_6124_312.toInt ≤ x_mm_8.toInt by have q0 := FF.out hp124_322; omega), (show y_mm_5124_311.toInt ≠ 0 → y_mm_6124_312.toInt + 1 ≤ y_mm_7124_313.toInt by have q0 := hp124_315.1; have q1 := FF.out hp124_323; omega), (show x_mm_7.toInt ≤ y_mm_6124_312.toInt by have q0 := hp50_315.1; have q1 := FF.out hp38_324; have q2 := FF.out hp42_324; have q3 := FF.out hp42_325; have q4 := FF.out hp50_323; have q5 := FF.out hp50_324; have q6 := FF.out hp50_325; have q7 := FF.out hp54_5; have q8 := FF.out hi81_1002; have q9 := FF.out hp81_310; have q10 := FF.out hp124_324; omega), (show 1 ≤ y_mm_6124_312.toInt - x_mm_6.toInt by have q0 := hp50_315.1; have q1 := FF.out hq7; have q2 := FF.out hp38_324; have q3 := FF.out hp42_324; have q4 := FF.out hp42_325; have q5 := FF.out hp50_323; have q6 := FF.out hp50_324; have q7 := FF.out hp50_325; have q8 := FF.out hp54_5; have q9 := FF.out hi81_1002; have q10 := FF.out hp81_310; have q11 := FF.out hp124_324; omega), (show ((c132_320 : Nat) : Int) ≤ 17 * (y_mm_6124_312.toInt - x_mm_6.toInt) + 0 by have q0 := hp50_315.1; have q1 := FF.out hq7; have q2 := FF.out hp38_324; have q3 := FF.out hp42_324; have q4 := FF.out hp42_325; have q5 := FF.out hp50_323; have q6 := FF.out hp50_324; have q7 := FF.out hp50_325; have q8 := FF.out hp54_5; have q9 := FF.out hi81_1002; have q10 := FF.out hp81_310; have q11 := FF.out hp124_324; have q12 := FF.out hp132_315; have q13 := FF.out ec132_320; omega), (show ((k132_321 : Nat) : Int) ≤ 100 * (y_mm_6124_312.toInt - x_mm_6.toInt) + 0 by have q0 := hp50_315.1; have q1 := FF.out hq7; have q2 := FF.out hp38_324; have q3 := FF.out hp42_324; have q4 := FF.out hp42_325; have q5 := FF.out hp50_323; have q6 := FF.out hp50_324; have q7 := FF.out hp50_325; have q8 := FF.out hp54_5; have q9 := FF.out hi81_1002; have q10 := FF.out hp81_310; have q11 := FF.out hp124_324; have q12 := FF.out hp132_316; have q13 := FF.out ek132_321; omega), (show ((T132_310.sz : Nat) : Int) ≤ 19 * (y_mm_6124_312.toInt - x_mm_6.toInt) + 0 by have q0 := hp50_315.1; have q1 := FF.out hq7; have q2 := FF.out hp38_324; have q3 := FF.out hp42_324; have q4 := FF.out hp42_325; have q5 := FF.out hp50_323; have q6 := FF.out hp50_324; have q7 := FF.out hp50_325; have q8 := FF.out hp54_5; have q9 := FF.out hi81_1002; have q10 := FF.out hp81_310; have q11 := FF.out hp124_324; have q12 := FF.out hp132_317; omega), (show 4 * ((T132_310.c4 : Nat) : Int) ≤ (y_mm_6124_312.toInt - x_mm_6.toInt) by have q0 := hp50_315.1; have q1 := FF.out hq7; have q2 := FF.out hp38_324; have q3 := FF.out hp42_324; have q4 := FF.out hp42_325; have q5 := FF.out hp50_323; have q6 := FF.out hp50_324; have q7 := FF.out hp50_325; have q8 := FF.out hp54_5; have q9 := FF.out hi81_1002; have q10 := FF.out hp81_310; have q11 := FF.out hp124_324; have q12 := FF.out hp132_319; omega), (show ((T132_310.dep : Nat) : Int) ≤ 83 by have q0 := FF.out hp132_318; omega)⟩ hP hD hS [0, 1] (by decide) rfl (Nat.le_refl _) (Nat.le_refl _) (FF.out mc132_320) (FF.out mk132_321)
        refine lv_if_ne (tgt := 119) hx hb dX16_readAddressed_112 (by decide) (fun c112_1 => ?_) (fun c112_1 => ?_)
        · have t112_2 := FF.mk (l_ne ez111_1 c112_1)
          refine lv_iconst (v := 0) hx hb dX16_readAddressed_119 (by decide) ?_
          exact b120 (0 : Int32) H locs ls (rg_w (show rg (0 : Int32) 0 0 from rg_l (by decide)) (by decide)) (lv_sub hl [1, 2, 3, 0] rfl) hP hD hS
        · have t112_2 := FF.mk (l_eq ez111_1 c112_1)
          have r112_3 : rl z109_1 0 0 := rl_eqA t112_2 (rl_any z109_1) (show rl (0 : Int64) 0 0 from rl_l (by decide)) (by decide)
          refine lv_iconst (v := 1) hx hb dX16_readAddressed_115 (by decide) ?_
          refine lv_goto (tgt := 120) hx hb dX16_readAddressed_116 (by decide) ?_
          exact b120 (1 : Int32) H locs ls (rg_w (show rg (1 : Int32) 1 1 from rg_l (by decide)) (by decide)) (lv_sub hl [1, 2, 3, 0] rfl) hP hD hS
      have b80 : ∀  (H : Heap) (locs : List Loc) (ls : Array Slot), lv_has ls 8 [(0, .ref mm), (1, .int v0), (2, .long r42_3), (4, .long r54_1)] → va_P D vwCl ([(mm, .inr (16, fs2_mm50_310)), (utape, .inl (ct 1, 2000, .inl g_utape))] ++ (([] : va_W))) H → va_D A ([(mm, .inr (16, fs2_mm50_310)), (utape, .inl (ct 1, 2000, .inl g_utape))] ++ (([] : va_W))) → va_S A s.heap H locs → W p l e ({ frames := 10, cells := MC, slots := MS, locals := 215 }) s m [.ref mm, .int v0].toArray below meth c H locs 0 0 Q (F0 m 80 ls [.ref mm]) := by
        intro  H locs ls  hl hP hD hS
        refine lv_iconst (v := 0) hx hb dX16_readAddressed_80 (by decide) ?_
        exact b81 (0 : Int32) H locs ls (rg_w (show rg (0 : Int32) 0 0 from rg_l (by decide)) (by decide)) (show (0 : Int32).toInt = 1 → 0 ≤ r54_1.toInt ∧ r54_1.toInt ≤ 32 by have q0 := (show (0 : Int32).toInt = 0 from by decide); omega) (lv_sub hl [0, 1, 2, 3] rfl) hP hD hS
      refine lv_if_lt (tgt := 80) hx hb dX16_readAddressed_64 (by decide) (fun c64_1 => ?_) (fun c64_1 => ?_)
      · have t64_2 := FF.mk (l_lt ez63_1 c64_1)
        have r64_3 : rl r54_1 (-1) (-1) := rl_ltA t64_2 hp54_4 (show rl (0 : Int64) 0 0 from rl_l (by decide)) (by decide)
        exact b80  H locs ls  (lv_sub hl [2, 3, 1, 0] rfl) hP hD hS
      · have t64_2 := FF.mk (l_nlt ez63_1 c64_1)
        have r64_3 : rl r54_1 0 4294967295 := rl_leB t64_2 (show rl (0 : Int64) 0 0 from rl_l (by decide)) hp54_4 (by decide)
        refine lv_lload hx hb dX16_readAddressed_67 (lv_at hl 0 rfl) ?_
        refine lv_ldc2 (v := 32) hx hb hown (hn.get mw_2190 rfl) dX16_readAddressed_69 ?_
        refine W.lcmp hx hb dX16_readAddressed_72 ?_
        refine lv_topi (fun z72_1 ez72_1 => ?_)
        refine lv_if_gt (tgt := 80) hx hb dX16_readAddressed_73 (by decide) (fun c73_1 => ?_) (fun c73_1 => ?_)
        · have t73_2 := FF.mk (l_gt ez72_1 c73_1)
          have r73_3 : rl r54_1 33 4294967295 := rl_ltB t73_2 (show rl (32 : Int64) 32 32 from rl_l (by decide)) r64_3 (by decide)
          exact b80  H locs ls  (lv_sub hl [2, 3, 1, 0] rfl) hP hD hS
        · have t73_2 := FF.mk (l_ngt ez72_1 c73_1)
          have r73_3 : rl r54_1 0 32 := rl_leA t73_2 r64_3 (show rl (32 : Int64) 32 32 from rl_l (by decide)) (by decide)
          refine lv_iconst (v := 1) hx hb dX16_readAddressed_76 (by decide) ?_
          refine lv_goto (tgt := 81) hx hb dX16_readAddressed_77 (by decide) ?_
          exact b81 (1 : Int32) H locs ls (rg_w (show rg (1 : Int32) 1 1 from rg_l (by decide)) (by decide)) (show (1 : Int32).toInt = 1 → 0 ≤ r54_1.toInt ∧ r54_1.toInt ≤ 32 by have q0 := r73_3.1; have q1 := r73_3.2; have q2 := (show (1 : Int32).toInt = 1 from by decide); omega) (lv_sub hl [2, 3, 1, 0] rfl) hP hD hS
  · have t7_2 := FF.mk (i_ne c7_1)
    have r7_3 : rg r4_1 1 1 := rg_neAl t7_2 hp4_4 (show rg (0 : Int32) 0 0 from rg_l (by decide)) (by decide)
    refine lv_aload_n hx hb dX16_readAddressed_10 rfl (lv_at hl 0 rfl) ?_
    obtain ⟨c11_1, ec11_1⟩ : ∃ x9 : Nat, x9 = 0 + 1 := ⟨_, rfl⟩
    have ec11_1 := FF.mk ec11_1
    have mc11_1 : FF (c11_1 ≤ MC) := FF.mk (Int.ofNat_le.mp (show ((c11_1 : Nat) : Int) ≤ ((MC : Nat) : Int) by have q0 := FF.out hq2; have q1 := FF.out hq4; have q2 := FF.out ec11_1; omega))
    obtain ⟨k11_2, ek11_2⟩ : ∃ x9 : Nat, x9 = 0 + 7 := ⟨_, rfl⟩
    have ek11_2 := FF.mk ek11_2
    have mk11_2 : FF (k11_2 ≤ MS) := FF.mk (Int.ofNat_le.mp (show ((k11_2 : Nat) : Int) ≤ ((MS : Nat) : Int) by have q0 := FF.out hq2; have q1 := FF.out hq5; have q2 := FF.out ek11_2; omega))
    refine gt_q (pl := (([] : va_W))) (wr := []) [0, 1] [] (rt_V (As := []) (rest := []) (c_X16_next l hst D ct mm fs_mm utape x_mm_7 x_mm_8 g_utape hlen_mm hf_mm_0 h_x_mm_7 hf_mm_7 h_x_mm_8 hf_mm_8 h_g_utape (show x_mm_7.toInt ≤ x_mm_8.toInt by have q0 := FF.out hq1; omega) _) (cb_of (n := 0) hn mw_1912 mw_13 mw_1909 mhX16_next ⟨(Nat.le_of_ble_eq_true rfl), (Nat.le_of_ble_eq_true rfl)⟩) hx hb hml hown hn hK hSK hZ hS mw_1911 mw_s179 (ci := 16) (q0 := 0) rfl rfl rfl rfl hl.1 (Nat.le_of_ble_eq_true rfl) dX16_readAddressed_11 ⟨(Nat.le_trans (Nat.le_of_eq (FF.out ec11_1).symm) (FF.out mc11_1)), (Nat.le_trans (Nat.le_of_eq (FF.out ek11_2).symm) (FF.out mk11_2))⟩) hP hD hS hA rfl rfl (by decide) (by decide) (by decide) (fun xq11_6 ux11_7 xfs11_8 H locs hpx11_9 hpexfs11_8 hP hD hS => ?_) (fun r11_3 u11_4 H locs hp11_5 hP hD hS => ?_)
    · obtain ⟨fs2_mm11_10, y_mm_611_11⟩ := ux11_7
      obtain ⟨hp11_12, hp11_13, hp11_14, hp11_15⟩ := hpx11_9
      have hs11_16 : SB fs_mm fs2_mm11_10 [5, 6, 7] := SB.trans (SB.rf _ _) hp11_12 (by decide)
      have hp11_13 : rg y_mm_611_11 0 2000 := hp11_13
      have hP : va_P D vwCl [(mm, .inr (16, fs2_mm11_10)), (utape, .inl (ct 1, 2000, .inl g_utape)), (xq11_6, .inr (15, xfs11_8))] _ := hP
      have hD : va_D A [(mm, .inr (16, fs2_mm11_10)), (utape, .inl (ct 1, 2000, .inl g_utape)), (xq11_6, .inr (15, xfs11_8))] := hD
      refine vx_widen (k := c11_1) (n := k11_2) (Nat.le_of_eq (FF.out ec11_1).symm) (Nat.le_of_eq (FF.out ek11_2).symm) ?_
      exact xo hQ htab hlocks hK rfl hP hD hS (fs2_mm11_10, y_mm_611_11, x_mm_7) (fs := xfs11_8) ⟨hs11_16, hp11_13, hp11_14, (rg_w h_x_mm_7 (by decide)), hp11_15⟩ hpexfs11_8 [0, 1, 2] (by decide) rfl (kq := 2) rfl (FF.out mc11_1) (FF.out mk11_2)
    obtain ⟨fs2_mm11_310, y_mm_511_311, y_mm_611_312, y_mm_711_313⟩ := u11_4
    obtain ⟨hp11_314, hp11_315, hp11_316, hp11_317, hp11_318, hp11_319, hp11_320, hp11_321, hp11_322, hp11_323, hp11_324⟩ := hp11_5
    have hs11_325 : SB fs_mm fs2_mm11_310 [5, 6, 7] := SB.trans (SB.rf _ _) hp11_314 (by decide)
    have hp11_315 : rg y_mm_511_311 0 2 := hp11_315
    have hp11_317 : rg y_mm_611_312 0 2000 := hp11_317
    have hp11_319 : rg y_mm_711_313 0 2002 := hp11_319
    replace hp11_321 : FF (y_mm_711_313.toInt ≤ x_mm_8.toInt) := hp11_321
    replace hp11_322 : FF (y_mm_611_312.toInt ≤ x_mm_8.toInt) := hp11_322
    replace hp11_323 : FF (y_mm_511_311.toInt ≠ 0 → y_mm_611_312.toInt + 1 ≤ y_mm_711_313.toInt) := hp11_323
    replace hp11_324 : FF (x_mm_7.toInt ≤ y_mm_611_312.toInt) := hp11_324
    have hP : va_P D vwCl ([(mm, .inr (16, fs2_mm11_310)), (utape, .inl (ct 1, 2000, .inl g_utape))] ++ (([] : va_W))) _ := hP
    have hD : va_D A ([(mm, .inr (16, fs2_mm11_310)), (utape, .inl (ct 1, 2000, .inl g_utape))] ++ (([] : va_W))) := hD
    refine W.widen (k := 0) (n := 0) (Nat.le_refl _) (Nat.le_refl _) (W.eq (g2 := F0 m 14 ls []) rfl ?_)
    refine lv_iload_n hx hb dX16_readAddressed_14 rfl (lv_at hl 1 rfl) ?_
    refine lv_ldc2 (v := 4294967295) hx hb hown (hn.get mw_1820 rfl) dX16_readAddressed_15 ?_
    refine lv_aload_n hx hb dX16_readAddressed_18 rfl (lv_at hl 0 rfl) ?_
    obtain ⟨c19_1, ec19_1⟩ : ∃ x9 : Nat, x9 = 0 + 1 := ⟨_, rfl⟩
    have ec19_1 := FF.mk ec19_1
    have mc19_1 : FF (c19_1 ≤ MC) := FF.mk (Int.ofNat_le.mp (show ((c19_1 : Nat) : Int) ≤ ((MC : Nat) : Int) by have q0 := FF.out hq2; have q1 := FF.out hq4; have q2 := FF.out ec19_1; omega))
    obtain ⟨k19_2, ek19_2⟩ : ∃ x9 : Nat, x9 = 0 + 7 := ⟨_, rfl⟩
    have ek19_2 := FF.mk ek19_2
    have mk19_2 : FF (k19_2 ≤ MS) := FF.mk (Int.ofNat_le.mp (show ((k19_2 : Nat) : Int) ≤ ((MS : Nat) : Int) by have q0 := FF.out hq2; have q1 := FF.out hq5; have q2 := FF.out ek19_2; omega))
    refine gt_q (pl := (([] : va_W))) (wr := []) [0, 1] [] (rt_V (As := []) (rest := [.long 4294967295, .int v0]) (c_X16_wantAddress l hst D ct mm fs2_mm11_310 utape y_mm_511_311 y_mm_611_312 y_mm_711_313 x_mm_8 g_utape (hs11_325.1.trans hlen_mm) (SB.get hs11_325 (by decide) hf_mm_0) hp11_315 hp11_316 hp11_317 hp11_318 (rg_of (show 0 ≤ y_mm_711_313.toInt ∧ y_mm_711_313.toInt ≤ 2001 by have q0 := hp11_319.1; have q1 := h_x_mm_8.2; have q2 := FF.out hp11_321; omega)) hp11_320 h_x_mm_8 (SB.get hs11_325 (by decide) hf_mm_8) h_g_utape (show y_mm_711_313.toInt ≤ 2000 by have q0 := h_x_mm_8.2; have q1 := FF.out hp11_321; omega) (show y_mm_711_313.toInt ≤ x_mm_8.toInt by have q0 := FF.out hp11_321; omega) (show y_mm_611_312.toInt ≤ x_mm_8.toInt by have q0 := FF.out hp11_322; omega) (show y_mm_511_311.toInt ≠ 0 → y_mm_611_312.toInt + 1 ≤ y_mm_711_313.toInt by have q0 := hp11_315.1; have q1 := FF.out hp11_323; omega) _) (cb_of (n := 0) hn mw_2179 mw_13 mw_2176 mhX16_wantAddress ⟨(Nat.le_of_ble_eq_true rfl), (Nat.le_of_ble_eq_true rfl)⟩) hx hb hml hown hn hK hSK hZ hS mw_2178 mw_s202 (ci := 16) (q0 := 0) rfl rfl rfl rfl hl.1 (Nat.le_of_ble_eq_true rfl) dX16_readAddressed_19 ⟨(Nat.le_trans (Nat.le_of_eq (FF.out ec19_1).symm) (FF.out mc19_1)), (Nat.le_trans (Nat.le_of_eq (FF.out ek19_2).symm) (FF.out mk19_2))⟩) hP hD hS hA rfl rfl (by decide) (by decide) (by decide) (fun xq19_6 ux19_7 xfs19_8 H locs hpx19_9 hpexfs19_8 hP hD hS => ?_) (fun r19_3 u19_4 H locs hp19_5 hP hD hS => ?_)
    · obtain ⟨fs2_mm19_10, y_mm_619_11⟩ := ux19_7
      obtain ⟨hp19_12, hp19_13, hp19_14, hp19_15⟩ := hpx19_9
      have hs19_16 : SB fs_mm fs2_mm19_10 [5, 6, 7] := SB.trans hs11_325 hp19_12 (by decide)
      have hp19_13 : rg y_mm_619_11 0 2000 := hp19_13
      have hP : va_P D vwCl [(mm, .inr (16, fs2_mm19_10)), (utape, .inl (ct 1, 2000, .inl g_utape)), (xq19_6, .inr (15, xfs19_8))] _ := hP
      have hD : va_D A [(mm, .inr (16, fs2_mm19_10)), (utape, .inl (ct 1, 2000, .inl g_utape)), (xq19_6, .inr (15, xfs19_8))] := hD
      refine vx_widen (k := c19_1) (n := k19_2) (Nat.le_of_eq (FF.out ec19_1).symm) (Nat.le_of_eq (FF.out ek19_2).symm) ?_
      exact xo hQ htab hlocks hK rfl hP hD hS (fs2_mm19_10, y_mm_619_11, y_mm_711_313) (fs := xfs19_8) ⟨hs19_16, hp19_13, hp19_14, hp11_319, hp19_15⟩ hpexfs19_8 [0, 1, 2] (by decide) rfl (kq := 2) rfl (FF.out mc19_1) (FF.out mk19_2)
    obtain ⟨fs2_mm19_310, y_mm_519_311, y_mm_619_312, y_mm_719_313⟩ := u19_4
    obtain ⟨hp19_314, hp19_315, hp19_316, hp19_317, hp19_318, hp19_319, hp19_320, hp19_321, hp19_322, hp19_323, hp19_324, hp19_325, hp19_326⟩ := hp19_5
    have hs19_327 : SB fs_mm fs2_mm19_310 [5, 6, 7] := SB.trans hs11_325 hp19_314 (by decide)
    have hp19_315 : rg y_mm_519_311 0 2 := hp19_315
    have hp19_317 : rg y_mm_619_312 0 2000 := hp19_317
    have hp19_319 : rg y_mm_719_313 0 2002 := hp19_319
    replace hp19_321 : FF (y_mm_719_313.toInt ≤ x_mm_8.toInt) := hp19_321
    replace hp19_322 : FF (y_mm_619_312.toInt ≤ x_mm_8.toInt) := hp19_322
    replace hp19_323 : FF (y_mm_519_311.toInt ≠ 0 → y_mm_619_312.toInt + 1 ≤ y_mm_719_313.toInt) := hp19_323
    replace hp19_324 : FF (y_mm_711_313.toInt ≤ y_mm_619_312.toInt) := hp19_324
    replace hp19_325 : FF (y_mm_611_312.toInt + 7 ≤ y_mm_711_313.toInt) := hp19_325
    replace hp19_326 : FF (y_mm_511_311.toInt ≠ 0) := hp19_326
    have hP : va_P D vwCl ([(mm, .inr (16, fs2_mm19_310)), (utape, .inl (ct 1, 2000, .inl g_utape))] ++ (([] : va_W))) _ := hP
    have hD : va_D A ([(mm, .inr (16, fs2_mm19_310)), (utape, .inl (ct 1, 2000, .inl g_utape))] ++ (([] : va_W))) := hD
    refine W.widen (k := 0) (n := 0) (Nat.le_refl _) (Nat.le_refl _) (W.eq (g2 := F0 m 22 ls [.long r19_3, .long 4294967295, .int v0]) rfl ?_)
    refine lv_iconst (v := 0) hx hb dX16_readAddressed_22 (by decide) ?_
    obtain ⟨m23_1, gm23_1⟩ : ∃ m9 : Nat, m9 + 0 = MC := ⟨MC - 0, Nat.sub_add_cancel (Nat.zero_le MC)⟩
    have em23_1 := FF.mk gm23_1
    obtain ⟨m23_2, gm23_2⟩ : ∃ m9 : Nat, m9 + 0 = MS := ⟨MS - 0, Nat.sub_add_cancel (Nat.zero_le MS)⟩
    have em23_2 := FF.mk gm23_2
    refine gt_q (pl := (([] : va_W))) (wr := [(mm, .inr (16, fs2_mm19_310)), (utape, .inl (ct 1, 2000, .inl g_utape))]) [] [0, 1] (rt_S (As := [.int v0, .long 4294967295, .long r19_3, .int 0]) (rest := []) (c_X16_hosts l hst D ct m23_1 m23_2 v0 (4294967295 : Int64) r19_3 (0 : Int32) (rg_w (show rg (0 : Int32) 0 0 from rg_l (by decide)) (by decide)) (show 18 ≤ ((m23_1 : Nat) : Int) by have q0 := FF.out hq4; have q1 := FF.out hq7; have q2 := FF.out hp11_321; have q3 := FF.out hp11_324; have q4 := FF.out hp19_325; have q5 := FF.out em23_1; omega) (show 104 ≤ ((m23_2 : Nat) : Int) by have q0 := FF.out hq5; have q1 := FF.out hq7; have q2 := FF.out hp11_321; have q3 := FF.out hp11_324; have q4 := FF.out hp19_325; have q5 := FF.out em23_2; omega) _) (cb_of (n := 4) hn mw_2184 mw_13 mw_2182 mhX16_hosts ⟨(Nat.le_of_ble_eq_true rfl), (Nat.le_of_ble_eq_true rfl)⟩) hx hb hml hown hn hK hSK hZ hS mw_2183 rfl hl.1 (Nat.le_of_ble_eq_true rfl) dX16_readAddressed_23 ⟨(Nat.le_of_eq ((Nat.add_comm _ _).trans gm23_1)), (Nat.le_of_eq ((Nat.add_comm _ _).trans gm23_2))⟩) hP hD hS hA rfl rfl (by decide) (by decide) (by decide) (fun xq23_6 ux23_7 xfs23_8 H locs hpx23_9 hpexfs23_8 hP hD hS => ?_) (fun r23_3 u23_4 H locs hp23_5 hP hD hS => ?_)
    · exact hpx23_9.elim
    obtain ⟨T23_310, kc23_311, kn23_312⟩ := u23_4
    obtain ⟨hp23_313, hp23_314, hp23_315, hp23_316, hp23_317, hp23_318, hp23_319⟩ := hp23_5
    subst hp23_313
    replace hp23_315 : FF (((kc23_311 : Nat) : Int) ≤ 18) := hp23_315
    replace hp23_316 : FF (((kn23_312 : Nat) : Int) ≤ 104) := hp23_316
    replace hp23_317 : FF (((T23_310.sz : Nat) : Int) ≤ 18) := hp23_317
    replace hp23_318 : FF (((T23_310.dep : Nat) : Int) ≤ 1) := hp23_318
    replace hp23_319 : FF (((T23_310.c4 : Nat) : Int) ≤ 2) := hp23_319
    obtain ⟨c23_320, ec23_320⟩ : ∃ x9 : Nat, x9 = 0 + kc23_311 := ⟨_, rfl⟩
    have ec23_320 := FF.mk ec23_320
    have mc23_320 : FF (c23_320 ≤ MC) := FF.mk (Int.ofNat_le.mp (show ((c23_320 : Nat) : Int) ≤ ((MC : Nat) : Int) by have q0 := FF.out hq4; have q1 := FF.out hq7; have q2 := FF.out hp11_321; have q3 := FF.out hp11_324; have q4 := FF.out hp19_325; have q5 := FF.out hp23_315; have q6 := FF.out ec23_320; omega))
    obtain ⟨k23_321, ek23_321⟩ : ∃ x9 : Nat, x9 = 0 + kn23_312 := ⟨_, rfl⟩
    have ek23_321 := FF.mk ek23_321
    have mk23_321 : FF (k23_321 ≤ MS) := FF.mk (Int.ofNat_le.mp (show ((k23_321 : Nat) : Int) ≤ ((MS : Nat) : Int) by have q0 := FF.out hq5; have q1 := FF.out hq7; have q2 := FF.out hp11_321; have q3 := FF.out hp11_324; have q4 := FF.out hp19_325; have q5 := FF.out hp23_316; have q6 := FF.out ek23_321; omega))
    have hP : va_P D vwCl (([(mm, .inr (16, fs2_mm19_310)), (utape, .inl (ct 1, 2000, .inl g_utape))] ++ (T23_310.cells Z0)) ++ (([] : va_W))) _ := hP
    have hD : va_D A (([(mm, .inr (16, fs2_mm19_310)), (utape, .inl (ct 1, 2000, .inl g_utape))] ++ (T23_310.cells Z0)) ++ (([] : va_W))) := hD
    have hP := pool_in hP
    have hD := pool_inD hD
    obtain ⟨p23_322, ep23_322⟩ : ∃ p9 : va_W, p9 = (([] : va_W) ++ (T23_310.cells Z0)) := ⟨_, rfl⟩
    rw [← ep23_322] at hP hD
    have hk23_323 : FF (0 ≤ ((T23_310.sz : Nat) : Int)) := Int.natCast_nonneg _
    have hk23_324 : FF (0 ≤ ((T23_310.dep : Nat) : Int)) := Int.natCast_nonneg _
    have hk23_325 : FF (0 ≤ ((T23_310.c4 : Nat) : Int)) := Int.natCast_nonneg _
    have hP : va_P D vwCl ([(mm, .inr (16, fs2_mm19_310)), (utape, .inl (ct 1, 2000, .inl g_utape))] ++ (p23_322)) _ := hP
    have hD : va_D A ([(mm, .inr (16, fs2_mm19_310)), (utape, .inl (ct 1, 2000, .inl g_utape))] ++ (p23_322)) := hD
    refine W.widen (k := c23_320) (n := k23_321) (Nat.le_of_eq (FF.out ec23_320).symm) (Nat.le_of_eq (FF.out ek23_321).symm) (W.eq (g2 := F0 m 26 ls [.ref T23_310.root]) rfl ?_)
    have hP : va_P D vwCl ([(mm, .inr (16, fs2_mm19_310)), (utape, .inl (ct 1, 2000, .inl g_utape))] ++ (T23_310.cells Z0)) _ := hP.perm (seg_perm (fun f => by have w0 := seg_sum (List.Perm.of_eq ep23_322) f; simp only [ST.cells_leaf, ST.cells_minus, ST.cells_group, ST.cells_acc, ST.cells_two, FT.cells_two, FT.cells_inv, FT.cells_test, FT.cells_pair, List.map_append, List.sum_append, List.map_nil, List.sum_nil] at w0 ⊢ <;> omega))
    have hD : va_D A ([(mm, .inr (16, fs2_mm19_310)), (utape, .inl (ct 1, 2000, .inl g_utape))] ++ (T23_310.cells Z0)) := hD.perm (seg_perm (fun f => by have w0 := seg_sum (List.Perm.of_eq ep23_322) f; simp only [ST.cells_leaf, ST.cells_minus, ST.cells_group, ST.cells_acc, ST.cells_two, FT.cells_two, FT.cells_inv, FT.cells_test, FT.cells_pair, List.map_append, List.sum_append, List.map_nil, List.sum_nil] at w0 ⊢ <;> omega))
    exact et_r (SX := List Value × Int32 × Int32) hQ hx hb hr hlocks dX16_readAddressed_26 (fs2_mm19_310, y_mm_519_311, y_mm_619_312, y_mm_719_313, T23_310, c23_320, k23_321) ⟨hs19_327, hp19_315, hp19_316, hp19_317, hp19_318, hp19_319, hp19_320, rfl, hp23_314, (show y_mm_719_313.toInt ≤ x_mm_8.toInt by have q0 := FF.out hp19_321; omega), (show y_mm_619_312.toInt ≤ x_mm_8.toInt by have q0 := FF.out hp19_322; omega), (show y_mm_519_311.toInt ≠ 0 → y_mm_619_312.toInt + 1 ≤ y_mm_719_313.toInt by have q0 := hp19_315.1; have q1 := FF.out hp19_323; omega), (show x_mm_7.toInt ≤ y_mm_619_312.toInt by have q0 := FF.out hp11_324; have q1 := FF.out hp19_324; have q2 := FF.out hp19_325; omega), (show 1 ≤ y_mm_619_312.toInt - x_mm_6.toInt by have q0 := FF.out hq7; have q1 := FF.out hp11_324; have q2 := FF.out hp19_324; have q3 := FF.out hp19_325; omega), (show ((c23_320 : Nat) : Int) ≤ 17 * (y_mm_619_312.toInt - x_mm_6.toInt) + 0 by have q0 := FF.out hq7; have q1 := FF.out hp11_324; have q2 := FF.out hp19_324; have q3 := FF.out hp19_325; have q4 := FF.out hp23_315; have q5 := FF.out ec23_320; omega), (show ((k23_321 : Nat) : Int) ≤ 100 * (y_mm_619_312.toInt - x_mm_6.toInt) + 0 by have q0 := FF.out hq7; have q1 := FF.out hp11_324; have q2 := FF.out hp19_324; have q3 := FF.out hp19_325; have q4 := FF.out hp23_316; have q5 := FF.out ek23_321; omega), (show ((T23_310.sz : Nat) : Int) ≤ 19 * (y_mm_619_312.toInt - x_mm_6.toInt) + 0 by have q0 := FF.out hq7; have q1 := FF.out hp11_324; have q2 := FF.out hp19_324; have q3 := FF.out hp19_325; have q4 := FF.out hp23_317; omega), (show 4 * ((T23_310.c4 : Nat) : Int) ≤ (y_mm_619_312.toInt - x_mm_6.toInt) by have q0 := FF.out hq7; have q1 := FF.out hp11_324; have q2 := FF.out hp19_324; have q3 := FF.out hp19_325; have q4 := FF.out hp23_319; omega), (show ((T23_310.dep : Nat) : Int) ≤ 83 by have q0 := FF.out hp23_318; omega)⟩ hP hD hS [0, 1] (by decide) rfl (Nat.le_refl _) (Nat.le_refl _) (FF.out mc23_320) (FF.out mk23_321)
