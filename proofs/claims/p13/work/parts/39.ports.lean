set_option maxHeartbeats 20000000 in
theorem c_X16_ports (l : Launch) (hst : l.stackTraces = false) (D : va_G) (ct : Nat → ClassId) (MC : Nat) (MS : Nat) (v0 : Int32) (v1 : Int64) (v2 : Int64) (v3 : Int32) (h_v3 : rg v3 0 1) (hq0 : 68 ≤ ((MC : Nat) : Int)) (hq1 : 398 ≤ ((MS : Nat) : Int)) : KT (V := Nat) (S := FT × Nat × Nat) (SX := Unit) l yX16_ports cX16_ports 9 (some (.object "FilterForgeModel$Filter")) 6 114 D ct [.int v0, .long v1, .long v2, .int v3] [] MC MS (fun r : Nat => some (.ref r)) (fun (r : Nat) (u : FT × Nat × Nat) => match u with | (T, kc, kn) => r = T.root ∧ T.ok ∧ (((kc : Nat) : Int) ≤ 68) ∧ (((kn : Nat) : Int) ≤ 398) ∧ (((T.sz : Nat) : Int) ≤ 76) ∧ (((T.dep : Nat) : Int) ≤ 1) ∧ (((T.c4 : Nat) : Int) ≤ 0)) (fun (u : FT × Nat × Nat) => match u with | (T, kc, kn) => [] ++ (T.cells Z0)) (fun (u : FT × Nat × Nat) => match u with | (T, kc, kn) => kc) (fun (u : FT × Nat × Nat) => match u with | (T, kc, kn) => kn) 15 RX15 peW (fun _ => False) (fun _ => []) := by
  refine KT_of (by decide) (Nat.le_of_ble_eq_true rfl) (fun p e s m below meth c A Q C0 htab hA H locs hS hP hD hQ ls hl => ?_)
  obtain ⟨hx, hb, hr, hown, hin, hml, hlocks, hn, hK, hZ, hSK⟩ := C0
  have hl : lv_has ls 9 [(0, .int v0), (1, .long v1), (3, .long v2), (5, .int v3)] := hl
  have hP : va_P D vwCl ([] ++ (([] : va_W))) H := by rw [List.append_nil]; exact hP
  have hD : va_D A ([] ++ (([] : va_W))) := by rw [List.append_nil]; exact hD
  replace hq0 := FF.mk hq0
  replace hq1 := FF.mk hq1
  have b109 : ∀ (j109_accC : Nat) (j109_accS : Nat) (j109_l7 : FT) (j109_l8 : FT) (H : Heap) (locs : List Loc) (ls : Array Slot), (FF (((j109_accC : Nat) : Int) ≤ ((MC : Nat) : Int))) → (FF (((j109_accS : Nat) : Int) ≤ ((MS : Nat) : Int))) → (j109_l7.ok) → (j109_l8.ok) → (FF (((j109_accC : Nat) : Int) ≤ 52)) → (FF (((j109_accS : Nat) : Int) ≤ 304)) → (FF (((j109_l7.sz : Nat) : Int) ≤ 19)) → (FF (((j109_l7.dep : Nat) : Int) ≤ 1)) → (FF (((j109_l7.c4 : Nat) : Int) ≤ 0)) → (FF (((j109_l8.sz : Nat) : Int) ≤ 41)) → (FF (((j109_l8.dep : Nat) : Int) ≤ 1)) → (FF (((j109_l8.c4 : Nat) : Int) ≤ 0)) → lv_has ls 9 [(7, .ref j109_l7.root), (8, .ref j109_l8.root)] → va_P D vwCl ([] ++ ((j109_l7.cells Z0) ++ (j109_l8.cells Z0))) H → va_D A ([] ++ ((j109_l7.cells Z0) ++ (j109_l8.cells Z0))) → va_S A s.heap H locs → W p l e ({ frames := 6, cells := MC, slots := MS, locals := 114 }) s m [.int v0, .long v1, .long v2, .int v3].toArray below meth c H locs j109_accC j109_accS Q (F0 m 109 ls []) := by
    intro j109_accC j109_accS j109_l7 j109_l8 H locs ls hm109_1001 hm109_1002 ht109_1003 ht109_1004 hi109_1005 hi109_1006 hi109_1007 hi109_1008 hi109_1009 hi109_1010 hi109_1011 hi109_1012 hl hP hD hS
    refine lv_aload hx hb dX16_ports_109 (lv_at hl 1 rfl) ?_
    refine lv_ldc2 (v := 34525) hx hb hown (hn.get mw_2128 rfl) dX16_ports_111 ?_
    obtain ⟨m114_1, gm114_1⟩ : ∃ m9 : Nat, m9 + j109_accC = MC := ⟨MC - j109_accC, Nat.sub_add_cancel (Int.ofNat_le.mp (FF.out hm109_1001))⟩
    have em114_1 := FF.mk gm114_1
    obtain ⟨m114_2, gm114_2⟩ : ∃ m9 : Nat, m9 + j109_accS = MS := ⟨MS - j109_accS, Nat.sub_add_cancel (Int.ofNat_le.mp (FF.out hm109_1002))⟩
    have em114_2 := FF.mk gm114_2
    refine gt_q (pl := ((j109_l7.cells Z0) ++ (j109_l8.cells Z0))) (wr := []) [] [] (rt_S (As := [.long 34525]) (rest := [.ref j109_l8.root]) (c_X16_ether l hst D ct m114_1 m114_2 (34525 : Int64) (show 4 ≤ ((m114_1 : Nat) : Int) by have q0 := FF.out hq0; have q1 := FF.out hi109_1005; have q2 := FF.out em114_1; omega) (show 22 ≤ ((m114_2 : Nat) : Int) by have q0 := FF.out hq1; have q1 := FF.out hi109_1006; have q2 := FF.out em114_2; omega) _) (cb_of (n := 1) hn mw_2132 mw_13 mw_2130 mhX16_ether ⟨(Nat.le_of_ble_eq_true rfl), (Nat.le_of_ble_eq_true rfl)⟩) hx hb hml hown hn hK hSK hZ hS mw_2131 rfl hl.1 (Nat.le_of_ble_eq_true rfl) dX16_ports_114 ⟨(Nat.le_of_eq ((Nat.add_comm _ _).trans gm114_1)), (Nat.le_of_eq ((Nat.add_comm _ _).trans gm114_2))⟩) hP hD hS hA rfl rfl (by decide) (by decide) (by decide) (fun xq114_6 ux114_7 xfs114_8 H locs hpx114_9 hpexfs114_8 hP hD hS => ?_) (fun r114_3 u114_4 H locs hp114_5 hP hD hS => ?_)
    · exact hpx114_9.elim
    obtain ⟨T114_310, kc114_311, kn114_312⟩ := u114_4
    obtain ⟨hp114_313, hp114_314, hp114_315, hp114_316, hp114_317, hp114_318, hp114_319⟩ := hp114_5
    subst hp114_313
    replace hp114_315 : FF (((kc114_311 : Nat) : Int) ≤ 4) := hp114_315
    replace hp114_316 : FF (((kn114_312 : Nat) : Int) ≤ 22) := hp114_316
    replace hp114_317 : FF (((T114_310.sz : Nat) : Int) ≤ 4) := hp114_317
    replace hp114_318 : FF (((T114_310.dep : Nat) : Int) ≤ 1) := hp114_318
    replace hp114_319 : FF (((T114_310.c4 : Nat) : Int) ≤ 0) := hp114_319
    obtain ⟨c114_320, ec114_320⟩ : ∃ x9 : Nat, x9 = j109_accC + kc114_311 := ⟨_, rfl⟩
    have ec114_320 := FF.mk ec114_320
    have uc114_320 : FF (((c114_320 : Nat) : Int) ≤ 56) := FF.mk (show ((c114_320 : Nat) : Int) ≤ 56 by have q0 := FF.out hi109_1005; have q1 := FF.out hp114_315; have q2 := FF.out ec114_320; omega)
    have mc114_320 : FF (c114_320 ≤ MC) := FF.mk (Int.ofNat_le.mp (show ((c114_320 : Nat) : Int) ≤ ((MC : Nat) : Int) by have q0 := FF.out hq0; have q1 := FF.out uc114_320; omega))
    obtain ⟨k114_321, ek114_321⟩ : ∃ x9 : Nat, x9 = j109_accS + kn114_312 := ⟨_, rfl⟩
    have ek114_321 := FF.mk ek114_321
    have uk114_321 : FF (((k114_321 : Nat) : Int) ≤ 326) := FF.mk (show ((k114_321 : Nat) : Int) ≤ 326 by have q0 := FF.out hi109_1006; have q1 := FF.out hp114_316; have q2 := FF.out ek114_321; omega)
    have mk114_321 : FF (k114_321 ≤ MS) := FF.mk (Int.ofNat_le.mp (show ((k114_321 : Nat) : Int) ≤ ((MS : Nat) : Int) by have q0 := FF.out hq1; have q1 := FF.out uk114_321; omega))
    have hP : va_P D vwCl (([] ++ (T114_310.cells Z0)) ++ ((j109_l7.cells Z0) ++ (j109_l8.cells Z0))) _ := hP
    have hD : va_D A (([] ++ (T114_310.cells Z0)) ++ ((j109_l7.cells Z0) ++ (j109_l8.cells Z0))) := hD
    have hP := pool_in hP
    have hD := pool_inD hD
    obtain ⟨p114_322, ep114_322⟩ : ∃ p9 : va_W, p9 = ((j109_l7.cells Z0) ++ (j109_l8.cells Z0) ++ (T114_310.cells Z0)) := ⟨_, rfl⟩
    rw [← ep114_322] at hP hD
    have hk114_323 : FF (0 ≤ ((T114_310.sz : Nat) : Int)) := Int.natCast_nonneg _
    have hk114_324 : FF (0 ≤ ((T114_310.dep : Nat) : Int)) := Int.natCast_nonneg _
    have hk114_325 : FF (0 ≤ ((T114_310.c4 : Nat) : Int)) := Int.natCast_nonneg _
    have hP : va_P D vwCl ([] ++ (p114_322)) _ := hP
    have hD : va_D A ([] ++ (p114_322)) := hD
    refine W.widen (k := c114_320) (n := k114_321) (Nat.le_of_eq (FF.out ec114_320).symm) (Nat.le_of_eq (FF.out ek114_321).symm) (W.eq (g2 := F0 m 117 ls [.ref T114_310.root, .ref j109_l8.root]) rfl ?_)
    refine lv_ldc2 (v := 20) hx hb hown (hn.get mw_2150 rfl) dX16_ports_117 ?_
    refine lv_ldc2 (v := 6) hx hb hown (hn.get mw_2141 rfl) dX16_ports_120 ?_
    obtain ⟨m123_1, gm123_1⟩ : ∃ m9 : Nat, m9 + c114_320 = MC := ⟨MC - c114_320, Nat.sub_add_cancel (FF.out mc114_320)⟩
    have em123_1 := FF.mk gm123_1
    obtain ⟨m123_2, gm123_2⟩ : ∃ m9 : Nat, m9 + k114_321 = MS := ⟨MS - k114_321, Nat.sub_add_cancel (FF.out mk114_321)⟩
    have em123_2 := FF.mk gm123_2
    refine gt_q (pl := (p114_322)) (wr := []) [] [] (rt_S (As := [.long 20, .long 6]) (rest := [.ref T114_310.root, .ref j109_l8.root]) (c_X16_byteIs l hst D ct m123_1 m123_2 (20 : Int64) (6 : Int64) (show 4 ≤ ((m123_1 : Nat) : Int) by have q0 := FF.out hq0; have q1 := FF.out uc114_320; have q2 := FF.out em123_1; omega) (show 22 ≤ ((m123_2 : Nat) : Int) by have q0 := FF.out hq1; have q1 := FF.out uk114_321; have q2 := FF.out em123_2; omega) _) (cb_of (n := 2) hn mw_2145 mw_13 mw_2143 mhX16_byteIs ⟨(Nat.le_of_ble_eq_true rfl), (Nat.le_of_ble_eq_true rfl)⟩) hx hb hml hown hn hK hSK hZ hS mw_2144 rfl hl.1 (Nat.le_of_ble_eq_true rfl) dX16_ports_123 ⟨(Nat.le_of_eq ((Nat.add_comm _ _).trans gm123_1)), (Nat.le_of_eq ((Nat.add_comm _ _).trans gm123_2))⟩) hP hD hS hA rfl rfl (by decide) (by decide) (by decide) (fun xq123_6 ux123_7 xfs123_8 H locs hpx123_9 hpexfs123_8 hP hD hS => ?_) (fun r123_3 u123_4 H locs hp123_5 hP hD hS => ?_)
    · exact hpx123_9.elim
    obtain ⟨T123_310, kc123_311, kn123_312⟩ := u123_4
    obtain ⟨hp123_313, hp123_314, hp123_315, hp123_316, hp123_317, hp123_318, hp123_319⟩ := hp123_5
    subst hp123_313
    replace hp123_315 : FF (((kc123_311 : Nat) : Int) ≤ 4) := hp123_315
    replace hp123_316 : FF (((kn123_312 : Nat) : Int) ≤ 22) := hp123_316
    replace hp123_317 : FF (((T123_310.sz : Nat) : Int) ≤ 4) := hp123_317
    replace hp123_318 : FF (((T123_310.dep : Nat) : Int) ≤ 1) := hp123_318
    replace hp123_319 : FF (((T123_310.c4 : Nat) : Int) ≤ 0) := hp123_319
    obtain ⟨c123_320, ec123_320⟩ : ∃ x9 : Nat, x9 = c114_320 + kc123_311 := ⟨_, rfl⟩
    have ec123_320 := FF.mk ec123_320
    have uc123_320 : FF (((c123_320 : Nat) : Int) ≤ 60) := FF.mk (show ((c123_320 : Nat) : Int) ≤ 60 by have q0 := FF.out uc114_320; have q1 := FF.out hp123_315; have q2 := FF.out ec123_320; omega)
    have mc123_320 : FF (c123_320 ≤ MC) := FF.mk (Int.ofNat_le.mp (show ((c123_320 : Nat) : Int) ≤ ((MC : Nat) : Int) by have q0 := FF.out hq0; have q1 := FF.out uc123_320; omega))
    obtain ⟨k123_321, ek123_321⟩ : ∃ x9 : Nat, x9 = k114_321 + kn123_312 := ⟨_, rfl⟩
    have ek123_321 := FF.mk ek123_321
    have uk123_321 : FF (((k123_321 : Nat) : Int) ≤ 348) := FF.mk (show ((k123_321 : Nat) : Int) ≤ 348 by have q0 := FF.out uk114_321; have q1 := FF.out hp123_316; have q2 := FF.out ek123_321; omega)
    have mk123_321 : FF (k123_321 ≤ MS) := FF.mk (Int.ofNat_le.mp (show ((k123_321 : Nat) : Int) ≤ ((MS : Nat) : Int) by have q0 := FF.out hq1; have q1 := FF.out uk123_321; omega))
    have hP : va_P D vwCl (([] ++ (T123_310.cells Z0)) ++ (p114_322)) _ := hP
    have hD : va_D A (([] ++ (T123_310.cells Z0)) ++ (p114_322)) := hD
    have hP := pool_in hP
    have hD := pool_inD hD
    obtain ⟨p123_322, ep123_322⟩ : ∃ p9 : va_W, p9 = (p114_322 ++ (T123_310.cells Z0)) := ⟨_, rfl⟩
    rw [← ep123_322] at hP hD
    have hk123_323 : FF (0 ≤ ((T123_310.sz : Nat) : Int)) := Int.natCast_nonneg _
    have hk123_324 : FF (0 ≤ ((T123_310.dep : Nat) : Int)) := Int.natCast_nonneg _
    have hk123_325 : FF (0 ≤ ((T123_310.c4 : Nat) : Int)) := Int.natCast_nonneg _
    have hP : va_P D vwCl ([] ++ (p123_322)) _ := hP
    have hD : va_D A ([] ++ (p123_322)) := hD
    refine W.widen (k := c123_320) (n := k123_321) (Nat.le_of_eq (FF.out ec123_320).symm) (Nat.le_of_eq (FF.out ek123_321).symm) (W.eq (g2 := F0 m 126 ls [.ref T123_310.root, .ref T114_310.root, .ref j109_l8.root]) rfl ?_)
    refine lv_ldc2 (v := 20) hx hb hown (hn.get mw_2150 rfl) dX16_ports_126 ?_
    refine lv_ldc2 (v := 17) hx hb hown (hn.get mw_2142 rfl) dX16_ports_129 ?_
    obtain ⟨m132_1, gm132_1⟩ : ∃ m9 : Nat, m9 + c123_320 = MC := ⟨MC - c123_320, Nat.sub_add_cancel (FF.out mc123_320)⟩
    have em132_1 := FF.mk gm132_1
    obtain ⟨m132_2, gm132_2⟩ : ∃ m9 : Nat, m9 + k123_321 = MS := ⟨MS - k123_321, Nat.sub_add_cancel (FF.out mk123_321)⟩
    have em132_2 := FF.mk gm132_2
    refine gt_q (pl := (p123_322)) (wr := []) [] [] (rt_S (As := [.long 20, .long 17]) (rest := [.ref T123_310.root, .ref T114_310.root, .ref j109_l8.root]) (c_X16_byteIs l hst D ct m132_1 m132_2 (20 : Int64) (17 : Int64) (show 4 ≤ ((m132_1 : Nat) : Int) by have q0 := FF.out hq0; have q1 := FF.out uc123_320; have q2 := FF.out em132_1; omega) (show 22 ≤ ((m132_2 : Nat) : Int) by have q0 := FF.out hq1; have q1 := FF.out uk123_321; have q2 := FF.out em132_2; omega) _) (cb_of (n := 2) hn mw_2145 mw_13 mw_2143 mhX16_byteIs ⟨(Nat.le_of_ble_eq_true rfl), (Nat.le_of_ble_eq_true rfl)⟩) hx hb hml hown hn hK hSK hZ hS mw_2144 rfl hl.1 (Nat.le_of_ble_eq_true rfl) dX16_ports_132 ⟨(Nat.le_of_eq ((Nat.add_comm _ _).trans gm132_1)), (Nat.le_of_eq ((Nat.add_comm _ _).trans gm132_2))⟩) hP hD hS hA rfl rfl (by decide) (by decide) (by decide) (fun xq132_6 ux132_7 xfs132_8 H locs hpx132_9 hpexfs132_8 hP hD hS => ?_) (fun r132_3 u132_4 H locs hp132_5 hP hD hS => ?_)
    · exact hpx132_9.elim
    obtain ⟨T132_310, kc132_311, kn132_312⟩ := u132_4
    obtain ⟨hp132_313, hp132_314, hp132_315, hp132_316, hp132_317, hp132_318, hp132_319⟩ := hp132_5
    subst hp132_313
    replace hp132_315 : FF (((kc132_311 : Nat) : Int) ≤ 4) := hp132_315
    replace hp132_316 : FF (((kn132_312 : Nat) : Int) ≤ 22) := hp132_316
    replace hp132_317 : FF (((T132_310.sz : Nat) : Int) ≤ 4) := hp132_317
    replace hp132_318 : FF (((T132_310.dep : Nat) : Int) ≤ 1) := hp132_318
    replace hp132_319 : FF (((T132_310.c4 : Nat) : Int) ≤ 0) := hp132_319
    obtain ⟨c132_320, ec132_320⟩ : ∃ x9 : Nat, x9 = c123_320 + kc132_311 := ⟨_, rfl⟩
    have ec132_320 := FF.mk ec132_320
    have uc132_320 : FF (((c132_320 : Nat) : Int) ≤ 64) := FF.mk (show ((c132_320 : Nat) : Int) ≤ 64 by have q0 := FF.out uc123_320; have q1 := FF.out hp132_315; have q2 := FF.out ec132_320; omega)
    have mc132_320 : FF (c132_320 ≤ MC) := FF.mk (Int.ofNat_le.mp (show ((c132_320 : Nat) : Int) ≤ ((MC : Nat) : Int) by have q0 := FF.out hq0; have q1 := FF.out uc132_320; omega))
    obtain ⟨k132_321, ek132_321⟩ : ∃ x9 : Nat, x9 = k123_321 + kn132_312 := ⟨_, rfl⟩
    have ek132_321 := FF.mk ek132_321
    have uk132_321 : FF (((k132_321 : Nat) : Int) ≤ 370) := FF.mk (show ((k132_321 : Nat) : Int) ≤ 370 by have q0 := FF.out uk123_321; have q1 := FF.out hp132_316; have q2 := FF.out ek132_321; omega)
    have mk132_321 : FF (k132_321 ≤ MS) := FF.mk (Int.ofNat_le.mp (show ((k132_321 : Nat) : Int) ≤ ((MS : Nat) : Int) by have q0 := FF.out hq1; have q1 := FF.out uk132_321; omega))
    have hP : va_P D vwCl (([] ++ (T132_310.cells Z0)) ++ (p123_322)) _ := hP
    have hD : va_D A (([] ++ (T132_310.cells Z0)) ++ (p123_322)) := hD
    have hP := pool_in hP
    have hD := pool_inD hD
    obtain ⟨p132_322, ep132_322⟩ : ∃ p9 : va_W, p9 = (p123_322 ++ (T132_310.cells Z0)) := ⟨_, rfl⟩
    rw [← ep132_322] at hP hD
    have hk132_323 : FF (0 ≤ ((T132_310.sz : Nat) : Int)) := Int.natCast_nonneg _
    have hk132_324 : FF (0 ≤ ((T132_310.dep : Nat) : Int)) := Int.natCast_nonneg _
    have hk132_325 : FF (0 ≤ ((T132_310.c4 : Nat) : Int)) := Int.natCast_nonneg _
    have hP : va_P D vwCl ([] ++ (p132_322)) _ := hP
    have hD : va_D A ([] ++ (p132_322)) := hD
    refine W.widen (k := c132_320) (n := k132_321) (Nat.le_of_eq (FF.out ec132_320).symm) (Nat.le_of_eq (FF.out ek132_321).symm) (W.eq (g2 := F0 m 135 ls [.ref T132_310.root, .ref T123_310.root, .ref T114_310.root, .ref j109_l8.root]) rfl ?_)
    obtain ⟨m135_1, gm135_1⟩ : ∃ m9 : Nat, m9 + c132_320 = MC := ⟨MC - c132_320, Nat.sub_add_cancel (FF.out mc132_320)⟩
    have em135_1 := FF.mk gm135_1
    obtain ⟨m135_2, gm135_2⟩ : ∃ m9 : Nat, m9 + k132_321 = MS := ⟨MS - k132_321, Nat.sub_add_cancel (FF.out mk132_321)⟩
    have em135_2 := FF.mk gm135_2
    refine gt_q (pl := (p132_322)) (wr := []) [] [] (rt_S (As := [.ref T123_310.root, .ref T132_310.root]) (rest := [.ref T114_310.root, .ref j109_l8.root]) (c_X16_or_e l hst D ct m135_1 m135_2 T123_310 T132_310 hp123_314 hp132_314 (show 1 ≤ ((m135_1 : Nat) : Int) by have q0 := FF.out hq0; have q1 := FF.out uc132_320; have q2 := FF.out em135_1; omega) (show 7 ≤ ((m135_2 : Nat) : Int) by have q0 := FF.out hq1; have q1 := FF.out uk132_321; have q2 := FF.out em135_2; omega) _) (cb_of (n := 2) hn mw_2163 mw_13 mw_2161 mhX16_or ⟨(Nat.le_of_ble_eq_true rfl), (Nat.le_of_ble_eq_true rfl)⟩) hx hb hml hown hn hK hSK hZ hS mw_2162 rfl hl.1 (Nat.le_of_ble_eq_true rfl) dX16_ports_135 ⟨(Nat.le_of_eq ((Nat.add_comm _ _).trans gm135_1)), (Nat.le_of_eq ((Nat.add_comm _ _).trans gm135_2))⟩) hP hD hS hA rfl rfl (by decide) (by decide) (by decide) (fun xq135_6 ux135_7 xfs135_8 H locs hpx135_9 hpexfs135_8 hP hD hS => ?_) (fun r135_3 u135_4 H locs hp135_5 hP hD hS => ?_)
    · exact hpx135_9.elim
    obtain ⟨T135_310, nw135_311, kc135_312, kn135_313⟩ := u135_4
    obtain ⟨hp135_314, hp135_315, hp135_316, hp135_317, hp135_318, hp135_319, hp135_320, hp135_321⟩ := hp135_5
    subst hp135_314
    replace hp135_317 : FF (((kc135_312 : Nat) : Int) ≤ 1) := hp135_317
    replace hp135_318 : FF (((kn135_313 : Nat) : Int) ≤ 7) := hp135_318
    replace hp135_319 : FF (((T135_310.dep : Nat) : Int) ≤ ((T123_310.dep : Nat) : Int) ∨ ((T135_310.dep : Nat) : Int) ≤ ((T132_310.dep : Nat) : Int)) := hp135_319
    replace hp135_320 : FF (((T135_310.sz : Nat) : Int) = ((T123_310.sz : Nat) : Int) + ((T132_310.sz : Nat) : Int) + 1) := hp135_320
    replace hp135_321 : FF (((T135_310.c4 : Nat) : Int) = ((T123_310.c4 : Nat) : Int) + ((T132_310.c4 : Nat) : Int)) := hp135_321
    obtain ⟨c135_322, ec135_322⟩ : ∃ x9 : Nat, x9 = c132_320 + kc135_312 := ⟨_, rfl⟩
    have ec135_322 := FF.mk ec135_322
    have uc135_322 : FF (((c135_322 : Nat) : Int) ≤ 65) := FF.mk (show ((c135_322 : Nat) : Int) ≤ 65 by have q0 := FF.out uc132_320; have q1 := FF.out hp135_317; have q2 := FF.out ec135_322; omega)
    have mc135_322 : FF (c135_322 ≤ MC) := FF.mk (Int.ofNat_le.mp (show ((c135_322 : Nat) : Int) ≤ ((MC : Nat) : Int) by have q0 := FF.out hq0; have q1 := FF.out uc135_322; omega))
    obtain ⟨k135_323, ek135_323⟩ : ∃ x9 : Nat, x9 = k132_321 + kn135_313 := ⟨_, rfl⟩
    have ek135_323 := FF.mk ek135_323
    have uk135_323 : FF (((k135_323 : Nat) : Int) ≤ 377) := FF.mk (show ((k135_323 : Nat) : Int) ≤ 377 by have q0 := FF.out uk132_321; have q1 := FF.out hp135_318; have q2 := FF.out ek135_323; omega)
    have mk135_323 : FF (k135_323 ≤ MS) := FF.mk (Int.ofNat_le.mp (show ((k135_323 : Nat) : Int) ≤ ((MS : Nat) : Int) by have q0 := FF.out hq1; have q1 := FF.out uk135_323; omega))
    have hP : va_P D vwCl (([] ++ nw135_311) ++ (p132_322)) _ := hP
    have hD : va_D A (([] ++ nw135_311) ++ (p132_322)) := hD
    have hP := pool_in hP
    have hD := pool_inD hD
    obtain ⟨p135_324, ep135_324⟩ : ∃ p9 : va_W, p9 = (p132_322 ++ nw135_311) := ⟨_, rfl⟩
    rw [← ep135_324] at hP hD
    have hk135_325 : FF (0 ≤ ((T135_310.sz : Nat) : Int)) := Int.natCast_nonneg _
    have hk135_326 : FF (0 ≤ ((T135_310.dep : Nat) : Int)) := Int.natCast_nonneg _
    have hk135_327 : FF (0 ≤ ((T135_310.c4 : Nat) : Int)) := Int.natCast_nonneg _
    have hP : va_P D vwCl ([] ++ (p135_324)) _ := hP
    have hD : va_D A ([] ++ (p135_324)) := hD
    refine W.widen (k := c135_322) (n := k135_323) (Nat.le_of_eq (FF.out ec135_322).symm) (Nat.le_of_eq (FF.out ek135_323).symm) (W.eq (g2 := F0 m 138 ls [.ref T135_310.root, .ref T114_310.root, .ref j109_l8.root]) rfl ?_)
    refine lv_aload hx hb dX16_ports_138 (lv_at hl 0 rfl) ?_
    obtain ⟨m140_1, gm140_1⟩ : ∃ m9 : Nat, m9 + c135_322 = MC := ⟨MC - c135_322, Nat.sub_add_cancel (FF.out mc135_322)⟩
    have em140_1 := FF.mk gm140_1
    obtain ⟨m140_2, gm140_2⟩ : ∃ m9 : Nat, m9 + k135_323 = MS := ⟨MS - k135_323, Nat.sub_add_cancel (FF.out mk135_323)⟩
    have em140_2 := FF.mk gm140_2
    refine gt_q (pl := (p135_324)) (wr := []) [] [] (rt_S (As := [.ref T135_310.root, .ref j109_l7.root]) (rest := [.ref T114_310.root, .ref j109_l8.root]) (c_X16_and_e l hst D ct m140_1 m140_2 T135_310 j109_l7 hp135_315 ht109_1003 (show 1 ≤ ((m140_1 : Nat) : Int) by have q0 := FF.out hq0; have q1 := FF.out uc135_322; have q2 := FF.out em140_1; omega) (show 7 ≤ ((m140_2 : Nat) : Int) by have q0 := FF.out hq1; have q1 := FF.out uk135_323; have q2 := FF.out em140_2; omega) _) (cb_of (n := 2) hn mw_2154 mw_13 mw_2152 mhX16_and ⟨(Nat.le_of_ble_eq_true rfl), (Nat.le_of_ble_eq_true rfl)⟩) hx hb hml hown hn hK hSK hZ hS mw_2153 rfl hl.1 (Nat.le_of_ble_eq_true rfl) dX16_ports_140 ⟨(Nat.le_of_eq ((Nat.add_comm _ _).trans gm140_1)), (Nat.le_of_eq ((Nat.add_comm _ _).trans gm140_2))⟩) hP hD hS hA rfl rfl (by decide) (by decide) (by decide) (fun xq140_6 ux140_7 xfs140_8 H locs hpx140_9 hpexfs140_8 hP hD hS => ?_) (fun r140_3 u140_4 H locs hp140_5 hP hD hS => ?_)
    · exact hpx140_9.elim
    obtain ⟨T140_310, nw140_311, kc140_312, kn140_313⟩ := u140_4
    obtain ⟨hp140_314, hp140_315, hp140_316, hp140_317, hp140_318, hp140_319, hp140_320, hp140_321⟩ := hp140_5
    subst hp140_314
    replace hp140_317 : FF (((kc140_312 : Nat) : Int) ≤ 1) := hp140_317
    replace hp140_318 : FF (((kn140_313 : Nat) : Int) ≤ 7) := hp140_318
    replace hp140_319 : FF (((T140_310.dep : Nat) : Int) ≤ ((T135_310.dep : Nat) : Int) ∨ ((T140_310.dep : Nat) : Int) ≤ ((j109_l7.dep : Nat) : Int)) := hp140_319
    replace hp140_320 : FF (((T140_310.sz : Nat) : Int) = ((T135_310.sz : Nat) : Int) + ((j109_l7.sz : Nat) : Int) + 1) := hp140_320
    replace hp140_321 : FF (((T140_310.c4 : Nat) : Int) = ((T135_310.c4 : Nat) : Int) + ((j109_l7.c4 : Nat) : Int)) := hp140_321
    obtain ⟨c140_322, ec140_322⟩ : ∃ x9 : Nat, x9 = c135_322 + kc140_312 := ⟨_, rfl⟩
    have ec140_322 := FF.mk ec140_322
    have uc140_322 : FF (((c140_322 : Nat) : Int) ≤ 66) := FF.mk (show ((c140_322 : Nat) : Int) ≤ 66 by have q0 := FF.out uc135_322; have q1 := FF.out hp140_317; have q2 := FF.out ec140_322; omega)
    have mc140_322 : FF (c140_322 ≤ MC) := FF.mk (Int.ofNat_le.mp (show ((c140_322 : Nat) : Int) ≤ ((MC : Nat) : Int) by have q0 := FF.out hq0; have q1 := FF.out uc140_322; omega))
    obtain ⟨k140_323, ek140_323⟩ : ∃ x9 : Nat, x9 = k135_323 + kn140_313 := ⟨_, rfl⟩
    have ek140_323 := FF.mk ek140_323
    have uk140_323 : FF (((k140_323 : Nat) : Int) ≤ 384) := FF.mk (show ((k140_323 : Nat) : Int) ≤ 384 by have q0 := FF.out uk135_323; have q1 := FF.out hp140_318; have q2 := FF.out ek140_323; omega)
    have mk140_323 : FF (k140_323 ≤ MS) := FF.mk (Int.ofNat_le.mp (show ((k140_323 : Nat) : Int) ≤ ((MS : Nat) : Int) by have q0 := FF.out hq1; have q1 := FF.out uk140_323; omega))
    have hP : va_P D vwCl (([] ++ nw140_311) ++ (p135_324)) _ := hP
    have hD : va_D A (([] ++ nw140_311) ++ (p135_324)) := hD
    have hP := pool_in hP
    have hD := pool_inD hD
    obtain ⟨p140_324, ep140_324⟩ : ∃ p9 : va_W, p9 = (p135_324 ++ nw140_311) := ⟨_, rfl⟩
    rw [← ep140_324] at hP hD
    have hk140_325 : FF (0 ≤ ((T140_310.sz : Nat) : Int)) := Int.natCast_nonneg _
    have hk140_326 : FF (0 ≤ ((T140_310.dep : Nat) : Int)) := Int.natCast_nonneg _
    have hk140_327 : FF (0 ≤ ((T140_310.c4 : Nat) : Int)) := Int.natCast_nonneg _
    have hP : va_P D vwCl ([] ++ (p140_324)) _ := hP
    have hD : va_D A ([] ++ (p140_324)) := hD
    refine W.widen (k := c140_322) (n := k140_323) (Nat.le_of_eq (FF.out ec140_322).symm) (Nat.le_of_eq (FF.out ek140_323).symm) (W.eq (g2 := F0 m 143 ls [.ref T140_310.root, .ref T114_310.root, .ref j109_l8.root]) rfl ?_)
    obtain ⟨m143_1, gm143_1⟩ : ∃ m9 : Nat, m9 + c140_322 = MC := ⟨MC - c140_322, Nat.sub_add_cancel (FF.out mc140_322)⟩
    have em143_1 := FF.mk gm143_1
    obtain ⟨m143_2, gm143_2⟩ : ∃ m9 : Nat, m9 + k140_323 = MS := ⟨MS - k140_323, Nat.sub_add_cancel (FF.out mk140_323)⟩
    have em143_2 := FF.mk gm143_2
    refine gt_q (pl := (p140_324)) (wr := []) [] [] (rt_S (As := [.ref T114_310.root, .ref T140_310.root]) (rest := [.ref j109_l8.root]) (c_X16_and_e l hst D ct m143_1 m143_2 T114_310 T140_310 hp114_314 hp140_315 (show 1 ≤ ((m143_1 : Nat) : Int) by have q0 := FF.out hq0; have q1 := FF.out uc140_322; have q2 := FF.out em143_1; omega) (show 7 ≤ ((m143_2 : Nat) : Int) by have q0 := FF.out hq1; have q1 := FF.out uk140_323; have q2 := FF.out em143_2; omega) _) (cb_of (n := 2) hn mw_2154 mw_13 mw_2152 mhX16_and ⟨(Nat.le_of_ble_eq_true rfl), (Nat.le_of_ble_eq_true rfl)⟩) hx hb hml hown hn hK hSK hZ hS mw_2153 rfl hl.1 (Nat.le_of_ble_eq_true rfl) dX16_ports_143 ⟨(Nat.le_of_eq ((Nat.add_comm _ _).trans gm143_1)), (Nat.le_of_eq ((Nat.add_comm _ _).trans gm143_2))⟩) hP hD hS hA rfl rfl (by decide) (by decide) (by decide) (fun xq143_6 ux143_7 xfs143_8 H locs hpx143_9 hpexfs143_8 hP hD hS => ?_) (fun r143_3 u143_4 H locs hp143_5 hP hD hS => ?_)
    · exact hpx143_9.elim
    obtain ⟨T143_310, nw143_311, kc143_312, kn143_313⟩ := u143_4
    obtain ⟨hp143_314, hp143_315, hp143_316, hp143_317, hp143_318, hp143_319, hp143_320, hp143_321⟩ := hp143_5
    subst hp143_314
    replace hp143_317 : FF (((kc143_312 : Nat) : Int) ≤ 1) := hp143_317
    replace hp143_318 : FF (((kn143_313 : Nat) : Int) ≤ 7) := hp143_318
    replace hp143_319 : FF (((T143_310.dep : Nat) : Int) ≤ ((T114_310.dep : Nat) : Int) ∨ ((T143_310.dep : Nat) : Int) ≤ ((T140_310.dep : Nat) : Int)) := hp143_319
    replace hp143_320 : FF (((T143_310.sz : Nat) : Int) = ((T114_310.sz : Nat) : Int) + ((T140_310.sz : Nat) : Int) + 1) := hp143_320
    replace hp143_321 : FF (((T143_310.c4 : Nat) : Int) = ((T114_310.c4 : Nat) : Int) + ((T140_310.c4 : Nat) : Int)) := hp143_321
    obtain ⟨c143_322, ec143_322⟩ : ∃ x9 : Nat, x9 = c140_322 + kc143_312 := ⟨_, rfl⟩
    have ec143_322 := FF.mk ec143_322
    have uc143_322 : FF (((c143_322 : Nat) : Int) ≤ 67) := FF.mk (show ((c143_322 : Nat) : Int) ≤ 67 by have q0 := FF.out uc140_322; have q1 := FF.out hp143_317; have q2 := FF.out ec143_322; omega)
    have mc143_322 : FF (c143_322 ≤ MC) := FF.mk (Int.ofNat_le.mp (show ((c143_322 : Nat) : Int) ≤ ((MC : Nat) : Int) by have q0 := FF.out hq0; have q1 := FF.out uc143_322; omega))
    obtain ⟨k143_323, ek143_323⟩ : ∃ x9 : Nat, x9 = k140_323 + kn143_313 := ⟨_, rfl⟩
    have ek143_323 := FF.mk ek143_323
    have uk143_323 : FF (((k143_323 : Nat) : Int) ≤ 391) := FF.mk (show ((k143_323 : Nat) : Int) ≤ 391 by have q0 := FF.out uk140_323; have q1 := FF.out hp143_318; have q2 := FF.out ek143_323; omega)
    have mk143_323 : FF (k143_323 ≤ MS) := FF.mk (Int.ofNat_le.mp (show ((k143_323 : Nat) : Int) ≤ ((MS : Nat) : Int) by have q0 := FF.out hq1; have q1 := FF.out uk143_323; omega))
    have hP : va_P D vwCl (([] ++ nw143_311) ++ (p140_324)) _ := hP
    have hD : va_D A (([] ++ nw143_311) ++ (p140_324)) := hD
    have hP := pool_in hP
    have hD := pool_inD hD
    obtain ⟨p143_324, ep143_324⟩ : ∃ p9 : va_W, p9 = (p140_324 ++ nw143_311) := ⟨_, rfl⟩
    rw [← ep143_324] at hP hD
    have hk143_325 : FF (0 ≤ ((T143_310.sz : Nat) : Int)) := Int.natCast_nonneg _
    have hk143_326 : FF (0 ≤ ((T143_310.dep : Nat) : Int)) := Int.natCast_nonneg _
    have hk143_327 : FF (0 ≤ ((T143_310.c4 : Nat) : Int)) := Int.natCast_nonneg _
    have hP : va_P D vwCl ([] ++ (p143_324)) _ := hP
    have hD : va_D A ([] ++ (p143_324)) := hD
    refine W.widen (k := c143_322) (n := k143_323) (Nat.le_of_eq (FF.out ec143_322).symm) (Nat.le_of_eq (FF.out ek143_323).symm) (W.eq (g2 := F0 m 146 ls [.ref T143_310.root, .ref j109_l8.root]) rfl ?_)
    obtain ⟨m146_1, gm146_1⟩ : ∃ m9 : Nat, m9 + c143_322 = MC := ⟨MC - c143_322, Nat.sub_add_cancel (FF.out mc143_322)⟩
    have em146_1 := FF.mk gm146_1
    obtain ⟨m146_2, gm146_2⟩ : ∃ m9 : Nat, m9 + k143_323 = MS := ⟨MS - k143_323, Nat.sub_add_cancel (FF.out mk143_323)⟩
    have em146_2 := FF.mk gm146_2
    refine gt_q (pl := (p143_324)) (wr := []) [] [] (rt_S (As := [.ref j109_l8.root, .ref T143_310.root]) (rest := []) (c_X16_or_e l hst D ct m146_1 m146_2 j109_l8 T143_310 ht109_1004 hp143_315 (show 1 ≤ ((m146_1 : Nat) : Int) by have q0 := FF.out hq0; have q1 := FF.out uc143_322; have q2 := FF.out em146_1; omega) (show 7 ≤ ((m146_2 : Nat) : Int) by have q0 := FF.out hq1; have q1 := FF.out uk143_323; have q2 := FF.out em146_2; omega) _) (cb_of (n := 2) hn mw_2163 mw_13 mw_2161 mhX16_or ⟨(Nat.le_of_ble_eq_true rfl), (Nat.le_of_ble_eq_true rfl)⟩) hx hb hml hown hn hK hSK hZ hS mw_2162 rfl hl.1 (Nat.le_of_ble_eq_true rfl) dX16_ports_146 ⟨(Nat.le_of_eq ((Nat.add_comm _ _).trans gm146_1)), (Nat.le_of_eq ((Nat.add_comm _ _).trans gm146_2))⟩) hP hD hS hA rfl rfl (by decide) (by decide) (by decide) (fun xq146_6 ux146_7 xfs146_8 H locs hpx146_9 hpexfs146_8 hP hD hS => ?_) (fun r146_3 u146_4 H locs hp146_5 hP hD hS => ?_)
    · exact hpx146_9.elim
    obtain ⟨T146_310, nw146_311, kc146_312, kn146_313⟩ := u146_4
    obtain ⟨hp146_314, hp146_315, hp146_316, hp146_317, hp146_318, hp146_319, hp146_320, hp146_321⟩ := hp146_5
    subst hp146_314
    replace hp146_317 : FF (((kc146_312 : Nat) : Int) ≤ 1) := hp146_317
    replace hp146_318 : FF (((kn146_313 : Nat) : Int) ≤ 7) := hp146_318
    replace hp146_319 : FF (((T146_310.dep : Nat) : Int) ≤ ((j109_l8.dep : Nat) : Int) ∨ ((T146_310.dep : Nat) : Int) ≤ ((T143_310.dep : Nat) : Int)) := hp146_319
    replace hp146_320 : FF (((T146_310.sz : Nat) : Int) = ((j109_l8.sz : Nat) : Int) + ((T143_310.sz : Nat) : Int) + 1) := hp146_320
    replace hp146_321 : FF (((T146_310.c4 : Nat) : Int) = ((j109_l8.c4 : Nat) : Int) + ((T143_310.c4 : Nat) : Int)) := hp146_321
    obtain ⟨c146_322, ec146_322⟩ : ∃ x9 : Nat, x9 = c143_322 + kc146_312 := ⟨_, rfl⟩
    have ec146_322 := FF.mk ec146_322
    have uc146_322 : FF (((c146_322 : Nat) : Int) ≤ 68) := FF.mk (show ((c146_322 : Nat) : Int) ≤ 68 by have q0 := FF.out uc143_322; have q1 := FF.out hp146_317; have q2 := FF.out ec146_322; omega)
    have mc146_322 : FF (c146_322 ≤ MC) := FF.mk (Int.ofNat_le.mp (show ((c146_322 : Nat) : Int) ≤ ((MC : Nat) : Int) by have q0 := FF.out hq0; have q1 := FF.out uc146_322; omega))
    obtain ⟨k146_323, ek146_323⟩ : ∃ x9 : Nat, x9 = k143_323 + kn146_313 := ⟨_, rfl⟩
    have ek146_323 := FF.mk ek146_323
    have uk146_323 : FF (((k146_323 : Nat) : Int) ≤ 398) := FF.mk (show ((k146_323 : Nat) : Int) ≤ 398 by have q0 := FF.out uk143_323; have q1 := FF.out hp146_318; have q2 := FF.out ek146_323; omega)
    have mk146_323 : FF (k146_323 ≤ MS) := FF.mk (Int.ofNat_le.mp (show ((k146_323 : Nat) : Int) ≤ ((MS : Nat) : Int) by have q0 := FF.out hq1; have q1 := FF.out uk146_323; omega))
    have hP : va_P D vwCl (([] ++ nw146_311) ++ (p143_324)) _ := hP
    have hD : va_D A (([] ++ nw146_311) ++ (p143_324)) := hD
    have hP := pool_in hP
    have hD := pool_inD hD
    obtain ⟨p146_324, ep146_324⟩ : ∃ p9 : va_W, p9 = (p143_324 ++ nw146_311) := ⟨_, rfl⟩
    rw [← ep146_324] at hP hD
    have hk146_325 : FF (0 ≤ ((T146_310.sz : Nat) : Int)) := Int.natCast_nonneg _
    have hk146_326 : FF (0 ≤ ((T146_310.dep : Nat) : Int)) := Int.natCast_nonneg _
    have hk146_327 : FF (0 ≤ ((T146_310.c4 : Nat) : Int)) := Int.natCast_nonneg _
    have hP : va_P D vwCl ([] ++ (p146_324)) _ := hP
    have hD : va_D A ([] ++ (p146_324)) := hD
    refine W.widen (k := c146_322) (n := k146_323) (Nat.le_of_eq (FF.out ec146_322).symm) (Nat.le_of_eq (FF.out ek146_323).symm) (W.eq (g2 := F0 m 149 ls [.ref T146_310.root]) rfl ?_)
    have hP : va_P D vwCl ([] ++ (T146_310.cells Z0)) _ := hP.perm (seg_perm (fun f => by have w0 := seg_sum (List.Perm.of_eq ep114_322) f; have w1 := seg_sum (List.Perm.of_eq ep123_322) f; have w2 := seg_sum (List.Perm.of_eq ep132_322) f; have w3 := seg_sum hp135_316 f; have w4 := seg_sum (List.Perm.of_eq ep135_324) f; have w5 := seg_sum hp140_316 f; have w6 := seg_sum (List.Perm.of_eq ep140_324) f; have w7 := seg_sum hp143_316 f; have w8 := seg_sum (List.Perm.of_eq ep143_324) f; have w9 := seg_sum hp146_316 f; have w10 := seg_sum (List.Perm.of_eq ep146_324) f; simp only [ST.cells_leaf, ST.cells_minus, ST.cells_group, ST.cells_acc, ST.cells_two, FT.cells_two, FT.cells_inv, FT.cells_test, FT.cells_pair, List.map_append, List.sum_append, List.map_nil, List.sum_nil] at w0 w1 w2 w3 w4 w5 w6 w7 w8 w9 w10 ⊢ <;> omega))
    have hD : va_D A ([] ++ (T146_310.cells Z0)) := hD.perm (seg_perm (fun f => by have w0 := seg_sum (List.Perm.of_eq ep114_322) f; have w1 := seg_sum (List.Perm.of_eq ep123_322) f; have w2 := seg_sum (List.Perm.of_eq ep132_322) f; have w3 := seg_sum hp135_316 f; have w4 := seg_sum (List.Perm.of_eq ep135_324) f; have w5 := seg_sum hp140_316 f; have w6 := seg_sum (List.Perm.of_eq ep140_324) f; have w7 := seg_sum hp143_316 f; have w8 := seg_sum (List.Perm.of_eq ep143_324) f; have w9 := seg_sum hp146_316 f; have w10 := seg_sum (List.Perm.of_eq ep146_324) f; simp only [ST.cells_leaf, ST.cells_minus, ST.cells_group, ST.cells_acc, ST.cells_two, FT.cells_two, FT.cells_inv, FT.cells_test, FT.cells_pair, List.map_append, List.sum_append, List.map_nil, List.sum_nil] at w0 w1 w2 w3 w4 w5 w6 w7 w8 w9 w10 ⊢ <;> omega))
    exact et_r (SX := Unit) hQ hx hb hr hlocks dX16_ports_149 (T146_310, c146_322, k146_323) ⟨rfl, hp146_315, (show ((c146_322 : Nat) : Int) ≤ 68 by have q0 := FF.out uc146_322; omega), (show ((k146_323 : Nat) : Int) ≤ 398 by have q0 := FF.out uk146_323; omega), (show ((T146_310.sz : Nat) : Int) ≤ 76 by have q0 := FF.out hi109_1007; have q1 := FF.out hi109_1010; have q2 := FF.out hp114_317; have q3 := FF.out hp123_317; have q4 := FF.out hp132_317; have q5 := FF.out hp135_320; have q6 := FF.out hp140_320; have q7 := FF.out hp143_320; have q8 := FF.out hp146_320; omega), (show ((T146_310.dep : Nat) : Int) ≤ 1 by have q0 := FF.out hi109_1008; have q1 := FF.out hi109_1011; have q2 := FF.out hp114_318; have q3 := FF.out hp123_318; have q4 := FF.out hp132_318; have q5 := FF.out hp135_319; have q6 := FF.out hp140_319; have q7 := FF.out hp143_319; have q8 := FF.out hp146_319; omega), (show ((T146_310.c4 : Nat) : Int) ≤ 0 by have q0 := FF.out hi109_1009; have q1 := FF.out hi109_1012; have q2 := FF.out hp114_319; have q3 := FF.out hp123_319; have q4 := FF.out hp132_319; have q5 := FF.out hp135_321; have q6 := FF.out hp140_321; have q7 := FF.out hp143_321; have q8 := FF.out hp146_321; omega)⟩ hP hD hS [] (by decide) rfl (Nat.le_refl _) (Nat.le_refl _) (FF.out mc146_322) (FF.out mk146_323)
  have b66 : ∀ (j66_accC : Nat) (j66_accS : Nat) (j66_l6 : FT) (j66_l7 : FT) (H : Heap) (locs : List Loc) (ls : Array Slot), (FF (((j66_accC : Nat) : Int) ≤ ((MC : Nat) : Int))) → (FF (((j66_accS : Nat) : Int) ≤ ((MS : Nat) : Int))) → (j66_l6.ok) → (j66_l7.ok) → (FF (((j66_accC : Nat) : Int) ≤ 30)) → (FF (((j66_accS : Nat) : Int) ≤ 178)) → (FF (((j66_l6.sz : Nat) : Int) ≤ 19)) → (FF (((j66_l6.dep : Nat) : Int) ≤ 1)) → (FF (((j66_l6.c4 : Nat) : Int) ≤ 0)) → (FF (((j66_l7.sz : Nat) : Int) ≤ 19)) → (FF (((j66_l7.dep : Nat) : Int) ≤ 1)) → (FF (((j66_l7.c4 : Nat) : Int) ≤ 0)) → lv_has ls 9 [(6, .ref j66_l6.root), (7, .ref j66_l7.root)] → va_P D vwCl ([] ++ ((j66_l6.cells Z0) ++ (j66_l7.cells Z0))) H → va_D A ([] ++ ((j66_l6.cells Z0) ++ (j66_l7.cells Z0))) → va_S A s.heap H locs → W p l e ({ frames := 6, cells := MC, slots := MS, locals := 114 }) s m [.int v0, .long v1, .long v2, .int v3].toArray below meth c H locs j66_accC j66_accS Q (F0 m 66 ls []) := by
    intro j66_accC j66_accS j66_l6 j66_l7 H locs ls hm66_1001 hm66_1002 ht66_1003 ht66_1004 hi66_1005 hi66_1006 hi66_1007 hi66_1008 hi66_1009 hi66_1010 hi66_1011 hi66_1012 hl hP hD hS
    refine lv_ldc2 (v := 2048) hx hb hown (hn.get mw_2127 rfl) dX16_ports_66 ?_
    obtain ⟨m69_1, gm69_1⟩ : ∃ m9 : Nat, m9 + j66_accC = MC := ⟨MC - j66_accC, Nat.sub_add_cancel (Int.ofNat_le.mp (FF.out hm66_1001))⟩
    have em69_1 := FF.mk gm69_1
    obtain ⟨m69_2, gm69_2⟩ : ∃ m9 : Nat, m9 + j66_accS = MS := ⟨MS - j66_accS, Nat.sub_add_cancel (Int.ofNat_le.mp (FF.out hm66_1002))⟩
    have em69_2 := FF.mk gm69_2
    refine gt_q (pl := ((j66_l6.cells Z0) ++ (j66_l7.cells Z0))) (wr := []) [] [] (rt_S (As := [.long 2048]) (rest := []) (c_X16_ether l hst D ct m69_1 m69_2 (2048 : Int64) (show 4 ≤ ((m69_1 : Nat) : Int) by have q0 := FF.out hq0; have q1 := FF.out hi66_1005; have q2 := FF.out em69_1; omega) (show 22 ≤ ((m69_2 : Nat) : Int) by have q0 := FF.out hq1; have q1 := FF.out hi66_1006; have q2 := FF.out em69_2; omega) _) (cb_of (n := 1) hn mw_2132 mw_13 mw_2130 mhX16_ether ⟨(Nat.le_of_ble_eq_true rfl), (Nat.le_of_ble_eq_true rfl)⟩) hx hb hml hown hn hK hSK hZ hS mw_2131 rfl hl.1 (Nat.le_of_ble_eq_true rfl) dX16_ports_69 ⟨(Nat.le_of_eq ((Nat.add_comm _ _).trans gm69_1)), (Nat.le_of_eq ((Nat.add_comm _ _).trans gm69_2))⟩) hP hD hS hA rfl rfl (by decide) (by decide) (by decide) (fun xq69_6 ux69_7 xfs69_8 H locs hpx69_9 hpexfs69_8 hP hD hS => ?_) (fun r69_3 u69_4 H locs hp69_5 hP hD hS => ?_)
    · exact hpx69_9.elim
    obtain ⟨T69_310, kc69_311, kn69_312⟩ := u69_4
    obtain ⟨hp69_313, hp69_314, hp69_315, hp69_316, hp69_317, hp69_318, hp69_319⟩ := hp69_5
    subst hp69_313
    replace hp69_315 : FF (((kc69_311 : Nat) : Int) ≤ 4) := hp69_315
    replace hp69_316 : FF (((kn69_312 : Nat) : Int) ≤ 22) := hp69_316
    replace hp69_317 : FF (((T69_310.sz : Nat) : Int) ≤ 4) := hp69_317
    replace hp69_318 : FF (((T69_310.dep : Nat) : Int) ≤ 1) := hp69_318
    replace hp69_319 : FF (((T69_310.c4 : Nat) : Int) ≤ 0) := hp69_319
    obtain ⟨c69_320, ec69_320⟩ : ∃ x9 : Nat, x9 = j66_accC + kc69_311 := ⟨_, rfl⟩
    have ec69_320 := FF.mk ec69_320
    have uc69_320 : FF (((c69_320 : Nat) : Int) ≤ 34) := FF.mk (show ((c69_320 : Nat) : Int) ≤ 34 by have q0 := FF.out hi66_1005; have q1 := FF.out hp69_315; have q2 := FF.out ec69_320; omega)
    have mc69_320 : FF (c69_320 ≤ MC) := FF.mk (Int.ofNat_le.mp (show ((c69_320 : Nat) : Int) ≤ ((MC : Nat) : Int) by have q0 := FF.out hq0; have q1 := FF.out uc69_320; omega))
    obtain ⟨k69_321, ek69_321⟩ : ∃ x9 : Nat, x9 = j66_accS + kn69_312 := ⟨_, rfl⟩
    have ek69_321 := FF.mk ek69_321
    have uk69_321 : FF (((k69_321 : Nat) : Int) ≤ 200) := FF.mk (show ((k69_321 : Nat) : Int) ≤ 200 by have q0 := FF.out hi66_1006; have q1 := FF.out hp69_316; have q2 := FF.out ek69_321; omega)
    have mk69_321 : FF (k69_321 ≤ MS) := FF.mk (Int.ofNat_le.mp (show ((k69_321 : Nat) : Int) ≤ ((MS : Nat) : Int) by have q0 := FF.out hq1; have q1 := FF.out uk69_321; omega))
    have hP : va_P D vwCl (([] ++ (T69_310.cells Z0)) ++ ((j66_l6.cells Z0) ++ (j66_l7.cells Z0))) _ := hP
    have hD : va_D A (([] ++ (T69_310.cells Z0)) ++ ((j66_l6.cells Z0) ++ (j66_l7.cells Z0))) := hD
    have hP := pool_in hP
    have hD := pool_inD hD
    obtain ⟨p69_322, ep69_322⟩ : ∃ p9 : va_W, p9 = ((j66_l6.cells Z0) ++ (j66_l7.cells Z0) ++ (T69_310.cells Z0)) := ⟨_, rfl⟩
    rw [← ep69_322] at hP hD
    have hk69_323 : FF (0 ≤ ((T69_310.sz : Nat) : Int)) := Int.natCast_nonneg _
    have hk69_324 : FF (0 ≤ ((T69_310.dep : Nat) : Int)) := Int.natCast_nonneg _
    have hk69_325 : FF (0 ≤ ((T69_310.c4 : Nat) : Int)) := Int.natCast_nonneg _
    have hP : va_P D vwCl ([] ++ (p69_322)) _ := hP
    have hD : va_D A ([] ++ (p69_322)) := hD
    refine W.widen (k := c69_320) (n := k69_321) (Nat.le_of_eq (FF.out ec69_320).symm) (Nat.le_of_eq (FF.out ek69_321).symm) (W.eq (g2 := F0 m 72 ls [.ref T69_310.root]) rfl ?_)
    refine lv_ldc2 (v := 23) hx hb hown (hn.get mw_2140 rfl) dX16_ports_72 ?_
    refine lv_ldc2 (v := 6) hx hb hown (hn.get mw_2141 rfl) dX16_ports_75 ?_
    obtain ⟨m78_1, gm78_1⟩ : ∃ m9 : Nat, m9 + c69_320 = MC := ⟨MC - c69_320, Nat.sub_add_cancel (FF.out mc69_320)⟩
    have em78_1 := FF.mk gm78_1
    obtain ⟨m78_2, gm78_2⟩ : ∃ m9 : Nat, m9 + k69_321 = MS := ⟨MS - k69_321, Nat.sub_add_cancel (FF.out mk69_321)⟩
    have em78_2 := FF.mk gm78_2
    refine gt_q (pl := (p69_322)) (wr := []) [] [] (rt_S (As := [.long 23, .long 6]) (rest := [.ref T69_310.root]) (c_X16_byteIs l hst D ct m78_1 m78_2 (23 : Int64) (6 : Int64) (show 4 ≤ ((m78_1 : Nat) : Int) by have q0 := FF.out hq0; have q1 := FF.out uc69_320; have q2 := FF.out em78_1; omega) (show 22 ≤ ((m78_2 : Nat) : Int) by have q0 := FF.out hq1; have q1 := FF.out uk69_321; have q2 := FF.out em78_2; omega) _) (cb_of (n := 2) hn mw_2145 mw_13 mw_2143 mhX16_byteIs ⟨(Nat.le_of_ble_eq_true rfl), (Nat.le_of_ble_eq_true rfl)⟩) hx hb hml hown hn hK hSK hZ hS mw_2144 rfl hl.1 (Nat.le_of_ble_eq_true rfl) dX16_ports_78 ⟨(Nat.le_of_eq ((Nat.add_comm _ _).trans gm78_1)), (Nat.le_of_eq ((Nat.add_comm _ _).trans gm78_2))⟩) hP hD hS hA rfl rfl (by decide) (by decide) (by decide) (fun xq78_6 ux78_7 xfs78_8 H locs hpx78_9 hpexfs78_8 hP hD hS => ?_) (fun r78_3 u78_4 H locs hp78_5 hP hD hS => ?_)
    · exact hpx78_9.elim
    obtain ⟨T78_310, kc78_311, kn78_312⟩ := u78_4
    obtain ⟨hp78_313, hp78_314, hp78_315, hp78_316, hp78_317, hp78_318, hp78_319⟩ := hp78_5
    subst hp78_313
    replace hp78_315 : FF (((kc78_311 : Nat) : Int) ≤ 4) := hp78_315
    replace hp78_316 : FF (((kn78_312 : Nat) : Int) ≤ 22) := hp78_316
    replace hp78_317 : FF (((T78_310.sz : Nat) : Int) ≤ 4) := hp78_317
    replace hp78_318 : FF (((T78_310.dep : Nat) : Int) ≤ 1) := hp78_318
    replace hp78_319 : FF (((T78_310.c4 : Nat) : Int) ≤ 0) := hp78_319
    obtain ⟨c78_320, ec78_320⟩ : ∃ x9 : Nat, x9 = c69_320 + kc78_311 := ⟨_, rfl⟩
    have ec78_320 := FF.mk ec78_320
    have uc78_320 : FF (((c78_320 : Nat) : Int) ≤ 38) := FF.mk (show ((c78_320 : Nat) : Int) ≤ 38 by have q0 := FF.out uc69_320; have q1 := FF.out hp78_315; have q2 := FF.out ec78_320; omega)
    have mc78_320 : FF (c78_320 ≤ MC) := FF.mk (Int.ofNat_le.mp (show ((c78_320 : Nat) : Int) ≤ ((MC : Nat) : Int) by have q0 := FF.out hq0; have q1 := FF.out uc78_320; omega))
    obtain ⟨k78_321, ek78_321⟩ : ∃ x9 : Nat, x9 = k69_321 + kn78_312 := ⟨_, rfl⟩
    have ek78_321 := FF.mk ek78_321
    have uk78_321 : FF (((k78_321 : Nat) : Int) ≤ 222) := FF.mk (show ((k78_321 : Nat) : Int) ≤ 222 by have q0 := FF.out uk69_321; have q1 := FF.out hp78_316; have q2 := FF.out ek78_321; omega)
    have mk78_321 : FF (k78_321 ≤ MS) := FF.mk (Int.ofNat_le.mp (show ((k78_321 : Nat) : Int) ≤ ((MS : Nat) : Int) by have q0 := FF.out hq1; have q1 := FF.out uk78_321; omega))
    have hP : va_P D vwCl (([] ++ (T78_310.cells Z0)) ++ (p69_322)) _ := hP
    have hD : va_D A (([] ++ (T78_310.cells Z0)) ++ (p69_322)) := hD
    have hP := pool_in hP
    have hD := pool_inD hD
    obtain ⟨p78_322, ep78_322⟩ : ∃ p9 : va_W, p9 = (p69_322 ++ (T78_310.cells Z0)) := ⟨_, rfl⟩
    rw [← ep78_322] at hP hD
    have hk78_323 : FF (0 ≤ ((T78_310.sz : Nat) : Int)) := Int.natCast_nonneg _
    have hk78_324 : FF (0 ≤ ((T78_310.dep : Nat) : Int)) := Int.natCast_nonneg _
    have hk78_325 : FF (0 ≤ ((T78_310.c4 : Nat) : Int)) := Int.natCast_nonneg _
    have hP : va_P D vwCl ([] ++ (p78_322)) _ := hP
    have hD : va_D A ([] ++ (p78_322)) := hD
    refine W.widen (k := c78_320) (n := k78_321) (Nat.le_of_eq (FF.out ec78_320).symm) (Nat.le_of_eq (FF.out ek78_321).symm) (W.eq (g2 := F0 m 81 ls [.ref T78_310.root, .ref T69_310.root]) rfl ?_)
    refine lv_ldc2 (v := 23) hx hb hown (hn.get mw_2140 rfl) dX16_ports_81 ?_
    refine lv_ldc2 (v := 17) hx hb hown (hn.get mw_2142 rfl) dX16_ports_84 ?_
    obtain ⟨m87_1, gm87_1⟩ : ∃ m9 : Nat, m9 + c78_320 = MC := ⟨MC - c78_320, Nat.sub_add_cancel (FF.out mc78_320)⟩
    have em87_1 := FF.mk gm87_1
    obtain ⟨m87_2, gm87_2⟩ : ∃ m9 : Nat, m9 + k78_321 = MS := ⟨MS - k78_321, Nat.sub_add_cancel (FF.out mk78_321)⟩
    have em87_2 := FF.mk gm87_2
    refine gt_q (pl := (p78_322)) (wr := []) [] [] (rt_S (As := [.long 23, .long 17]) (rest := [.ref T78_310.root, .ref T69_310.root]) (c_X16_byteIs l hst D ct m87_1 m87_2 (23 : Int64) (17 : Int64) (show 4 ≤ ((m87_1 : Nat) : Int) by have q0 := FF.out hq0; have q1 := FF.out uc78_320; have q2 := FF.out em87_1; omega) (show 22 ≤ ((m87_2 : Nat) : Int) by have q0 := FF.out hq1; have q1 := FF.out uk78_321; have q2 := FF.out em87_2; omega) _) (cb_of (n := 2) hn mw_2145 mw_13 mw_2143 mhX16_byteIs ⟨(Nat.le_of_ble_eq_true rfl), (Nat.le_of_ble_eq_true rfl)⟩) hx hb hml hown hn hK hSK hZ hS mw_2144 rfl hl.1 (Nat.le_of_ble_eq_true rfl) dX16_ports_87 ⟨(Nat.le_of_eq ((Nat.add_comm _ _).trans gm87_1)), (Nat.le_of_eq ((Nat.add_comm _ _).trans gm87_2))⟩) hP hD hS hA rfl rfl (by decide) (by decide) (by decide) (fun xq87_6 ux87_7 xfs87_8 H locs hpx87_9 hpexfs87_8 hP hD hS => ?_) (fun r87_3 u87_4 H locs hp87_5 hP hD hS => ?_)
    · exact hpx87_9.elim
    obtain ⟨T87_310, kc87_311, kn87_312⟩ := u87_4
    obtain ⟨hp87_313, hp87_314, hp87_315, hp87_316, hp87_317, hp87_318, hp87_319⟩ := hp87_5
    subst hp87_313
    replace hp87_315 : FF (((kc87_311 : Nat) : Int) ≤ 4) := hp87_315
    replace hp87_316 : FF (((kn87_312 : Nat) : Int) ≤ 22) := hp87_316
    replace hp87_317 : FF (((T87_310.sz : Nat) : Int) ≤ 4) := hp87_317
    replace hp87_318 : FF (((T87_310.dep : Nat) : Int) ≤ 1) := hp87_318
    replace hp87_319 : FF (((T87_310.c4 : Nat) : Int) ≤ 0) := hp87_319
    obtain ⟨c87_320, ec87_320⟩ : ∃ x9 : Nat, x9 = c78_320 + kc87_311 := ⟨_, rfl⟩
    have ec87_320 := FF.mk ec87_320
    have uc87_320 : FF (((c87_320 : Nat) : Int) ≤ 42) := FF.mk (show ((c87_320 : Nat) : Int) ≤ 42 by have q0 := FF.out uc78_320; have q1 := FF.out hp87_315; have q2 := FF.out ec87_320; omega)
    have mc87_320 : FF (c87_320 ≤ MC) := FF.mk (Int.ofNat_le.mp (show ((c87_320 : Nat) : Int) ≤ ((MC : Nat) : Int) by have q0 := FF.out hq0; have q1 := FF.out uc87_320; omega))
    obtain ⟨k87_321, ek87_321⟩ : ∃ x9 : Nat, x9 = k78_321 + kn87_312 := ⟨_, rfl⟩
    have ek87_321 := FF.mk ek87_321
    have uk87_321 : FF (((k87_321 : Nat) : Int) ≤ 244) := FF.mk (show ((k87_321 : Nat) : Int) ≤ 244 by have q0 := FF.out uk78_321; have q1 := FF.out hp87_316; have q2 := FF.out ek87_321; omega)
    have mk87_321 : FF (k87_321 ≤ MS) := FF.mk (Int.ofNat_le.mp (show ((k87_321 : Nat) : Int) ≤ ((MS : Nat) : Int) by have q0 := FF.out hq1; have q1 := FF.out uk87_321; omega))
    have hP : va_P D vwCl (([] ++ (T87_310.cells Z0)) ++ (p78_322)) _ := hP
    have hD : va_D A (([] ++ (T87_310.cells Z0)) ++ (p78_322)) := hD
    have hP := pool_in hP
    have hD := pool_inD hD
    obtain ⟨p87_322, ep87_322⟩ : ∃ p9 : va_W, p9 = (p78_322 ++ (T87_310.cells Z0)) := ⟨_, rfl⟩
    rw [← ep87_322] at hP hD
    have hk87_323 : FF (0 ≤ ((T87_310.sz : Nat) : Int)) := Int.natCast_nonneg _
    have hk87_324 : FF (0 ≤ ((T87_310.dep : Nat) : Int)) := Int.natCast_nonneg _
    have hk87_325 : FF (0 ≤ ((T87_310.c4 : Nat) : Int)) := Int.natCast_nonneg _
    have hP : va_P D vwCl ([] ++ (p87_322)) _ := hP
    have hD : va_D A ([] ++ (p87_322)) := hD
    refine W.widen (k := c87_320) (n := k87_321) (Nat.le_of_eq (FF.out ec87_320).symm) (Nat.le_of_eq (FF.out ek87_321).symm) (W.eq (g2 := F0 m 90 ls [.ref T87_310.root, .ref T78_310.root, .ref T69_310.root]) rfl ?_)
    obtain ⟨m90_1, gm90_1⟩ : ∃ m9 : Nat, m9 + c87_320 = MC := ⟨MC - c87_320, Nat.sub_add_cancel (FF.out mc87_320)⟩
    have em90_1 := FF.mk gm90_1
    obtain ⟨m90_2, gm90_2⟩ : ∃ m9 : Nat, m9 + k87_321 = MS := ⟨MS - k87_321, Nat.sub_add_cancel (FF.out mk87_321)⟩
    have em90_2 := FF.mk gm90_2
    refine gt_q (pl := (p87_322)) (wr := []) [] [] (rt_S (As := [.ref T78_310.root, .ref T87_310.root]) (rest := [.ref T69_310.root]) (c_X16_or_e l hst D ct m90_1 m90_2 T78_310 T87_310 hp78_314 hp87_314 (show 1 ≤ ((m90_1 : Nat) : Int) by have q0 := FF.out hq0; have q1 := FF.out uc87_320; have q2 := FF.out em90_1; omega) (show 7 ≤ ((m90_2 : Nat) : Int) by have q0 := FF.out hq1; have q1 := FF.out uk87_321; have q2 := FF.out em90_2; omega) _) (cb_of (n := 2) hn mw_2163 mw_13 mw_2161 mhX16_or ⟨(Nat.le_of_ble_eq_true rfl), (Nat.le_of_ble_eq_true rfl)⟩) hx hb hml hown hn hK hSK hZ hS mw_2162 rfl hl.1 (Nat.le_of_ble_eq_true rfl) dX16_ports_90 ⟨(Nat.le_of_eq ((Nat.add_comm _ _).trans gm90_1)), (Nat.le_of_eq ((Nat.add_comm _ _).trans gm90_2))⟩) hP hD hS hA rfl rfl (by decide) (by decide) (by decide) (fun xq90_6 ux90_7 xfs90_8 H locs hpx90_9 hpexfs90_8 hP hD hS => ?_) (fun r90_3 u90_4 H locs hp90_5 hP hD hS => ?_)
    · exact hpx90_9.elim
    obtain ⟨T90_310, nw90_311, kc90_312, kn90_313⟩ := u90_4
    obtain ⟨hp90_314, hp90_315, hp90_316, hp90_317, hp90_318, hp90_319, hp90_320, hp90_321⟩ := hp90_5
    subst hp90_314
    replace hp90_317 : FF (((kc90_312 : Nat) : Int) ≤ 1) := hp90_317
    replace hp90_318 : FF (((kn90_313 : Nat) : Int) ≤ 7) := hp90_318
    replace hp90_319 : FF (((T90_310.dep : Nat) : Int) ≤ ((T78_310.dep : Nat) : Int) ∨ ((T90_310.dep : Nat) : Int) ≤ ((T87_310.dep : Nat) : Int)) := hp90_319
    replace hp90_320 : FF (((T90_310.sz : Nat) : Int) = ((T78_310.sz : Nat) : Int) + ((T87_310.sz : Nat) : Int) + 1) := hp90_320
    replace hp90_321 : FF (((T90_310.c4 : Nat) : Int) = ((T78_310.c4 : Nat) : Int) + ((T87_310.c4 : Nat) : Int)) := hp90_321
    obtain ⟨c90_322, ec90_322⟩ : ∃ x9 : Nat, x9 = c87_320 + kc90_312 := ⟨_, rfl⟩
    have ec90_322 := FF.mk ec90_322
    have uc90_322 : FF (((c90_322 : Nat) : Int) ≤ 43) := FF.mk (show ((c90_322 : Nat) : Int) ≤ 43 by have q0 := FF.out uc87_320; have q1 := FF.out hp90_317; have q2 := FF.out ec90_322; omega)
    have mc90_322 : FF (c90_322 ≤ MC) := FF.mk (Int.ofNat_le.mp (show ((c90_322 : Nat) : Int) ≤ ((MC : Nat) : Int) by have q0 := FF.out hq0; have q1 := FF.out uc90_322; omega))
    obtain ⟨k90_323, ek90_323⟩ : ∃ x9 : Nat, x9 = k87_321 + kn90_313 := ⟨_, rfl⟩
    have ek90_323 := FF.mk ek90_323
    have uk90_323 : FF (((k90_323 : Nat) : Int) ≤ 251) := FF.mk (show ((k90_323 : Nat) : Int) ≤ 251 by have q0 := FF.out uk87_321; have q1 := FF.out hp90_318; have q2 := FF.out ek90_323; omega)
    have mk90_323 : FF (k90_323 ≤ MS) := FF.mk (Int.ofNat_le.mp (show ((k90_323 : Nat) : Int) ≤ ((MS : Nat) : Int) by have q0 := FF.out hq1; have q1 := FF.out uk90_323; omega))
    have hP : va_P D vwCl (([] ++ nw90_311) ++ (p87_322)) _ := hP
    have hD : va_D A (([] ++ nw90_311) ++ (p87_322)) := hD
    have hP := pool_in hP
    have hD := pool_inD hD
    obtain ⟨p90_324, ep90_324⟩ : ∃ p9 : va_W, p9 = (p87_322 ++ nw90_311) := ⟨_, rfl⟩
    rw [← ep90_324] at hP hD
    have hk90_325 : FF (0 ≤ ((T90_310.sz : Nat) : Int)) := Int.natCast_nonneg _
    have hk90_326 : FF (0 ≤ ((T90_310.dep : Nat) : Int)) := Int.natCast_nonneg _
    have hk90_327 : FF (0 ≤ ((T90_310.c4 : Nat) : Int)) := Int.natCast_nonneg _
    have hP : va_P D vwCl ([] ++ (p90_324)) _ := hP
    have hD : va_D A ([] ++ (p90_324)) := hD
    refine W.widen (k := c90_322) (n := k90_323) (Nat.le_of_eq (FF.out ec90_322).symm) (Nat.le_of_eq (FF.out ek90_323).symm) (W.eq (g2 := F0 m 93 ls [.ref T90_310.root, .ref T69_310.root]) rfl ?_)
    obtain ⟨m93_1, gm93_1⟩ : ∃ m9 : Nat, m9 + c90_322 = MC := ⟨MC - c90_322, Nat.sub_add_cancel (FF.out mc90_322)⟩
    have em93_1 := FF.mk gm93_1
    obtain ⟨m93_2, gm93_2⟩ : ∃ m9 : Nat, m9 + k90_323 = MS := ⟨MS - k90_323, Nat.sub_add_cancel (FF.out mk90_323)⟩
    have em93_2 := FF.mk gm93_2
    refine gt_q (pl := (p90_324)) (wr := []) [] [] (rt_S (As := []) (rest := [.ref T90_310.root, .ref T69_310.root]) (c_X16_noFragment l hst D ct m93_1 m93_2 (show 6 ≤ ((m93_1 : Nat) : Int) by have q0 := FF.out hq0; have q1 := FF.out uc90_322; have q2 := FF.out em93_1; omega) (show 32 ≤ ((m93_2 : Nat) : Int) by have q0 := FF.out hq1; have q1 := FF.out uk90_323; have q2 := FF.out em93_2; omega) _) (cb_of (n := 0) hn mw_2148 mw_13 mw_2146 mhX16_noFragment ⟨(Nat.le_of_ble_eq_true rfl), (Nat.le_of_ble_eq_true rfl)⟩) hx hb hml hown hn hK hSK hZ hS mw_2147 rfl hl.1 (Nat.le_of_ble_eq_true rfl) dX16_ports_93 ⟨(Nat.le_of_eq ((Nat.add_comm _ _).trans gm93_1)), (Nat.le_of_eq ((Nat.add_comm _ _).trans gm93_2))⟩) hP hD hS hA rfl rfl (by decide) (by decide) (by decide) (fun xq93_6 ux93_7 xfs93_8 H locs hpx93_9 hpexfs93_8 hP hD hS => ?_) (fun r93_3 u93_4 H locs hp93_5 hP hD hS => ?_)
    · exact hpx93_9.elim
    obtain ⟨T93_310, kc93_311, kn93_312⟩ := u93_4
    obtain ⟨hp93_313, hp93_314, hp93_315, hp93_316, hp93_317, hp93_318, hp93_319⟩ := hp93_5
    subst hp93_313
    replace hp93_315 : FF (((kc93_311 : Nat) : Int) ≤ 6) := hp93_315
    replace hp93_316 : FF (((kn93_312 : Nat) : Int) ≤ 32) := hp93_316
    replace hp93_317 : FF (((T93_310.sz : Nat) : Int) ≤ 6) := hp93_317
    replace hp93_318 : FF (((T93_310.dep : Nat) : Int) ≤ 1) := hp93_318
    replace hp93_319 : FF (((T93_310.c4 : Nat) : Int) ≤ 0) := hp93_319
    obtain ⟨c93_320, ec93_320⟩ : ∃ x9 : Nat, x9 = c90_322 + kc93_311 := ⟨_, rfl⟩
    have ec93_320 := FF.mk ec93_320
    have uc93_320 : FF (((c93_320 : Nat) : Int) ≤ 49) := FF.mk (show ((c93_320 : Nat) : Int) ≤ 49 by have q0 := FF.out uc90_322; have q1 := FF.out hp93_315; have q2 := FF.out ec93_320; omega)
    have mc93_320 : FF (c93_320 ≤ MC) := FF.mk (Int.ofNat_le.mp (show ((c93_320 : Nat) : Int) ≤ ((MC : Nat) : Int) by have q0 := FF.out hq0; have q1 := FF.out uc93_320; omega))
    obtain ⟨k93_321, ek93_321⟩ : ∃ x9 : Nat, x9 = k90_323 + kn93_312 := ⟨_, rfl⟩
    have ek93_321 := FF.mk ek93_321
    have uk93_321 : FF (((k93_321 : Nat) : Int) ≤ 283) := FF.mk (show ((k93_321 : Nat) : Int) ≤ 283 by have q0 := FF.out uk90_323; have q1 := FF.out hp93_316; have q2 := FF.out ek93_321; omega)
    have mk93_321 : FF (k93_321 ≤ MS) := FF.mk (Int.ofNat_le.mp (show ((k93_321 : Nat) : Int) ≤ ((MS : Nat) : Int) by have q0 := FF.out hq1; have q1 := FF.out uk93_321; omega))
    have hP : va_P D vwCl (([] ++ (T93_310.cells Z0)) ++ (p90_324)) _ := hP
    have hD : va_D A (([] ++ (T93_310.cells Z0)) ++ (p90_324)) := hD
    have hP := pool_in hP
    have hD := pool_inD hD
    obtain ⟨p93_322, ep93_322⟩ : ∃ p9 : va_W, p9 = (p90_324 ++ (T93_310.cells Z0)) := ⟨_, rfl⟩
    rw [← ep93_322] at hP hD
    have hk93_323 : FF (0 ≤ ((T93_310.sz : Nat) : Int)) := Int.natCast_nonneg _
    have hk93_324 : FF (0 ≤ ((T93_310.dep : Nat) : Int)) := Int.natCast_nonneg _
    have hk93_325 : FF (0 ≤ ((T93_310.c4 : Nat) : Int)) := Int.natCast_nonneg _
    have hP : va_P D vwCl ([] ++ (p93_322)) _ := hP
    have hD : va_D A ([] ++ (p93_322)) := hD
    refine W.widen (k := c93_320) (n := k93_321) (Nat.le_of_eq (FF.out ec93_320).symm) (Nat.le_of_eq (FF.out ek93_321).symm) (W.eq (g2 := F0 m 96 ls [.ref T93_310.root, .ref T90_310.root, .ref T69_310.root]) rfl ?_)
    refine lv_aload hx hb dX16_ports_96 (lv_at hl 0 rfl) ?_
    obtain ⟨m98_1, gm98_1⟩ : ∃ m9 : Nat, m9 + c93_320 = MC := ⟨MC - c93_320, Nat.sub_add_cancel (FF.out mc93_320)⟩
    have em98_1 := FF.mk gm98_1
    obtain ⟨m98_2, gm98_2⟩ : ∃ m9 : Nat, m9 + k93_321 = MS := ⟨MS - k93_321, Nat.sub_add_cancel (FF.out mk93_321)⟩
    have em98_2 := FF.mk gm98_2
    refine gt_q (pl := (p93_322)) (wr := []) [] [] (rt_S (As := [.ref T93_310.root, .ref j66_l6.root]) (rest := [.ref T90_310.root, .ref T69_310.root]) (c_X16_and_e l hst D ct m98_1 m98_2 T93_310 j66_l6 hp93_314 ht66_1003 (show 1 ≤ ((m98_1 : Nat) : Int) by have q0 := FF.out hq0; have q1 := FF.out uc93_320; have q2 := FF.out em98_1; omega) (show 7 ≤ ((m98_2 : Nat) : Int) by have q0 := FF.out hq1; have q1 := FF.out uk93_321; have q2 := FF.out em98_2; omega) _) (cb_of (n := 2) hn mw_2154 mw_13 mw_2152 mhX16_and ⟨(Nat.le_of_ble_eq_true rfl), (Nat.le_of_ble_eq_true rfl)⟩) hx hb hml hown hn hK hSK hZ hS mw_2153 rfl hl.1 (Nat.le_of_ble_eq_true rfl) dX16_ports_98 ⟨(Nat.le_of_eq ((Nat.add_comm _ _).trans gm98_1)), (Nat.le_of_eq ((Nat.add_comm _ _).trans gm98_2))⟩) hP hD hS hA rfl rfl (by decide) (by decide) (by decide) (fun xq98_6 ux98_7 xfs98_8 H locs hpx98_9 hpexfs98_8 hP hD hS => ?_) (fun r98_3 u98_4 H locs hp98_5 hP hD hS => ?_)
    · exact hpx98_9.elim
    obtain ⟨T98_310, nw98_311, kc98_312, kn98_313⟩ := u98_4
    obtain ⟨hp98_314, hp98_315, hp98_316, hp98_317, hp98_318, hp98_319, hp98_320, hp98_321⟩ := hp98_5
    subst hp98_314
    replace hp98_317 : FF (((kc98_312 : Nat) : Int) ≤ 1) := hp98_317
    replace hp98_318 : FF (((kn98_313 : Nat) : Int) ≤ 7) := hp98_318
    replace hp98_319 : FF (((T98_310.dep : Nat) : Int) ≤ ((T93_310.dep : Nat) : Int) ∨ ((T98_310.dep : Nat) : Int) ≤ ((j66_l6.dep : Nat) : Int)) := hp98_319
    replace hp98_320 : FF (((T98_310.sz : Nat) : Int) = ((T93_310.sz : Nat) : Int) + ((j66_l6.sz : Nat) : Int) + 1) := hp98_320
    replace hp98_321 : FF (((T98_310.c4 : Nat) : Int) = ((T93_310.c4 : Nat) : Int) + ((j66_l6.c4 : Nat) : Int)) := hp98_321
    obtain ⟨c98_322, ec98_322⟩ : ∃ x9 : Nat, x9 = c93_320 + kc98_312 := ⟨_, rfl⟩
    have ec98_322 := FF.mk ec98_322
    have uc98_322 : FF (((c98_322 : Nat) : Int) ≤ 50) := FF.mk (show ((c98_322 : Nat) : Int) ≤ 50 by have q0 := FF.out uc93_320; have q1 := FF.out hp98_317; have q2 := FF.out ec98_322; omega)
    have mc98_322 : FF (c98_322 ≤ MC) := FF.mk (Int.ofNat_le.mp (show ((c98_322 : Nat) : Int) ≤ ((MC : Nat) : Int) by have q0 := FF.out hq0; have q1 := FF.out uc98_322; omega))
    obtain ⟨k98_323, ek98_323⟩ : ∃ x9 : Nat, x9 = k93_321 + kn98_313 := ⟨_, rfl⟩
    have ek98_323 := FF.mk ek98_323
    have uk98_323 : FF (((k98_323 : Nat) : Int) ≤ 290) := FF.mk (show ((k98_323 : Nat) : Int) ≤ 290 by have q0 := FF.out uk93_321; have q1 := FF.out hp98_318; have q2 := FF.out ek98_323; omega)
    have mk98_323 : FF (k98_323 ≤ MS) := FF.mk (Int.ofNat_le.mp (show ((k98_323 : Nat) : Int) ≤ ((MS : Nat) : Int) by have q0 := FF.out hq1; have q1 := FF.out uk98_323; omega))
    have hP : va_P D vwCl (([] ++ nw98_311) ++ (p93_322)) _ := hP
    have hD : va_D A (([] ++ nw98_311) ++ (p93_322)) := hD
    have hP := pool_in hP
    have hD := pool_inD hD
    obtain ⟨p98_324, ep98_324⟩ : ∃ p9 : va_W, p9 = (p93_322 ++ nw98_311) := ⟨_, rfl⟩
    rw [← ep98_324] at hP hD
    have hk98_325 : FF (0 ≤ ((T98_310.sz : Nat) : Int)) := Int.natCast_nonneg _
    have hk98_326 : FF (0 ≤ ((T98_310.dep : Nat) : Int)) := Int.natCast_nonneg _
    have hk98_327 : FF (0 ≤ ((T98_310.c4 : Nat) : Int)) := Int.natCast_nonneg _
    have hP : va_P D vwCl ([] ++ (p98_324)) _ := hP
    have hD : va_D A ([] ++ (p98_324)) := hD
    refine W.widen (k := c98_322) (n := k98_323) (Nat.le_of_eq (FF.out ec98_322).symm) (Nat.le_of_eq (FF.out ek98_323).symm) (W.eq (g2 := F0 m 101 ls [.ref T98_310.root, .ref T90_310.root, .ref T69_310.root]) rfl ?_)
    obtain ⟨m101_1, gm101_1⟩ : ∃ m9 : Nat, m9 + c98_322 = MC := ⟨MC - c98_322, Nat.sub_add_cancel (FF.out mc98_322)⟩
    have em101_1 := FF.mk gm101_1
    obtain ⟨m101_2, gm101_2⟩ : ∃ m9 : Nat, m9 + k98_323 = MS := ⟨MS - k98_323, Nat.sub_add_cancel (FF.out mk98_323)⟩
    have em101_2 := FF.mk gm101_2
    refine gt_q (pl := (p98_324)) (wr := []) [] [] (rt_S (As := [.ref T90_310.root, .ref T98_310.root]) (rest := [.ref T69_310.root]) (c_X16_and_e l hst D ct m101_1 m101_2 T90_310 T98_310 hp90_315 hp98_315 (show 1 ≤ ((m101_1 : Nat) : Int) by have q0 := FF.out hq0; have q1 := FF.out uc98_322; have q2 := FF.out em101_1; omega) (show 7 ≤ ((m101_2 : Nat) : Int) by have q0 := FF.out hq1; have q1 := FF.out uk98_323; have q2 := FF.out em101_2; omega) _) (cb_of (n := 2) hn mw_2154 mw_13 mw_2152 mhX16_and ⟨(Nat.le_of_ble_eq_true rfl), (Nat.le_of_ble_eq_true rfl)⟩) hx hb hml hown hn hK hSK hZ hS mw_2153 rfl hl.1 (Nat.le_of_ble_eq_true rfl) dX16_ports_101 ⟨(Nat.le_of_eq ((Nat.add_comm _ _).trans gm101_1)), (Nat.le_of_eq ((Nat.add_comm _ _).trans gm101_2))⟩) hP hD hS hA rfl rfl (by decide) (by decide) (by decide) (fun xq101_6 ux101_7 xfs101_8 H locs hpx101_9 hpexfs101_8 hP hD hS => ?_) (fun r101_3 u101_4 H locs hp101_5 hP hD hS => ?_)
    · exact hpx101_9.elim
    obtain ⟨T101_310, nw101_311, kc101_312, kn101_313⟩ := u101_4
    obtain ⟨hp101_314, hp101_315, hp101_316, hp101_317, hp101_318, hp101_319, hp101_320, hp101_321⟩ := hp101_5
    subst hp101_314
    replace hp101_317 : FF (((kc101_312 : Nat) : Int) ≤ 1) := hp101_317
    replace hp101_318 : FF (((kn101_313 : Nat) : Int) ≤ 7) := hp101_318
    replace hp101_319 : FF (((T101_310.dep : Nat) : Int) ≤ ((T90_310.dep : Nat) : Int) ∨ ((T101_310.dep : Nat) : Int) ≤ ((T98_310.dep : Nat) : Int)) := hp101_319
    replace hp101_320 : FF (((T101_310.sz : Nat) : Int) = ((T90_310.sz : Nat) : Int) + ((T98_310.sz : Nat) : Int) + 1) := hp101_320
    replace hp101_321 : FF (((T101_310.c4 : Nat) : Int) = ((T90_310.c4 : Nat) : Int) + ((T98_310.c4 : Nat) : Int)) := hp101_321
    obtain ⟨c101_322, ec101_322⟩ : ∃ x9 : Nat, x9 = c98_322 + kc101_312 := ⟨_, rfl⟩
    have ec101_322 := FF.mk ec101_322
    have uc101_322 : FF (((c101_322 : Nat) : Int) ≤ 51) := FF.mk (show ((c101_322 : Nat) : Int) ≤ 51 by have q0 := FF.out uc98_322; have q1 := FF.out hp101_317; have q2 := FF.out ec101_322; omega)
    have mc101_322 : FF (c101_322 ≤ MC) := FF.mk (Int.ofNat_le.mp (show ((c101_322 : Nat) : Int) ≤ ((MC : Nat) : Int) by have q0 := FF.out hq0; have q1 := FF.out uc101_322; omega))
    obtain ⟨k101_323, ek101_323⟩ : ∃ x9 : Nat, x9 = k98_323 + kn101_313 := ⟨_, rfl⟩
    have ek101_323 := FF.mk ek101_323
    have uk101_323 : FF (((k101_323 : Nat) : Int) ≤ 297) := FF.mk (show ((k101_323 : Nat) : Int) ≤ 297 by have q0 := FF.out uk98_323; have q1 := FF.out hp101_318; have q2 := FF.out ek101_323; omega)
    have mk101_323 : FF (k101_323 ≤ MS) := FF.mk (Int.ofNat_le.mp (show ((k101_323 : Nat) : Int) ≤ ((MS : Nat) : Int) by have q0 := FF.out hq1; have q1 := FF.out uk101_323; omega))
    have hP : va_P D vwCl (([] ++ nw101_311) ++ (p98_324)) _ := hP
    have hD : va_D A (([] ++ nw101_311) ++ (p98_324)) := hD
    have hP := pool_in hP
    have hD := pool_inD hD
    obtain ⟨p101_324, ep101_324⟩ : ∃ p9 : va_W, p9 = (p98_324 ++ nw101_311) := ⟨_, rfl⟩
    rw [← ep101_324] at hP hD
    have hk101_325 : FF (0 ≤ ((T101_310.sz : Nat) : Int)) := Int.natCast_nonneg _
    have hk101_326 : FF (0 ≤ ((T101_310.dep : Nat) : Int)) := Int.natCast_nonneg _
    have hk101_327 : FF (0 ≤ ((T101_310.c4 : Nat) : Int)) := Int.natCast_nonneg _
    have hP : va_P D vwCl ([] ++ (p101_324)) _ := hP
    have hD : va_D A ([] ++ (p101_324)) := hD
    refine W.widen (k := c101_322) (n := k101_323) (Nat.le_of_eq (FF.out ec101_322).symm) (Nat.le_of_eq (FF.out ek101_323).symm) (W.eq (g2 := F0 m 104 ls [.ref T101_310.root, .ref T69_310.root]) rfl ?_)
    obtain ⟨m104_1, gm104_1⟩ : ∃ m9 : Nat, m9 + c101_322 = MC := ⟨MC - c101_322, Nat.sub_add_cancel (FF.out mc101_322)⟩
    have em104_1 := FF.mk gm104_1
    obtain ⟨m104_2, gm104_2⟩ : ∃ m9 : Nat, m9 + k101_323 = MS := ⟨MS - k101_323, Nat.sub_add_cancel (FF.out mk101_323)⟩
    have em104_2 := FF.mk gm104_2
    refine gt_q (pl := (p101_324)) (wr := []) [] [] (rt_S (As := [.ref T69_310.root, .ref T101_310.root]) (rest := []) (c_X16_and_e l hst D ct m104_1 m104_2 T69_310 T101_310 hp69_314 hp101_315 (show 1 ≤ ((m104_1 : Nat) : Int) by have q0 := FF.out hq0; have q1 := FF.out uc101_322; have q2 := FF.out em104_1; omega) (show 7 ≤ ((m104_2 : Nat) : Int) by have q0 := FF.out hq1; have q1 := FF.out uk101_323; have q2 := FF.out em104_2; omega) _) (cb_of (n := 2) hn mw_2154 mw_13 mw_2152 mhX16_and ⟨(Nat.le_of_ble_eq_true rfl), (Nat.le_of_ble_eq_true rfl)⟩) hx hb hml hown hn hK hSK hZ hS mw_2153 rfl hl.1 (Nat.le_of_ble_eq_true rfl) dX16_ports_104 ⟨(Nat.le_of_eq ((Nat.add_comm _ _).trans gm104_1)), (Nat.le_of_eq ((Nat.add_comm _ _).trans gm104_2))⟩) hP hD hS hA rfl rfl (by decide) (by decide) (by decide) (fun xq104_6 ux104_7 xfs104_8 H locs hpx104_9 hpexfs104_8 hP hD hS => ?_) (fun r104_3 u104_4 H locs hp104_5 hP hD hS => ?_)
    · exact hpx104_9.elim
    obtain ⟨T104_310, nw104_311, kc104_312, kn104_313⟩ := u104_4
    obtain ⟨hp104_314, hp104_315, hp104_316, hp104_317, hp104_318, hp104_319, hp104_320, hp104_321⟩ := hp104_5
    subst hp104_314
    replace hp104_317 : FF (((kc104_312 : Nat) : Int) ≤ 1) := hp104_317
    replace hp104_318 : FF (((kn104_313 : Nat) : Int) ≤ 7) := hp104_318
    replace hp104_319 : FF (((T104_310.dep : Nat) : Int) ≤ ((T69_310.dep : Nat) : Int) ∨ ((T104_310.dep : Nat) : Int) ≤ ((T101_310.dep : Nat) : Int)) := hp104_319
    replace hp104_320 : FF (((T104_310.sz : Nat) : Int) = ((T69_310.sz : Nat) : Int) + ((T101_310.sz : Nat) : Int) + 1) := hp104_320
    replace hp104_321 : FF (((T104_310.c4 : Nat) : Int) = ((T69_310.c4 : Nat) : Int) + ((T101_310.c4 : Nat) : Int)) := hp104_321
    obtain ⟨c104_322, ec104_322⟩ : ∃ x9 : Nat, x9 = c101_322 + kc104_312 := ⟨_, rfl⟩
    have ec104_322 := FF.mk ec104_322
    have uc104_322 : FF (((c104_322 : Nat) : Int) ≤ 52) := FF.mk (show ((c104_322 : Nat) : Int) ≤ 52 by have q0 := FF.out uc101_322; have q1 := FF.out hp104_317; have q2 := FF.out ec104_322; omega)
    have mc104_322 : FF (c104_322 ≤ MC) := FF.mk (Int.ofNat_le.mp (show ((c104_322 : Nat) : Int) ≤ ((MC : Nat) : Int) by have q0 := FF.out hq0; have q1 := FF.out uc104_322; omega))
    obtain ⟨k104_323, ek104_323⟩ : ∃ x9 : Nat, x9 = k101_323 + kn104_313 := ⟨_, rfl⟩
    have ek104_323 := FF.mk ek104_323
    have uk104_323 : FF (((k104_323 : Nat) : Int) ≤ 304) := FF.mk (show ((k104_323 : Nat) : Int) ≤ 304 by have q0 := FF.out uk101_323; have q1 := FF.out hp104_318; have q2 := FF.out ek104_323; omega)
    have mk104_323 : FF (k104_323 ≤ MS) := FF.mk (Int.ofNat_le.mp (show ((k104_323 : Nat) : Int) ≤ ((MS : Nat) : Int) by have q0 := FF.out hq1; have q1 := FF.out uk104_323; omega))
    have hP : va_P D vwCl (([] ++ nw104_311) ++ (p101_324)) _ := hP
    have hD : va_D A (([] ++ nw104_311) ++ (p101_324)) := hD
    have hP := pool_in hP
    have hD := pool_inD hD
    obtain ⟨p104_324, ep104_324⟩ : ∃ p9 : va_W, p9 = (p101_324 ++ nw104_311) := ⟨_, rfl⟩
    rw [← ep104_324] at hP hD
    have hk104_325 : FF (0 ≤ ((T104_310.sz : Nat) : Int)) := Int.natCast_nonneg _
    have hk104_326 : FF (0 ≤ ((T104_310.dep : Nat) : Int)) := Int.natCast_nonneg _
    have hk104_327 : FF (0 ≤ ((T104_310.c4 : Nat) : Int)) := Int.natCast_nonneg _
    have hP : va_P D vwCl ([] ++ (p104_324)) _ := hP
    have hD : va_D A ([] ++ (p104_324)) := hD
    refine W.widen (k := c104_322) (n := k104_323) (Nat.le_of_eq (FF.out ec104_322).symm) (Nat.le_of_eq (FF.out ek104_323).symm) (W.eq (g2 := F0 m 107 ls [.ref T104_310.root]) rfl ?_)
    refine lv_astore (lv' := [(8, .ref T104_310.root), (6, .ref j66_l6.root), (7, .ref j66_l7.root)]) hx hb dX16_ports_107 hl (by decide) rfl (fun ls hl => ?_)
    have hP : va_P D vwCl ([] ++ ((j66_l7.cells Z0) ++ (T104_310.cells Z0))) _ := hP.perm (seg_perm (fun f => by have w0 := seg_sum (List.Perm.of_eq ep69_322) f; have w1 := seg_sum (List.Perm.of_eq ep78_322) f; have w2 := seg_sum (List.Perm.of_eq ep87_322) f; have w3 := seg_sum hp90_316 f; have w4 := seg_sum (List.Perm.of_eq ep90_324) f; have w5 := seg_sum (List.Perm.of_eq ep93_322) f; have w6 := seg_sum hp98_316 f; have w7 := seg_sum (List.Perm.of_eq ep98_324) f; have w8 := seg_sum hp101_316 f; have w9 := seg_sum (List.Perm.of_eq ep101_324) f; have w10 := seg_sum hp104_316 f; have w11 := seg_sum (List.Perm.of_eq ep104_324) f; simp only [ST.cells_leaf, ST.cells_minus, ST.cells_group, ST.cells_acc, ST.cells_two, FT.cells_two, FT.cells_inv, FT.cells_test, FT.cells_pair, List.map_append, List.sum_append, List.map_nil, List.sum_nil] at w0 w1 w2 w3 w4 w5 w6 w7 w8 w9 w10 w11 ⊢ <;> omega))
    have hD : va_D A ([] ++ ((j66_l7.cells Z0) ++ (T104_310.cells Z0))) := hD.perm (seg_perm (fun f => by have w0 := seg_sum (List.Perm.of_eq ep69_322) f; have w1 := seg_sum (List.Perm.of_eq ep78_322) f; have w2 := seg_sum (List.Perm.of_eq ep87_322) f; have w3 := seg_sum hp90_316 f; have w4 := seg_sum (List.Perm.of_eq ep90_324) f; have w5 := seg_sum (List.Perm.of_eq ep93_322) f; have w6 := seg_sum hp98_316 f; have w7 := seg_sum (List.Perm.of_eq ep98_324) f; have w8 := seg_sum hp101_316 f; have w9 := seg_sum (List.Perm.of_eq ep101_324) f; have w10 := seg_sum hp104_316 f; have w11 := seg_sum (List.Perm.of_eq ep104_324) f; simp only [ST.cells_leaf, ST.cells_minus, ST.cells_group, ST.cells_acc, ST.cells_two, FT.cells_two, FT.cells_inv, FT.cells_test, FT.cells_pair, List.map_append, List.sum_append, List.map_nil, List.sum_nil] at w0 w1 w2 w3 w4 w5 w6 w7 w8 w9 w10 w11 ⊢ <;> omega))
    exact b109 c104_322 k104_323 j66_l7 T104_310 H locs ls (show ((c104_322 : Nat) : Int) ≤ ((MC : Nat) : Int) by have q0 := FF.out hq0; have q1 := FF.out uc104_322; omega) (show ((k104_323 : Nat) : Int) ≤ ((MS : Nat) : Int) by have q0 := FF.out hq1; have q1 := FF.out uk104_323; omega) ht66_1004 hp104_315 (show ((c104_322 : Nat) : Int) ≤ 52 by have q0 := FF.out uc104_322; omega) (show ((k104_323 : Nat) : Int) ≤ 304 by have q0 := FF.out uk104_323; omega) (show ((j66_l7.sz : Nat) : Int) ≤ 19 by have q0 := FF.out hi66_1010; omega) (show ((j66_l7.dep : Nat) : Int) ≤ 1 by have q0 := FF.out hi66_1011; omega) (show ((j66_l7.c4 : Nat) : Int) ≤ 0 by have q0 := FF.out hi66_1012; omega) (show ((T104_310.sz : Nat) : Int) ≤ 41 by have q0 := FF.out hi66_1007; have q1 := FF.out hp69_317; have q2 := FF.out hp78_317; have q3 := FF.out hp87_317; have q4 := FF.out hp90_320; have q5 := FF.out hp93_317; have q6 := FF.out hp98_320; have q7 := FF.out hp101_320; have q8 := FF.out hp104_320; omega) (show ((T104_310.dep : Nat) : Int) ≤ 1 by have q0 := FF.out hi66_1008; have q1 := FF.out hp69_318; have q2 := FF.out hp78_318; have q3 := FF.out hp87_318; have q4 := FF.out hp90_319; have q5 := FF.out hp93_318; have q6 := FF.out hp98_319; have q7 := FF.out hp101_319; have q8 := FF.out hp104_319; omega) (show ((T104_310.c4 : Nat) : Int) ≤ 0 by have q0 := FF.out hi66_1009; have q1 := FF.out hp69_319; have q2 := FF.out hp78_319; have q3 := FF.out hp87_319; have q4 := FF.out hp90_321; have q5 := FF.out hp93_319; have q6 := FF.out hp98_321; have q7 := FF.out hp101_321; have q8 := FF.out hp104_321; omega) (lv_sub hl [2, 0] rfl) hP hD hS
  have b32 : ∀ (j32_accC : Nat) (j32_accS : Nat) (j32_l6 : FT) (H : Heap) (locs : List Loc) (ls : Array Slot), (FF (((j32_accC : Nat) : Int) ≤ ((MC : Nat) : Int))) → (FF (((j32_accS : Nat) : Int) ≤ ((MS : Nat) : Int))) → (j32_l6.ok) → (FF (((j32_accC : Nat) : Int) ≤ 15)) → (FF (((j32_accS : Nat) : Int) ≤ 89)) → (FF (((j32_l6.sz : Nat) : Int) ≤ 19)) → (FF (((j32_l6.dep : Nat) : Int) ≤ 1)) → (FF (((j32_l6.c4 : Nat) : Int) ≤ 0)) → lv_has ls 9 [(0, .int v0), (1, .long v1), (3, .long v2), (5, .int v3), (6, .ref j32_l6.root)] → va_P D vwCl ([] ++ ((j32_l6.cells Z0))) H → va_D A ([] ++ ((j32_l6.cells Z0))) → va_S A s.heap H locs → W p l e ({ frames := 6, cells := MC, slots := MS, locals := 114 }) s m [.int v0, .long v1, .long v2, .int v3].toArray below meth c H locs j32_accC j32_accS Q (F0 m 32 ls []) := by
    intro j32_accC j32_accS j32_l6 H locs ls hm32_1001 hm32_1002 ht32_1003 hi32_1004 hi32_1005 hi32_1006 hi32_1007 hi32_1008 hl hP hD hS
    refine lv_iload_n hx hb dX16_ports_32 rfl (lv_at hl 0 rfl) ?_
    refine lv_ldc2 (v := 54) hx hb hown (hn.get mw_2204 rfl) dX16_ports_33 ?_
    refine lv_iconst (v := 2) hx hb dX16_ports_36 (by decide) ?_
    obtain ⟨m37_1, gm37_1⟩ : ∃ m9 : Nat, m9 + j32_accC = MC := ⟨MC - j32_accC, Nat.sub_add_cancel (Int.ofNat_le.mp (FF.out hm32_1001))⟩
    have em37_1 := FF.mk gm37_1
    obtain ⟨m37_2, gm37_2⟩ : ∃ m9 : Nat, m9 + j32_accS = MS := ⟨MS - j32_accS, Nat.sub_add_cancel (Int.ofNat_le.mp (FF.out hm32_1002))⟩
    have em37_2 := FF.mk gm37_2
    refine gt_q (pl := ((j32_l6.cells Z0))) (wr := []) [] [] (rt_S (As := [.long 54, .int 2]) (rest := [.int v0]) (c_X16_read l hst D ct m37_1 m37_2 (54 : Int64) (2 : Int32) (rg_w (show rg (2 : Int32) 2 2 from rg_l (by decide)) (by decide)) (show 2 ≤ ((m37_1 : Nat) : Int) by have q0 := FF.out hq0; have q1 := FF.out hi32_1004; have q2 := FF.out em37_1; omega) (show 10 ≤ ((m37_2 : Nat) : Int) by have q0 := FF.out hq1; have q1 := FF.out hi32_1005; have q2 := FF.out em37_2; omega) _) (cb_of (n := 2) hn mw_2136 mw_13 mw_2134 mhX16_read ⟨(Nat.le_of_ble_eq_true rfl), (Nat.le_of_ble_eq_true rfl)⟩) hx hb hml hown hn hK hSK hZ hS mw_2135 rfl hl.1 (Nat.le_of_ble_eq_true rfl) dX16_ports_37 ⟨(Nat.le_of_eq ((Nat.add_comm _ _).trans gm37_1)), (Nat.le_of_eq ((Nat.add_comm _ _).trans gm37_2))⟩) hP hD hS hA rfl rfl (by decide) (by decide) (by decide) (fun xq37_6 ux37_7 xfs37_8 H locs hpx37_9 hpexfs37_8 hP hD hS => ?_) (fun r37_3 u37_4 H locs hp37_5 hP hD hS => ?_)
    · exact hpx37_9.elim
    obtain ⟨T37_310, kc37_311, kn37_312⟩ := u37_4
    obtain ⟨hp37_313, hp37_314, hp37_315, hp37_316, hp37_317, hp37_318, hp37_319, hp37_320⟩ := hp37_5
    subst hp37_313
    replace hp37_315 : FF (((kc37_311 : Nat) : Int) ≤ 2) := hp37_315
    replace hp37_316 : FF (((kn37_312 : Nat) : Int) ≤ 10) := hp37_316
    replace hp37_317 : FF (((T37_310.sz : Nat) : Int) ≤ 2) := hp37_317
    replace hp37_318 : FF (((T37_310.dep : Nat) : Int) ≤ 1) := hp37_318
    replace hp37_319 : FF (((T37_310.c4 : Nat) : Int) ≤ 1) := hp37_319
    replace hp37_320 : FF ((2 : Int32).toInt = 4 ∨ ((T37_310.c4 : Nat) : Int) ≤ 0) := hp37_320
    obtain ⟨c37_321, ec37_321⟩ : ∃ x9 : Nat, x9 = j32_accC + kc37_311 := ⟨_, rfl⟩
    have ec37_321 := FF.mk ec37_321
    have uc37_321 : FF (((c37_321 : Nat) : Int) ≤ 17) := FF.mk (show ((c37_321 : Nat) : Int) ≤ 17 by have q0 := FF.out hi32_1004; have q1 := FF.out hp37_315; have q2 := FF.out ec37_321; omega)
    have mc37_321 : FF (c37_321 ≤ MC) := FF.mk (Int.ofNat_le.mp (show ((c37_321 : Nat) : Int) ≤ ((MC : Nat) : Int) by have q0 := FF.out hq0; have q1 := FF.out uc37_321; omega))
    obtain ⟨k37_322, ek37_322⟩ : ∃ x9 : Nat, x9 = j32_accS + kn37_312 := ⟨_, rfl⟩
    have ek37_322 := FF.mk ek37_322
    have uk37_322 : FF (((k37_322 : Nat) : Int) ≤ 99) := FF.mk (show ((k37_322 : Nat) : Int) ≤ 99 by have q0 := FF.out hi32_1005; have q1 := FF.out hp37_316; have q2 := FF.out ek37_322; omega)
    have mk37_322 : FF (k37_322 ≤ MS) := FF.mk (Int.ofNat_le.mp (show ((k37_322 : Nat) : Int) ≤ ((MS : Nat) : Int) by have q0 := FF.out hq1; have q1 := FF.out uk37_322; omega))
    have hP : va_P D vwCl (([] ++ (T37_310.cells)) ++ ((j32_l6.cells Z0))) _ := hP
    have hD : va_D A (([] ++ (T37_310.cells)) ++ ((j32_l6.cells Z0))) := hD
    have hP := pool_in hP
    have hD := pool_inD hD
    obtain ⟨p37_323, ep37_323⟩ : ∃ p9 : va_W, p9 = ((j32_l6.cells Z0) ++ (T37_310.cells)) := ⟨_, rfl⟩
    rw [← ep37_323] at hP hD
    have hk37_324 : FF (0 ≤ ((T37_310.sz : Nat) : Int)) := Int.natCast_nonneg _
    have hk37_325 : FF (0 ≤ ((T37_310.dep : Nat) : Int)) := Int.natCast_nonneg _
    have hk37_326 : FF (0 ≤ ((T37_310.c4 : Nat) : Int)) := Int.natCast_nonneg _
    have hP : va_P D vwCl ([] ++ (p37_323)) _ := hP
    have hD : va_D A ([] ++ (p37_323)) := hD
    refine W.widen (k := c37_321) (n := k37_322) (Nat.le_of_eq (FF.out ec37_321).symm) (Nat.le_of_eq (FF.out ek37_322).symm) (W.eq (g2 := F0 m 40 ls [.ref T37_310.root, .int v0]) rfl ?_)
    refine lv_lload_n hx hb dX16_ports_40 rfl (lv_at hl 1 rfl) ?_
    refine lv_lload_n hx hb dX16_ports_41 rfl (lv_at hl 2 rfl) ?_
    refine lv_iload hx hb dX16_ports_42 (lv_at hl 3 rfl) ?_
    obtain ⟨m44_1, gm44_1⟩ : ∃ m9 : Nat, m9 + c37_321 = MC := ⟨MC - c37_321, Nat.sub_add_cancel (FF.out mc37_321)⟩
    have em44_1 := FF.mk gm44_1
    obtain ⟨m44_2, gm44_2⟩ : ∃ m9 : Nat, m9 + k37_322 = MS := ⟨MS - k37_322, Nat.sub_add_cancel (FF.out mk37_322)⟩
    have em44_2 := FF.mk gm44_2
    refine gt_q (pl := (p37_323)) (wr := []) [] [] (rt_S (As := [.ref T37_310.root, .long v1, .long v2, .int v3]) (rest := [.int v0]) (c_X16_within l hst D ct m44_1 m44_2 T37_310 v1 v2 v3 hp37_314 h_v3 (show 5 ≤ ((m44_1 : Nat) : Int) by have q0 := FF.out hq0; have q1 := FF.out uc37_321; have q2 := FF.out em44_1; omega) (show 31 ≤ ((m44_2 : Nat) : Int) by have q0 := FF.out hq1; have q1 := FF.out uk37_322; have q2 := FF.out em44_2; omega) _) (cb_of (n := 4) hn mw_2200 mw_13 mw_2198 mhX16_within ⟨(Nat.le_of_ble_eq_true rfl), (Nat.le_of_ble_eq_true rfl)⟩) hx hb hml hown hn hK hSK hZ hS mw_2199 rfl hl.1 (Nat.le_of_ble_eq_true rfl) dX16_ports_44 ⟨(Nat.le_of_eq ((Nat.add_comm _ _).trans gm44_1)), (Nat.le_of_eq ((Nat.add_comm _ _).trans gm44_2))⟩) hP hD hS hA rfl rfl (by decide) (by decide) (by decide) (fun xq44_6 ux44_7 xfs44_8 H locs hpx44_9 hpexfs44_8 hP hD hS => ?_) (fun r44_3 u44_4 H locs hp44_5 hP hD hS => ?_)
    · exact hpx44_9.elim
    obtain ⟨T44_310, nw44_311, kc44_312, kn44_313⟩ := u44_4
    obtain ⟨hp44_314, hp44_315, hp44_316, hp44_317, hp44_318, hp44_319, hp44_320, hp44_321⟩ := hp44_5
    subst hp44_314
    replace hp44_317 : FF (((kc44_312 : Nat) : Int) ≤ 5) := hp44_317
    replace hp44_318 : FF (((kn44_313 : Nat) : Int) ≤ 31) := hp44_318
    replace hp44_319 : FF (((T44_310.dep : Nat) : Int) ≤ ((T37_310.dep : Nat) : Int)) := hp44_319
    replace hp44_320 : FF (((T44_310.sz : Nat) : Int) ≤ 2 * ((T37_310.sz : Nat) : Int) + 5) := hp44_320
    replace hp44_321 : FF (((T44_310.c4 : Nat) : Int) ≤ 2 * ((T37_310.c4 : Nat) : Int)) := hp44_321
    obtain ⟨c44_322, ec44_322⟩ : ∃ x9 : Nat, x9 = c37_321 + kc44_312 := ⟨_, rfl⟩
    have ec44_322 := FF.mk ec44_322
    have uc44_322 : FF (((c44_322 : Nat) : Int) ≤ 22) := FF.mk (show ((c44_322 : Nat) : Int) ≤ 22 by have q0 := FF.out uc37_321; have q1 := FF.out hp44_317; have q2 := FF.out ec44_322; omega)
    have mc44_322 : FF (c44_322 ≤ MC) := FF.mk (Int.ofNat_le.mp (show ((c44_322 : Nat) : Int) ≤ ((MC : Nat) : Int) by have q0 := FF.out hq0; have q1 := FF.out uc44_322; omega))
    obtain ⟨k44_323, ek44_323⟩ : ∃ x9 : Nat, x9 = k37_322 + kn44_313 := ⟨_, rfl⟩
    have ek44_323 := FF.mk ek44_323
    have uk44_323 : FF (((k44_323 : Nat) : Int) ≤ 130) := FF.mk (show ((k44_323 : Nat) : Int) ≤ 130 by have q0 := FF.out uk37_322; have q1 := FF.out hp44_318; have q2 := FF.out ek44_323; omega)
    have mk44_323 : FF (k44_323 ≤ MS) := FF.mk (Int.ofNat_le.mp (show ((k44_323 : Nat) : Int) ≤ ((MS : Nat) : Int) by have q0 := FF.out hq1; have q1 := FF.out uk44_323; omega))
    have hP : va_P D vwCl (([] ++ nw44_311) ++ (p37_323)) _ := hP
    have hD : va_D A (([] ++ nw44_311) ++ (p37_323)) := hD
    have hP := pool_in hP
    have hD := pool_inD hD
    obtain ⟨p44_324, ep44_324⟩ : ∃ p9 : va_W, p9 = (p37_323 ++ nw44_311) := ⟨_, rfl⟩
    rw [← ep44_324] at hP hD
    have hk44_325 : FF (0 ≤ ((T44_310.sz : Nat) : Int)) := Int.natCast_nonneg _
    have hk44_326 : FF (0 ≤ ((T44_310.dep : Nat) : Int)) := Int.natCast_nonneg _
    have hk44_327 : FF (0 ≤ ((T44_310.c4 : Nat) : Int)) := Int.natCast_nonneg _
    have hP : va_P D vwCl ([] ++ (p44_324)) _ := hP
    have hD : va_D A ([] ++ (p44_324)) := hD
    refine W.widen (k := c44_322) (n := k44_323) (Nat.le_of_eq (FF.out ec44_322).symm) (Nat.le_of_eq (FF.out ek44_323).symm) (W.eq (g2 := F0 m 47 ls [.ref T44_310.root, .int v0]) rfl ?_)
    refine lv_ldc2 (v := 56) hx hb hown (hn.get mw_2205 rfl) dX16_ports_47 ?_
    refine lv_iconst (v := 2) hx hb dX16_ports_50 (by decide) ?_
    obtain ⟨m51_1, gm51_1⟩ : ∃ m9 : Nat, m9 + c44_322 = MC := ⟨MC - c44_322, Nat.sub_add_cancel (FF.out mc44_322)⟩
    have em51_1 := FF.mk gm51_1
    obtain ⟨m51_2, gm51_2⟩ : ∃ m9 : Nat, m9 + k44_323 = MS := ⟨MS - k44_323, Nat.sub_add_cancel (FF.out mk44_323)⟩
    have em51_2 := FF.mk gm51_2
    refine gt_q (pl := (p44_324)) (wr := []) [] [] (rt_S (As := [.long 56, .int 2]) (rest := [.ref T44_310.root, .int v0]) (c_X16_read l hst D ct m51_1 m51_2 (56 : Int64) (2 : Int32) (rg_w (show rg (2 : Int32) 2 2 from rg_l (by decide)) (by decide)) (show 2 ≤ ((m51_1 : Nat) : Int) by have q0 := FF.out hq0; have q1 := FF.out uc44_322; have q2 := FF.out em51_1; omega) (show 10 ≤ ((m51_2 : Nat) : Int) by have q0 := FF.out hq1; have q1 := FF.out uk44_323; have q2 := FF.out em51_2; omega) _) (cb_of (n := 2) hn mw_2136 mw_13 mw_2134 mhX16_read ⟨(Nat.le_of_ble_eq_true rfl), (Nat.le_of_ble_eq_true rfl)⟩) hx hb hml hown hn hK hSK hZ hS mw_2135 rfl hl.1 (Nat.le_of_ble_eq_true rfl) dX16_ports_51 ⟨(Nat.le_of_eq ((Nat.add_comm _ _).trans gm51_1)), (Nat.le_of_eq ((Nat.add_comm _ _).trans gm51_2))⟩) hP hD hS hA rfl rfl (by decide) (by decide) (by decide) (fun xq51_6 ux51_7 xfs51_8 H locs hpx51_9 hpexfs51_8 hP hD hS => ?_) (fun r51_3 u51_4 H locs hp51_5 hP hD hS => ?_)
    · exact hpx51_9.elim
    obtain ⟨T51_310, kc51_311, kn51_312⟩ := u51_4
    obtain ⟨hp51_313, hp51_314, hp51_315, hp51_316, hp51_317, hp51_318, hp51_319, hp51_320⟩ := hp51_5
    subst hp51_313
    replace hp51_315 : FF (((kc51_311 : Nat) : Int) ≤ 2) := hp51_315
    replace hp51_316 : FF (((kn51_312 : Nat) : Int) ≤ 10) := hp51_316
    replace hp51_317 : FF (((T51_310.sz : Nat) : Int) ≤ 2) := hp51_317
    replace hp51_318 : FF (((T51_310.dep : Nat) : Int) ≤ 1) := hp51_318
    replace hp51_319 : FF (((T51_310.c4 : Nat) : Int) ≤ 1) := hp51_319
    replace hp51_320 : FF ((2 : Int32).toInt = 4 ∨ ((T51_310.c4 : Nat) : Int) ≤ 0) := hp51_320
    obtain ⟨c51_321, ec51_321⟩ : ∃ x9 : Nat, x9 = c44_322 + kc51_311 := ⟨_, rfl⟩
    have ec51_321 := FF.mk ec51_321
    have uc51_321 : FF (((c51_321 : Nat) : Int) ≤ 24) := FF.mk (show ((c51_321 : Nat) : Int) ≤ 24 by have q0 := FF.out uc44_322; have q1 := FF.out hp51_315; have q2 := FF.out ec51_321; omega)
    have mc51_321 : FF (c51_321 ≤ MC) := FF.mk (Int.ofNat_le.mp (show ((c51_321 : Nat) : Int) ≤ ((MC : Nat) : Int) by have q0 := FF.out hq0; have q1 := FF.out uc51_321; omega))
    obtain ⟨k51_322, ek51_322⟩ : ∃ x9 : Nat, x9 = k44_323 + kn51_312 := ⟨_, rfl⟩
    have ek51_322 := FF.mk ek51_322
    have uk51_322 : FF (((k51_322 : Nat) : Int) ≤ 140) := FF.mk (show ((k51_322 : Nat) : Int) ≤ 140 by have q0 := FF.out uk44_323; have q1 := FF.out hp51_316; have q2 := FF.out ek51_322; omega)
    have mk51_322 : FF (k51_322 ≤ MS) := FF.mk (Int.ofNat_le.mp (show ((k51_322 : Nat) : Int) ≤ ((MS : Nat) : Int) by have q0 := FF.out hq1; have q1 := FF.out uk51_322; omega))
    have hP : va_P D vwCl (([] ++ (T51_310.cells)) ++ (p44_324)) _ := hP
    have hD : va_D A (([] ++ (T51_310.cells)) ++ (p44_324)) := hD
    have hP := pool_in hP
    have hD := pool_inD hD
    obtain ⟨p51_323, ep51_323⟩ : ∃ p9 : va_W, p9 = (p44_324 ++ (T51_310.cells)) := ⟨_, rfl⟩
    rw [← ep51_323] at hP hD
    have hk51_324 : FF (0 ≤ ((T51_310.sz : Nat) : Int)) := Int.natCast_nonneg _
    have hk51_325 : FF (0 ≤ ((T51_310.dep : Nat) : Int)) := Int.natCast_nonneg _
    have hk51_326 : FF (0 ≤ ((T51_310.c4 : Nat) : Int)) := Int.natCast_nonneg _
    have hP : va_P D vwCl ([] ++ (p51_323)) _ := hP
    have hD : va_D A ([] ++ (p51_323)) := hD
    refine W.widen (k := c51_321) (n := k51_322) (Nat.le_of_eq (FF.out ec51_321).symm) (Nat.le_of_eq (FF.out ek51_322).symm) (W.eq (g2 := F0 m 54 ls [.ref T51_310.root, .ref T44_310.root, .int v0]) rfl ?_)
    refine lv_lload_n hx hb dX16_ports_54 rfl (lv_at hl 1 rfl) ?_
    refine lv_lload_n hx hb dX16_ports_55 rfl (lv_at hl 2 rfl) ?_
    refine lv_iload hx hb dX16_ports_56 (lv_at hl 3 rfl) ?_
    obtain ⟨m58_1, gm58_1⟩ : ∃ m9 : Nat, m9 + c51_321 = MC := ⟨MC - c51_321, Nat.sub_add_cancel (FF.out mc51_321)⟩
    have em58_1 := FF.mk gm58_1
    obtain ⟨m58_2, gm58_2⟩ : ∃ m9 : Nat, m9 + k51_322 = MS := ⟨MS - k51_322, Nat.sub_add_cancel (FF.out mk51_322)⟩
    have em58_2 := FF.mk gm58_2
    refine gt_q (pl := (p51_323)) (wr := []) [] [] (rt_S (As := [.ref T51_310.root, .long v1, .long v2, .int v3]) (rest := [.ref T44_310.root, .int v0]) (c_X16_within l hst D ct m58_1 m58_2 T51_310 v1 v2 v3 hp51_314 h_v3 (show 5 ≤ ((m58_1 : Nat) : Int) by have q0 := FF.out hq0; have q1 := FF.out uc51_321; have q2 := FF.out em58_1; omega) (show 31 ≤ ((m58_2 : Nat) : Int) by have q0 := FF.out hq1; have q1 := FF.out uk51_322; have q2 := FF.out em58_2; omega) _) (cb_of (n := 4) hn mw_2200 mw_13 mw_2198 mhX16_within ⟨(Nat.le_of_ble_eq_true rfl), (Nat.le_of_ble_eq_true rfl)⟩) hx hb hml hown hn hK hSK hZ hS mw_2199 rfl hl.1 (Nat.le_of_ble_eq_true rfl) dX16_ports_58 ⟨(Nat.le_of_eq ((Nat.add_comm _ _).trans gm58_1)), (Nat.le_of_eq ((Nat.add_comm _ _).trans gm58_2))⟩) hP hD hS hA rfl rfl (by decide) (by decide) (by decide) (fun xq58_6 ux58_7 xfs58_8 H locs hpx58_9 hpexfs58_8 hP hD hS => ?_) (fun r58_3 u58_4 H locs hp58_5 hP hD hS => ?_)
    · exact hpx58_9.elim
    obtain ⟨T58_310, nw58_311, kc58_312, kn58_313⟩ := u58_4
    obtain ⟨hp58_314, hp58_315, hp58_316, hp58_317, hp58_318, hp58_319, hp58_320, hp58_321⟩ := hp58_5
    subst hp58_314
    replace hp58_317 : FF (((kc58_312 : Nat) : Int) ≤ 5) := hp58_317
    replace hp58_318 : FF (((kn58_313 : Nat) : Int) ≤ 31) := hp58_318
    replace hp58_319 : FF (((T58_310.dep : Nat) : Int) ≤ ((T51_310.dep : Nat) : Int)) := hp58_319
    replace hp58_320 : FF (((T58_310.sz : Nat) : Int) ≤ 2 * ((T51_310.sz : Nat) : Int) + 5) := hp58_320
    replace hp58_321 : FF (((T58_310.c4 : Nat) : Int) ≤ 2 * ((T51_310.c4 : Nat) : Int)) := hp58_321
    obtain ⟨c58_322, ec58_322⟩ : ∃ x9 : Nat, x9 = c51_321 + kc58_312 := ⟨_, rfl⟩
    have ec58_322 := FF.mk ec58_322
    have uc58_322 : FF (((c58_322 : Nat) : Int) ≤ 29) := FF.mk (show ((c58_322 : Nat) : Int) ≤ 29 by have q0 := FF.out uc51_321; have q1 := FF.out hp58_317; have q2 := FF.out ec58_322; omega)
    have mc58_322 : FF (c58_322 ≤ MC) := FF.mk (Int.ofNat_le.mp (show ((c58_322 : Nat) : Int) ≤ ((MC : Nat) : Int) by have q0 := FF.out hq0; have q1 := FF.out uc58_322; omega))
    obtain ⟨k58_323, ek58_323⟩ : ∃ x9 : Nat, x9 = k51_322 + kn58_313 := ⟨_, rfl⟩
    have ek58_323 := FF.mk ek58_323
    have uk58_323 : FF (((k58_323 : Nat) : Int) ≤ 171) := FF.mk (show ((k58_323 : Nat) : Int) ≤ 171 by have q0 := FF.out uk51_322; have q1 := FF.out hp58_318; have q2 := FF.out ek58_323; omega)
    have mk58_323 : FF (k58_323 ≤ MS) := FF.mk (Int.ofNat_le.mp (show ((k58_323 : Nat) : Int) ≤ ((MS : Nat) : Int) by have q0 := FF.out hq1; have q1 := FF.out uk58_323; omega))
    have hP : va_P D vwCl (([] ++ nw58_311) ++ (p51_323)) _ := hP
    have hD : va_D A (([] ++ nw58_311) ++ (p51_323)) := hD
    have hP := pool_in hP
    have hD := pool_inD hD
    obtain ⟨p58_324, ep58_324⟩ : ∃ p9 : va_W, p9 = (p51_323 ++ nw58_311) := ⟨_, rfl⟩
    rw [← ep58_324] at hP hD
    have hk58_325 : FF (0 ≤ ((T58_310.sz : Nat) : Int)) := Int.natCast_nonneg _
    have hk58_326 : FF (0 ≤ ((T58_310.dep : Nat) : Int)) := Int.natCast_nonneg _
    have hk58_327 : FF (0 ≤ ((T58_310.c4 : Nat) : Int)) := Int.natCast_nonneg _
    have hP : va_P D vwCl ([] ++ (p58_324)) _ := hP
    have hD : va_D A ([] ++ (p58_324)) := hD
    refine W.widen (k := c58_322) (n := k58_323) (Nat.le_of_eq (FF.out ec58_322).symm) (Nat.le_of_eq (FF.out ek58_323).symm) (W.eq (g2 := F0 m 61 ls [.ref T58_310.root, .ref T44_310.root, .int v0]) rfl ?_)
    obtain ⟨m61_1, gm61_1⟩ : ∃ m9 : Nat, m9 + c58_322 = MC := ⟨MC - c58_322, Nat.sub_add_cancel (FF.out mc58_322)⟩
    have em61_1 := FF.mk gm61_1
    obtain ⟨m61_2, gm61_2⟩ : ∃ m9 : Nat, m9 + k58_323 = MS := ⟨MS - k58_323, Nat.sub_add_cancel (FF.out mk58_323)⟩
    have em61_2 := FF.mk gm61_2
    refine gt_q (pl := (p58_324)) (wr := []) [] [] (rt_S (As := [.int v0, .ref T44_310.root, .ref T58_310.root]) (rest := []) (c_X16_onWay l hst D ct m61_1 m61_2 v0 T44_310 T58_310 hp44_315 hp58_315 (show 1 ≤ ((m61_1 : Nat) : Int) by have q0 := FF.out hq0; have q1 := FF.out uc58_322; have q2 := FF.out em61_1; omega) (show 7 ≤ ((m61_2 : Nat) : Int) by have q0 := FF.out hq1; have q1 := FF.out uk58_323; have q2 := FF.out em61_2; omega) _) (cb_of (n := 3) hn mw_2203 mw_13 mw_2201 mhX16_onWay ⟨(Nat.le_of_ble_eq_true rfl), (Nat.le_of_ble_eq_true rfl)⟩) hx hb hml hown hn hK hSK hZ hS mw_2202 rfl hl.1 (Nat.le_of_ble_eq_true rfl) dX16_ports_61 ⟨(Nat.le_of_eq ((Nat.add_comm _ _).trans gm61_1)), (Nat.le_of_eq ((Nat.add_comm _ _).trans gm61_2))⟩) hP hD hS hA rfl rfl (by decide) (by decide) (by decide) (fun xq61_6 ux61_7 xfs61_8 H locs hpx61_9 hpexfs61_8 hP hD hS => ?_) (fun r61_3 u61_4 H locs hp61_5 hP hD hS => ?_)
    · exact hpx61_9.elim
    obtain ⟨T61_310, nw61_311, gb61_312, kc61_313, kn61_314⟩ := u61_4
    obtain ⟨hp61_315, hp61_316, hp61_317, hp61_318, hp61_319, hp61_320, hp61_321, hp61_322⟩ := hp61_5
    subst hp61_315
    replace hp61_318 : FF (((kc61_313 : Nat) : Int) ≤ 1) := hp61_318
    replace hp61_319 : FF (((kn61_314 : Nat) : Int) ≤ 7) := hp61_319
    replace hp61_320 : FF (((T61_310.dep : Nat) : Int) ≤ ((T44_310.dep : Nat) : Int) ∨ ((T61_310.dep : Nat) : Int) ≤ ((T58_310.dep : Nat) : Int)) := hp61_320
    replace hp61_321 : FF (((T61_310.sz : Nat) : Int) ≤ ((T44_310.sz : Nat) : Int) + ((T58_310.sz : Nat) : Int) + 1) := hp61_321
    replace hp61_322 : FF (((T61_310.c4 : Nat) : Int) ≤ ((T44_310.c4 : Nat) : Int) + ((T58_310.c4 : Nat) : Int)) := hp61_322
    obtain ⟨c61_323, ec61_323⟩ : ∃ x9 : Nat, x9 = c58_322 + kc61_313 := ⟨_, rfl⟩
    have ec61_323 := FF.mk ec61_323
    have uc61_323 : FF (((c61_323 : Nat) : Int) ≤ 30) := FF.mk (show ((c61_323 : Nat) : Int) ≤ 30 by have q0 := FF.out uc58_322; have q1 := FF.out hp61_318; have q2 := FF.out ec61_323; omega)
    have mc61_323 : FF (c61_323 ≤ MC) := FF.mk (Int.ofNat_le.mp (show ((c61_323 : Nat) : Int) ≤ ((MC : Nat) : Int) by have q0 := FF.out hq0; have q1 := FF.out uc61_323; omega))
    obtain ⟨k61_324, ek61_324⟩ : ∃ x9 : Nat, x9 = k58_323 + kn61_314 := ⟨_, rfl⟩
    have ek61_324 := FF.mk ek61_324
    have uk61_324 : FF (((k61_324 : Nat) : Int) ≤ 178) := FF.mk (show ((k61_324 : Nat) : Int) ≤ 178 by have q0 := FF.out uk58_323; have q1 := FF.out hp61_319; have q2 := FF.out ek61_324; omega)
    have mk61_324 : FF (k61_324 ≤ MS) := FF.mk (Int.ofNat_le.mp (show ((k61_324 : Nat) : Int) ≤ ((MS : Nat) : Int) by have q0 := FF.out hq1; have q1 := FF.out uk61_324; omega))
    have hP : va_P D vwCl (([] ++ nw61_311) ++ (p58_324)) _ := hP
    have hD : va_D A (([] ++ nw61_311) ++ (p58_324)) := hD
    have hP := pool_in hP
    have hD := pool_inD hD
    obtain ⟨p61_325, ep61_325⟩ : ∃ p9 : va_W, p9 = (p58_324 ++ nw61_311) := ⟨_, rfl⟩
    rw [← ep61_325] at hP hD
    have hk61_326 : FF (0 ≤ ((T61_310.sz : Nat) : Int)) := Int.natCast_nonneg _
    have hk61_327 : FF (0 ≤ ((T61_310.dep : Nat) : Int)) := Int.natCast_nonneg _
    have hk61_328 : FF (0 ≤ ((T61_310.c4 : Nat) : Int)) := Int.natCast_nonneg _
    have hP : va_P D vwCl ([] ++ (p61_325)) _ := hP
    have hD : va_D A ([] ++ (p61_325)) := hD
    refine W.widen (k := c61_323) (n := k61_324) (Nat.le_of_eq (FF.out ec61_323).symm) (Nat.le_of_eq (FF.out ek61_324).symm) (W.eq (g2 := F0 m 64 ls [.ref T61_310.root]) rfl ?_)
    refine lv_astore (lv' := [(7, .ref T61_310.root), (0, .int v0), (1, .long v1), (3, .long v2), (5, .int v3), (6, .ref j32_l6.root)]) hx hb dX16_ports_64 hl (by decide) rfl (fun ls hl => ?_)
    have hP : va_P D vwCl ([] ++ ((j32_l6.cells Z0) ++ (T61_310.cells Z0))) _ := va_Ppre (show va_P D vwCl (([] ++ ((j32_l6.cells Z0) ++ (T61_310.cells Z0))) ++ (gb61_312)) _ from hP.perm (seg_perm (fun f => by have w0 := seg_sum (List.Perm.of_eq ep37_323) f; have w1 := seg_sum hp44_316 f; have w2 := seg_sum (List.Perm.of_eq ep44_324) f; have w3 := seg_sum (List.Perm.of_eq ep51_323) f; have w4 := seg_sum hp58_316 f; have w5 := seg_sum (List.Perm.of_eq ep58_324) f; have w6 := seg_sum hp61_317 f; have w7 := seg_sum (List.Perm.of_eq ep61_325) f; simp only [ST.cells_leaf, ST.cells_minus, ST.cells_group, ST.cells_acc, ST.cells_two, FT.cells_two, FT.cells_inv, FT.cells_test, FT.cells_pair, List.map_append, List.sum_append, List.map_nil, List.sum_nil] at w0 w1 w2 w3 w4 w5 w6 w7 ⊢ <;> omega)))
    have hD : va_D A ([] ++ ((j32_l6.cells Z0) ++ (T61_310.cells Z0))) := va_Dpre (show va_D A (([] ++ ((j32_l6.cells Z0) ++ (T61_310.cells Z0))) ++ (gb61_312)) from hD.perm (seg_perm (fun f => by have w0 := seg_sum (List.Perm.of_eq ep37_323) f; have w1 := seg_sum hp44_316 f; have w2 := seg_sum (List.Perm.of_eq ep44_324) f; have w3 := seg_sum (List.Perm.of_eq ep51_323) f; have w4 := seg_sum hp58_316 f; have w5 := seg_sum (List.Perm.of_eq ep58_324) f; have w6 := seg_sum hp61_317 f; have w7 := seg_sum (List.Perm.of_eq ep61_325) f; simp only [ST.cells_leaf, ST.cells_minus, ST.cells_group, ST.cells_acc, ST.cells_two, FT.cells_two, FT.cells_inv, FT.cells_test, FT.cells_pair, List.map_append, List.sum_append, List.map_nil, List.sum_nil] at w0 w1 w2 w3 w4 w5 w6 w7 ⊢ <;> omega)))
    exact b66 c61_323 k61_324 j32_l6 T61_310 H locs ls (show ((c61_323 : Nat) : Int) ≤ ((MC : Nat) : Int) by have q0 := FF.out hq0; have q1 := FF.out uc61_323; omega) (show ((k61_324 : Nat) : Int) ≤ ((MS : Nat) : Int) by have q0 := FF.out hq1; have q1 := FF.out uk61_324; omega) ht32_1003 hp61_316 (show ((c61_323 : Nat) : Int) ≤ 30 by have q0 := FF.out uc61_323; omega) (show ((k61_324 : Nat) : Int) ≤ 178 by have q0 := FF.out uk61_324; omega) (show ((j32_l6.sz : Nat) : Int) ≤ 19 by have q0 := FF.out hi32_1006; omega) (show ((j32_l6.dep : Nat) : Int) ≤ 1 by have q0 := FF.out hi32_1007; omega) (show ((j32_l6.c4 : Nat) : Int) ≤ 0 by have q0 := FF.out hi32_1008; omega) (show ((T61_310.sz : Nat) : Int) ≤ 19 by have q0 := FF.out hp37_317; have q1 := FF.out hp44_320; have q2 := FF.out hp51_317; have q3 := FF.out hp58_320; have q4 := FF.out hp61_321; omega) (show ((T61_310.dep : Nat) : Int) ≤ 1 by have q0 := FF.out hp37_318; have q1 := FF.out hp44_319; have q2 := FF.out hp51_318; have q3 := FF.out hp58_319; have q4 := FF.out hp61_320; omega) (show ((T61_310.c4 : Nat) : Int) ≤ 0 by have q0 := FF.out hp37_320; have q1 := FF.out hp44_321; have q2 := FF.out hp51_320; have q3 := FF.out hp58_321; have q4 := FF.out hp61_322; have q5 := (show (2 : Int32).toInt = 2 from by decide); omega) (lv_sub hl [5, 0] rfl) hP hD hS
  refine lv_iload_n hx hb dX16_ports_0 rfl (lv_at hl 0 rfl) ?_
  refine lv_ldc2 (v := 14) hx hb hown (hn.get mw_1826 rfl) dX16_ports_1 ?_
  obtain ⟨m4_1, gm4_1⟩ : ∃ m9 : Nat, m9 + 0 = MC := ⟨MC - 0, Nat.sub_add_cancel (Nat.zero_le MC)⟩
  have em4_1 := FF.mk gm4_1
  obtain ⟨m4_2, gm4_2⟩ : ∃ m9 : Nat, m9 + 0 = MS := ⟨MS - 0, Nat.sub_add_cancel (Nat.zero_le MS)⟩
  have em4_2 := FF.mk gm4_2
  refine gt_q (pl := (([] : va_W))) (wr := []) [] [] (rt_S (As := [.long 14]) (rest := [.int v0]) (c_X16_behindHeader l hst D ct m4_1 m4_2 (14 : Int64) (show 2 ≤ ((m4_1 : Nat) : Int) by have q0 := FF.out hq0; have q1 := FF.out em4_1; omega) (show 10 ≤ ((m4_2 : Nat) : Int) by have q0 := FF.out hq1; have q1 := FF.out em4_2; omega) _) (cb_of (n := 1) hn mw_2196 mw_13 mw_2194 mhX16_behindHeader ⟨(Nat.le_of_ble_eq_true rfl), (Nat.le_of_ble_eq_true rfl)⟩) hx hb hml hown hn hK hSK hZ hS mw_2195 rfl hl.1 (Nat.le_of_ble_eq_true rfl) dX16_ports_4 ⟨(Nat.le_of_eq ((Nat.add_comm _ _).trans gm4_1)), (Nat.le_of_eq ((Nat.add_comm _ _).trans gm4_2))⟩) hP hD hS hA rfl rfl (by decide) (by decide) (by decide) (fun xq4_6 ux4_7 xfs4_8 H locs hpx4_9 hpexfs4_8 hP hD hS => ?_) (fun r4_3 u4_4 H locs hp4_5 hP hD hS => ?_)
  · exact hpx4_9.elim
  obtain ⟨T4_310, kc4_311, kn4_312⟩ := u4_4
  obtain ⟨hp4_313, hp4_314, hp4_315, hp4_316, hp4_317, hp4_318, hp4_319⟩ := hp4_5
  subst hp4_313
  replace hp4_315 : FF (((kc4_311 : Nat) : Int) ≤ 2) := hp4_315
  replace hp4_316 : FF (((kn4_312 : Nat) : Int) ≤ 10) := hp4_316
  replace hp4_317 : FF (((T4_310.sz : Nat) : Int) ≤ 2) := hp4_317
  replace hp4_318 : FF (((T4_310.dep : Nat) : Int) ≤ 1) := hp4_318
  replace hp4_319 : FF (((T4_310.c4 : Nat) : Int) ≤ 0) := hp4_319
  obtain ⟨c4_320, ec4_320⟩ : ∃ x9 : Nat, x9 = 0 + kc4_311 := ⟨_, rfl⟩
  have ec4_320 := FF.mk ec4_320
  have uc4_320 : FF (((c4_320 : Nat) : Int) ≤ 2) := FF.mk (show ((c4_320 : Nat) : Int) ≤ 2 by have q0 := FF.out hp4_315; have q1 := FF.out ec4_320; omega)
  have mc4_320 : FF (c4_320 ≤ MC) := FF.mk (Int.ofNat_le.mp (show ((c4_320 : Nat) : Int) ≤ ((MC : Nat) : Int) by have q0 := FF.out hq0; have q1 := FF.out uc4_320; omega))
  obtain ⟨k4_321, ek4_321⟩ : ∃ x9 : Nat, x9 = 0 + kn4_312 := ⟨_, rfl⟩
  have ek4_321 := FF.mk ek4_321
  have uk4_321 : FF (((k4_321 : Nat) : Int) ≤ 10) := FF.mk (show ((k4_321 : Nat) : Int) ≤ 10 by have q0 := FF.out hp4_316; have q1 := FF.out ek4_321; omega)
  have mk4_321 : FF (k4_321 ≤ MS) := FF.mk (Int.ofNat_le.mp (show ((k4_321 : Nat) : Int) ≤ ((MS : Nat) : Int) by have q0 := FF.out hq1; have q1 := FF.out uk4_321; omega))
  have hP : va_P D vwCl (([] ++ (T4_310.cells)) ++ (([] : va_W))) _ := hP
  have hD : va_D A (([] ++ (T4_310.cells)) ++ (([] : va_W))) := hD
  have hP := pool_in hP
  have hD := pool_inD hD
  obtain ⟨p4_322, ep4_322⟩ : ∃ p9 : va_W, p9 = (([] : va_W) ++ (T4_310.cells)) := ⟨_, rfl⟩
  rw [← ep4_322] at hP hD
  have hk4_323 : FF (0 ≤ ((T4_310.sz : Nat) : Int)) := Int.natCast_nonneg _
  have hk4_324 : FF (0 ≤ ((T4_310.dep : Nat) : Int)) := Int.natCast_nonneg _
  have hk4_325 : FF (0 ≤ ((T4_310.c4 : Nat) : Int)) := Int.natCast_nonneg _
  have hP : va_P D vwCl ([] ++ (p4_322)) _ := hP
  have hD : va_D A ([] ++ (p4_322)) := hD
  refine W.widen (k := c4_320) (n := k4_321) (Nat.le_of_eq (FF.out ec4_320).symm) (Nat.le_of_eq (FF.out ek4_321).symm) (W.eq (g2 := F0 m 7 ls [.ref T4_310.root, .int v0]) rfl ?_)
  refine lv_lload_n hx hb dX16_ports_7 rfl (lv_at hl 1 rfl) ?_
  refine lv_lload_n hx hb dX16_ports_8 rfl (lv_at hl 2 rfl) ?_
  refine lv_iload hx hb dX16_ports_9 (lv_at hl 3 rfl) ?_
  obtain ⟨m11_1, gm11_1⟩ : ∃ m9 : Nat, m9 + c4_320 = MC := ⟨MC - c4_320, Nat.sub_add_cancel (FF.out mc4_320)⟩
  have em11_1 := FF.mk gm11_1
  obtain ⟨m11_2, gm11_2⟩ : ∃ m9 : Nat, m9 + k4_321 = MS := ⟨MS - k4_321, Nat.sub_add_cancel (FF.out mk4_321)⟩
  have em11_2 := FF.mk gm11_2
  refine gt_q (pl := (p4_322)) (wr := []) [] [] (rt_S (As := [.ref T4_310.root, .long v1, .long v2, .int v3]) (rest := [.int v0]) (c_X16_within l hst D ct m11_1 m11_2 T4_310 v1 v2 v3 hp4_314 h_v3 (show 5 ≤ ((m11_1 : Nat) : Int) by have q0 := FF.out hq0; have q1 := FF.out uc4_320; have q2 := FF.out em11_1; omega) (show 31 ≤ ((m11_2 : Nat) : Int) by have q0 := FF.out hq1; have q1 := FF.out uk4_321; have q2 := FF.out em11_2; omega) _) (cb_of (n := 4) hn mw_2200 mw_13 mw_2198 mhX16_within ⟨(Nat.le_of_ble_eq_true rfl), (Nat.le_of_ble_eq_true rfl)⟩) hx hb hml hown hn hK hSK hZ hS mw_2199 rfl hl.1 (Nat.le_of_ble_eq_true rfl) dX16_ports_11 ⟨(Nat.le_of_eq ((Nat.add_comm _ _).trans gm11_1)), (Nat.le_of_eq ((Nat.add_comm _ _).trans gm11_2))⟩) hP hD hS hA rfl rfl (by decide) (by decide) (by decide) (fun xq11_6 ux11_7 xfs11_8 H locs hpx11_9 hpexfs11_8 hP hD hS => ?_) (fun r11_3 u11_4 H locs hp11_5 hP hD hS => ?_)
  · exact hpx11_9.elim
  obtain ⟨T11_310, nw11_311, kc11_312, kn11_313⟩ := u11_4
  obtain ⟨hp11_314, hp11_315, hp11_316, hp11_317, hp11_318, hp11_319, hp11_320, hp11_321⟩ := hp11_5
  subst hp11_314
  replace hp11_317 : FF (((kc11_312 : Nat) : Int) ≤ 5) := hp11_317
  replace hp11_318 : FF (((kn11_313 : Nat) : Int) ≤ 31) := hp11_318
  replace hp11_319 : FF (((T11_310.dep : Nat) : Int) ≤ ((T4_310.dep : Nat) : Int)) := hp11_319
  replace hp11_320 : FF (((T11_310.sz : Nat) : Int) ≤ 2 * ((T4_310.sz : Nat) : Int) + 5) := hp11_320
  replace hp11_321 : FF (((T11_310.c4 : Nat) : Int) ≤ 2 * ((T4_310.c4 : Nat) : Int)) := hp11_321
  obtain ⟨c11_322, ec11_322⟩ : ∃ x9 : Nat, x9 = c4_320 + kc11_312 := ⟨_, rfl⟩
  have ec11_322 := FF.mk ec11_322
  have uc11_322 : FF (((c11_322 : Nat) : Int) ≤ 7) := FF.mk (show ((c11_322 : Nat) : Int) ≤ 7 by have q0 := FF.out uc4_320; have q1 := FF.out hp11_317; have q2 := FF.out ec11_322; omega)
  have mc11_322 : FF (c11_322 ≤ MC) := FF.mk (Int.ofNat_le.mp (show ((c11_322 : Nat) : Int) ≤ ((MC : Nat) : Int) by have q0 := FF.out hq0; have q1 := FF.out uc11_322; omega))
  obtain ⟨k11_323, ek11_323⟩ : ∃ x9 : Nat, x9 = k4_321 + kn11_313 := ⟨_, rfl⟩
  have ek11_323 := FF.mk ek11_323
  have uk11_323 : FF (((k11_323 : Nat) : Int) ≤ 41) := FF.mk (show ((k11_323 : Nat) : Int) ≤ 41 by have q0 := FF.out uk4_321; have q1 := FF.out hp11_318; have q2 := FF.out ek11_323; omega)
  have mk11_323 : FF (k11_323 ≤ MS) := FF.mk (Int.ofNat_le.mp (show ((k11_323 : Nat) : Int) ≤ ((MS : Nat) : Int) by have q0 := FF.out hq1; have q1 := FF.out uk11_323; omega))
  have hP : va_P D vwCl (([] ++ nw11_311) ++ (p4_322)) _ := hP
  have hD : va_D A (([] ++ nw11_311) ++ (p4_322)) := hD
  have hP := pool_in hP
  have hD := pool_inD hD
  obtain ⟨p11_324, ep11_324⟩ : ∃ p9 : va_W, p9 = (p4_322 ++ nw11_311) := ⟨_, rfl⟩
  rw [← ep11_324] at hP hD
  have hk11_325 : FF (0 ≤ ((T11_310.sz : Nat) : Int)) := Int.natCast_nonneg _
  have hk11_326 : FF (0 ≤ ((T11_310.dep : Nat) : Int)) := Int.natCast_nonneg _
  have hk11_327 : FF (0 ≤ ((T11_310.c4 : Nat) : Int)) := Int.natCast_nonneg _
  have hP : va_P D vwCl ([] ++ (p11_324)) _ := hP
  have hD : va_D A ([] ++ (p11_324)) := hD
  refine W.widen (k := c11_322) (n := k11_323) (Nat.le_of_eq (FF.out ec11_322).symm) (Nat.le_of_eq (FF.out ek11_323).symm) (W.eq (g2 := F0 m 14 ls [.ref T11_310.root, .int v0]) rfl ?_)
  refine lv_ldc2 (v := 16) hx hb hown (hn.get mw_2083 rfl) dX16_ports_14 ?_
  obtain ⟨m17_1, gm17_1⟩ : ∃ m9 : Nat, m9 + c11_322 = MC := ⟨MC - c11_322, Nat.sub_add_cancel (FF.out mc11_322)⟩
  have em17_1 := FF.mk gm17_1
  obtain ⟨m17_2, gm17_2⟩ : ∃ m9 : Nat, m9 + k11_323 = MS := ⟨MS - k11_323, Nat.sub_add_cancel (FF.out mk11_323)⟩
  have em17_2 := FF.mk gm17_2
  refine gt_q (pl := (p11_324)) (wr := []) [] [] (rt_S (As := [.long 16]) (rest := [.ref T11_310.root, .int v0]) (c_X16_behindHeader l hst D ct m17_1 m17_2 (16 : Int64) (show 2 ≤ ((m17_1 : Nat) : Int) by have q0 := FF.out hq0; have q1 := FF.out uc11_322; have q2 := FF.out em17_1; omega) (show 10 ≤ ((m17_2 : Nat) : Int) by have q0 := FF.out hq1; have q1 := FF.out uk11_323; have q2 := FF.out em17_2; omega) _) (cb_of (n := 1) hn mw_2196 mw_13 mw_2194 mhX16_behindHeader ⟨(Nat.le_of_ble_eq_true rfl), (Nat.le_of_ble_eq_true rfl)⟩) hx hb hml hown hn hK hSK hZ hS mw_2195 rfl hl.1 (Nat.le_of_ble_eq_true rfl) dX16_ports_17 ⟨(Nat.le_of_eq ((Nat.add_comm _ _).trans gm17_1)), (Nat.le_of_eq ((Nat.add_comm _ _).trans gm17_2))⟩) hP hD hS hA rfl rfl (by decide) (by decide) (by decide) (fun xq17_6 ux17_7 xfs17_8 H locs hpx17_9 hpexfs17_8 hP hD hS => ?_) (fun r17_3 u17_4 H locs hp17_5 hP hD hS => ?_)
  · exact hpx17_9.elim
  obtain ⟨T17_310, kc17_311, kn17_312⟩ := u17_4
  obtain ⟨hp17_313, hp17_314, hp17_315, hp17_316, hp17_317, hp17_318, hp17_319⟩ := hp17_5
  subst hp17_313
  replace hp17_315 : FF (((kc17_311 : Nat) : Int) ≤ 2) := hp17_315
  replace hp17_316 : FF (((kn17_312 : Nat) : Int) ≤ 10) := hp17_316
  replace hp17_317 : FF (((T17_310.sz : Nat) : Int) ≤ 2) := hp17_317
  replace hp17_318 : FF (((T17_310.dep : Nat) : Int) ≤ 1) := hp17_318
  replace hp17_319 : FF (((T17_310.c4 : Nat) : Int) ≤ 0) := hp17_319
  obtain ⟨c17_320, ec17_320⟩ : ∃ x9 : Nat, x9 = c11_322 + kc17_311 := ⟨_, rfl⟩
  have ec17_320 := FF.mk ec17_320
  have uc17_320 : FF (((c17_320 : Nat) : Int) ≤ 9) := FF.mk (show ((c17_320 : Nat) : Int) ≤ 9 by have q0 := FF.out uc11_322; have q1 := FF.out hp17_315; have q2 := FF.out ec17_320; omega)
  have mc17_320 : FF (c17_320 ≤ MC) := FF.mk (Int.ofNat_le.mp (show ((c17_320 : Nat) : Int) ≤ ((MC : Nat) : Int) by have q0 := FF.out hq0; have q1 := FF.out uc17_320; omega))
  obtain ⟨k17_321, ek17_321⟩ : ∃ x9 : Nat, x9 = k11_323 + kn17_312 := ⟨_, rfl⟩
  have ek17_321 := FF.mk ek17_321
  have uk17_321 : FF (((k17_321 : Nat) : Int) ≤ 51) := FF.mk (show ((k17_321 : Nat) : Int) ≤ 51 by have q0 := FF.out uk11_323; have q1 := FF.out hp17_316; have q2 := FF.out ek17_321; omega)
  have mk17_321 : FF (k17_321 ≤ MS) := FF.mk (Int.ofNat_le.mp (show ((k17_321 : Nat) : Int) ≤ ((MS : Nat) : Int) by have q0 := FF.out hq1; have q1 := FF.out uk17_321; omega))
  have hP : va_P D vwCl (([] ++ (T17_310.cells)) ++ (p11_324)) _ := hP
  have hD : va_D A (([] ++ (T17_310.cells)) ++ (p11_324)) := hD
  have hP := pool_in hP
  have hD := pool_inD hD
  obtain ⟨p17_322, ep17_322⟩ : ∃ p9 : va_W, p9 = (p11_324 ++ (T17_310.cells)) := ⟨_, rfl⟩
  rw [← ep17_322] at hP hD
  have hk17_323 : FF (0 ≤ ((T17_310.sz : Nat) : Int)) := Int.natCast_nonneg _
  have hk17_324 : FF (0 ≤ ((T17_310.dep : Nat) : Int)) := Int.natCast_nonneg _
  have hk17_325 : FF (0 ≤ ((T17_310.c4 : Nat) : Int)) := Int.natCast_nonneg _
  have hP : va_P D vwCl ([] ++ (p17_322)) _ := hP
  have hD : va_D A ([] ++ (p17_322)) := hD
  refine W.widen (k := c17_320) (n := k17_321) (Nat.le_of_eq (FF.out ec17_320).symm) (Nat.le_of_eq (FF.out ek17_321).symm) (W.eq (g2 := F0 m 20 ls [.ref T17_310.root, .ref T11_310.root, .int v0]) rfl ?_)
  refine lv_lload_n hx hb dX16_ports_20 rfl (lv_at hl 1 rfl) ?_
  refine lv_lload_n hx hb dX16_ports_21 rfl (lv_at hl 2 rfl) ?_
  refine lv_iload hx hb dX16_ports_22 (lv_at hl 3 rfl) ?_
  obtain ⟨m24_1, gm24_1⟩ : ∃ m9 : Nat, m9 + c17_320 = MC := ⟨MC - c17_320, Nat.sub_add_cancel (FF.out mc17_320)⟩
  have em24_1 := FF.mk gm24_1
  obtain ⟨m24_2, gm24_2⟩ : ∃ m9 : Nat, m9 + k17_321 = MS := ⟨MS - k17_321, Nat.sub_add_cancel (FF.out mk17_321)⟩
  have em24_2 := FF.mk gm24_2
  refine gt_q (pl := (p17_322)) (wr := []) [] [] (rt_S (As := [.ref T17_310.root, .long v1, .long v2, .int v3]) (rest := [.ref T11_310.root, .int v0]) (c_X16_within l hst D ct m24_1 m24_2 T17_310 v1 v2 v3 hp17_314 h_v3 (show 5 ≤ ((m24_1 : Nat) : Int) by have q0 := FF.out hq0; have q1 := FF.out uc17_320; have q2 := FF.out em24_1; omega) (show 31 ≤ ((m24_2 : Nat) : Int) by have q0 := FF.out hq1; have q1 := FF.out uk17_321; have q2 := FF.out em24_2; omega) _) (cb_of (n := 4) hn mw_2200 mw_13 mw_2198 mhX16_within ⟨(Nat.le_of_ble_eq_true rfl), (Nat.le_of_ble_eq_true rfl)⟩) hx hb hml hown hn hK hSK hZ hS mw_2199 rfl hl.1 (Nat.le_of_ble_eq_true rfl) dX16_ports_24 ⟨(Nat.le_of_eq ((Nat.add_comm _ _).trans gm24_1)), (Nat.le_of_eq ((Nat.add_comm _ _).trans gm24_2))⟩) hP hD hS hA rfl rfl (by decide) (by decide) (by decide) (fun xq24_6 ux24_7 xfs24_8 H locs hpx24_9 hpexfs24_8 hP hD hS => ?_) (fun r24_3 u24_4 H locs hp24_5 hP hD hS => ?_)
  · exact hpx24_9.elim
  obtain ⟨T24_310, nw24_311, kc24_312, kn24_313⟩ := u24_4
  obtain ⟨hp24_314, hp24_315, hp24_316, hp24_317, hp24_318, hp24_319, hp24_320, hp24_321⟩ := hp24_5
  subst hp24_314
  replace hp24_317 : FF (((kc24_312 : Nat) : Int) ≤ 5) := hp24_317
  replace hp24_318 : FF (((kn24_313 : Nat) : Int) ≤ 31) := hp24_318
  replace hp24_319 : FF (((T24_310.dep : Nat) : Int) ≤ ((T17_310.dep : Nat) : Int)) := hp24_319
  replace hp24_320 : FF (((T24_310.sz : Nat) : Int) ≤ 2 * ((T17_310.sz : Nat) : Int) + 5) := hp24_320
  replace hp24_321 : FF (((T24_310.c4 : Nat) : Int) ≤ 2 * ((T17_310.c4 : Nat) : Int)) := hp24_321
  obtain ⟨c24_322, ec24_322⟩ : ∃ x9 : Nat, x9 = c17_320 + kc24_312 := ⟨_, rfl⟩
  have ec24_322 := FF.mk ec24_322
  have uc24_322 : FF (((c24_322 : Nat) : Int) ≤ 14) := FF.mk (show ((c24_322 : Nat) : Int) ≤ 14 by have q0 := FF.out uc17_320; have q1 := FF.out hp24_317; have q2 := FF.out ec24_322; omega)
  have mc24_322 : FF (c24_322 ≤ MC) := FF.mk (Int.ofNat_le.mp (show ((c24_322 : Nat) : Int) ≤ ((MC : Nat) : Int) by have q0 := FF.out hq0; have q1 := FF.out uc24_322; omega))
  obtain ⟨k24_323, ek24_323⟩ : ∃ x9 : Nat, x9 = k17_321 + kn24_313 := ⟨_, rfl⟩
  have ek24_323 := FF.mk ek24_323
  have uk24_323 : FF (((k24_323 : Nat) : Int) ≤ 82) := FF.mk (show ((k24_323 : Nat) : Int) ≤ 82 by have q0 := FF.out uk17_321; have q1 := FF.out hp24_318; have q2 := FF.out ek24_323; omega)
  have mk24_323 : FF (k24_323 ≤ MS) := FF.mk (Int.ofNat_le.mp (show ((k24_323 : Nat) : Int) ≤ ((MS : Nat) : Int) by have q0 := FF.out hq1; have q1 := FF.out uk24_323; omega))
  have hP : va_P D vwCl (([] ++ nw24_311) ++ (p17_322)) _ := hP
  have hD : va_D A (([] ++ nw24_311) ++ (p17_322)) := hD
  have hP := pool_in hP
  have hD := pool_inD hD
  obtain ⟨p24_324, ep24_324⟩ : ∃ p9 : va_W, p9 = (p17_322 ++ nw24_311) := ⟨_, rfl⟩
  rw [← ep24_324] at hP hD
  have hk24_325 : FF (0 ≤ ((T24_310.sz : Nat) : Int)) := Int.natCast_nonneg _
  have hk24_326 : FF (0 ≤ ((T24_310.dep : Nat) : Int)) := Int.natCast_nonneg _
  have hk24_327 : FF (0 ≤ ((T24_310.c4 : Nat) : Int)) := Int.natCast_nonneg _
  have hP : va_P D vwCl ([] ++ (p24_324)) _ := hP
  have hD : va_D A ([] ++ (p24_324)) := hD
  refine W.widen (k := c24_322) (n := k24_323) (Nat.le_of_eq (FF.out ec24_322).symm) (Nat.le_of_eq (FF.out ek24_323).symm) (W.eq (g2 := F0 m 27 ls [.ref T24_310.root, .ref T11_310.root, .int v0]) rfl ?_)
  obtain ⟨m27_1, gm27_1⟩ : ∃ m9 : Nat, m9 + c24_322 = MC := ⟨MC - c24_322, Nat.sub_add_cancel (FF.out mc24_322)⟩
  have em27_1 := FF.mk gm27_1
  obtain ⟨m27_2, gm27_2⟩ : ∃ m9 : Nat, m9 + k24_323 = MS := ⟨MS - k24_323, Nat.sub_add_cancel (FF.out mk24_323)⟩
  have em27_2 := FF.mk gm27_2
  refine gt_q (pl := (p24_324)) (wr := []) [] [] (rt_S (As := [.int v0, .ref T11_310.root, .ref T24_310.root]) (rest := []) (c_X16_onWay l hst D ct m27_1 m27_2 v0 T11_310 T24_310 hp11_315 hp24_315 (show 1 ≤ ((m27_1 : Nat) : Int) by have q0 := FF.out hq0; have q1 := FF.out uc24_322; have q2 := FF.out em27_1; omega) (show 7 ≤ ((m27_2 : Nat) : Int) by have q0 := FF.out hq1; have q1 := FF.out uk24_323; have q2 := FF.out em27_2; omega) _) (cb_of (n := 3) hn mw_2203 mw_13 mw_2201 mhX16_onWay ⟨(Nat.le_of_ble_eq_true rfl), (Nat.le_of_ble_eq_true rfl)⟩) hx hb hml hown hn hK hSK hZ hS mw_2202 rfl hl.1 (Nat.le_of_ble_eq_true rfl) dX16_ports_27 ⟨(Nat.le_of_eq ((Nat.add_comm _ _).trans gm27_1)), (Nat.le_of_eq ((Nat.add_comm _ _).trans gm27_2))⟩) hP hD hS hA rfl rfl (by decide) (by decide) (by decide) (fun xq27_6 ux27_7 xfs27_8 H locs hpx27_9 hpexfs27_8 hP hD hS => ?_) (fun r27_3 u27_4 H locs hp27_5 hP hD hS => ?_)
  · exact hpx27_9.elim
  obtain ⟨T27_310, nw27_311, gb27_312, kc27_313, kn27_314⟩ := u27_4
  obtain ⟨hp27_315, hp27_316, hp27_317, hp27_318, hp27_319, hp27_320, hp27_321, hp27_322⟩ := hp27_5
  subst hp27_315
  replace hp27_318 : FF (((kc27_313 : Nat) : Int) ≤ 1) := hp27_318
  replace hp27_319 : FF (((kn27_314 : Nat) : Int) ≤ 7) := hp27_319
  replace hp27_320 : FF (((T27_310.dep : Nat) : Int) ≤ ((T11_310.dep : Nat) : Int) ∨ ((T27_310.dep : Nat) : Int) ≤ ((T24_310.dep : Nat) : Int)) := hp27_320
  replace hp27_321 : FF (((T27_310.sz : Nat) : Int) ≤ ((T11_310.sz : Nat) : Int) + ((T24_310.sz : Nat) : Int) + 1) := hp27_321
  replace hp27_322 : FF (((T27_310.c4 : Nat) : Int) ≤ ((T11_310.c4 : Nat) : Int) + ((T24_310.c4 : Nat) : Int)) := hp27_322
  obtain ⟨c27_323, ec27_323⟩ : ∃ x9 : Nat, x9 = c24_322 + kc27_313 := ⟨_, rfl⟩
  have ec27_323 := FF.mk ec27_323
  have uc27_323 : FF (((c27_323 : Nat) : Int) ≤ 15) := FF.mk (show ((c27_323 : Nat) : Int) ≤ 15 by have q0 := FF.out uc24_322; have q1 := FF.out hp27_318; have q2 := FF.out ec27_323; omega)
  have mc27_323 : FF (c27_323 ≤ MC) := FF.mk (Int.ofNat_le.mp (show ((c27_323 : Nat) : Int) ≤ ((MC : Nat) : Int) by have q0 := FF.out hq0; have q1 := FF.out uc27_323; omega))
  obtain ⟨k27_324, ek27_324⟩ : ∃ x9 : Nat, x9 = k24_323 + kn27_314 := ⟨_, rfl⟩
  have ek27_324 := FF.mk ek27_324
  have uk27_324 : FF (((k27_324 : Nat) : Int) ≤ 89) := FF.mk (show ((k27_324 : Nat) : Int) ≤ 89 by have q0 := FF.out uk24_323; have q1 := FF.out hp27_319; have q2 := FF.out ek27_324; omega)
  have mk27_324 : FF (k27_324 ≤ MS) := FF.mk (Int.ofNat_le.mp (show ((k27_324 : Nat) : Int) ≤ ((MS : Nat) : Int) by have q0 := FF.out hq1; have q1 := FF.out uk27_324; omega))
  have hP : va_P D vwCl (([] ++ nw27_311) ++ (p24_324)) _ := hP
  have hD : va_D A (([] ++ nw27_311) ++ (p24_324)) := hD
  have hP := pool_in hP
  have hD := pool_inD hD
  obtain ⟨p27_325, ep27_325⟩ : ∃ p9 : va_W, p9 = (p24_324 ++ nw27_311) := ⟨_, rfl⟩
  rw [← ep27_325] at hP hD
  have hk27_326 : FF (0 ≤ ((T27_310.sz : Nat) : Int)) := Int.natCast_nonneg _
  have hk27_327 : FF (0 ≤ ((T27_310.dep : Nat) : Int)) := Int.natCast_nonneg _
  have hk27_328 : FF (0 ≤ ((T27_310.c4 : Nat) : Int)) := Int.natCast_nonneg _
  have hP : va_P D vwCl ([] ++ (p27_325)) _ := hP
  have hD : va_D A ([] ++ (p27_325)) := hD
  refine W.widen (k := c27_323) (n := k27_324) (Nat.le_of_eq (FF.out ec27_323).symm) (Nat.le_of_eq (FF.out ek27_324).symm) (W.eq (g2 := F0 m 30 ls [.ref T27_310.root]) rfl ?_)
  refine lv_astore (lv' := [(6, .ref T27_310.root), (0, .int v0), (1, .long v1), (3, .long v2), (5, .int v3)]) hx hb dX16_ports_30 hl (by decide) rfl (fun ls hl => ?_)
  have hP : va_P D vwCl ([] ++ ((T27_310.cells Z0))) _ := va_Ppre (show va_P D vwCl (([] ++ ((T27_310.cells Z0))) ++ (gb27_312)) _ from hP.perm (seg_perm (fun f => by have w0 := seg_sum (List.Perm.of_eq ep4_322) f; have w1 := seg_sum hp11_316 f; have w2 := seg_sum (List.Perm.of_eq ep11_324) f; have w3 := seg_sum (List.Perm.of_eq ep17_322) f; have w4 := seg_sum hp24_316 f; have w5 := seg_sum (List.Perm.of_eq ep24_324) f; have w6 := seg_sum hp27_317 f; have w7 := seg_sum (List.Perm.of_eq ep27_325) f; simp only [ST.cells_leaf, ST.cells_minus, ST.cells_group, ST.cells_acc, ST.cells_two, FT.cells_two, FT.cells_inv, FT.cells_test, FT.cells_pair, List.map_append, List.sum_append, List.map_nil, List.sum_nil] at w0 w1 w2 w3 w4 w5 w6 w7 ⊢ <;> omega)))
  have hD : va_D A ([] ++ ((T27_310.cells Z0))) := va_Dpre (show va_D A (([] ++ ((T27_310.cells Z0))) ++ (gb27_312)) from hD.perm (seg_perm (fun f => by have w0 := seg_sum (List.Perm.of_eq ep4_322) f; have w1 := seg_sum hp11_316 f; have w2 := seg_sum (List.Perm.of_eq ep11_324) f; have w3 := seg_sum (List.Perm.of_eq ep17_322) f; have w4 := seg_sum hp24_316 f; have w5 := seg_sum (List.Perm.of_eq ep24_324) f; have w6 := seg_sum hp27_317 f; have w7 := seg_sum (List.Perm.of_eq ep27_325) f; simp only [ST.cells_leaf, ST.cells_minus, ST.cells_group, ST.cells_acc, ST.cells_two, FT.cells_two, FT.cells_inv, FT.cells_test, FT.cells_pair, List.map_append, List.sum_append, List.map_nil, List.sum_nil] at w0 w1 w2 w3 w4 w5 w6 w7 ⊢ <;> omega)))
  exact b32 c27_323 k27_324 T27_310 H locs ls (show ((c27_323 : Nat) : Int) ≤ ((MC : Nat) : Int) by have q0 := FF.out hq0; have q1 := FF.out uc27_323; omega) (show ((k27_324 : Nat) : Int) ≤ ((MS : Nat) : Int) by have q0 := FF.out hq1; have q1 := FF.out uk27_324; omega) hp27_316 (show ((c27_323 : Nat) : Int) ≤ 15 by have q0 := FF.out uc27_323; omega) (show ((k27_324 : Nat) : Int) ≤ 89 by have q0 := FF.out uk27_324; omega) (show ((T27_310.sz : Nat) : Int) ≤ 19 by have q0 := FF.out hp4_317; have q1 := FF.out hp11_320; have q2 := FF.out hp17_317; have q3 := FF.out hp24_320; have q4 := FF.out hp27_321; omega) (show ((T27_310.dep : Nat) : Int) ≤ 1 by have q0 := FF.out hp4_318; have q1 := FF.out hp11_319; have q2 := FF.out hp17_318; have q3 := FF.out hp24_319; have q4 := FF.out hp27_320; omega) (show ((T27_310.c4 : Nat) : Int) ≤ 0 by have q0 := FF.out hp4_319; have q1 := FF.out hp11_321; have q2 := FF.out hp17_319; have q3 := FF.out hp24_321; have q4 := FF.out hp27_322; omega) (lv_sub hl [1, 2, 3, 4, 0] rfl) hP hD hS
