set_option maxHeartbeats 2000000 in
theorem c_X14_init_nn (l : Launch) (D : va_G) (ct : Nat → ClassId) (sm : Nat) (v0 : Int32) (v1 : Int64) (v4 : Int32) (x_sm_1 : Int64)  : KV (S := Unit) l yX14_init cX14_init 7 none 2 20 D ct [.ref sm, .int v0, .long v1, .null, .null, .int v4] [(sm, .inr (14, [.int 0, .long x_sm_1, .null, .null, .int 0]))] 0 0 (fun (_ : Unit) => True) (fun (_ : Unit) => [(sm, .inr (14, [.int v0, .long v1, .null, .null, .int v4]))]) := by
  refine KVq_of (by decide) (Nat.le_of_ble_eq_true rfl) (fun p e s m below meth c A Q C0 hA H locs hS hP hD hQ ls hl => ?_)
  obtain ⟨hx, hb, hr, hown, hin, hml, hlocks, hn, hK, hZ, hSK⟩ := C0
  have hl : lv_has ls 7 [(0, .ref sm), (1, .int v0), (2, .long v1), (4, .null), (5, .null), (6, .int v4)] := hl
  refine lv_aload_n hx hb dX14_init_0 rfl (lv_at hl 0 rfl) ?_
  refine W.objInit hx hb hown (hn.get mw_2045 rfl) (hn.get mw_34 rfl) (hn.get mw_oi rfl) rfl (by rw [hml]; exact hl.1) rfl dX14_init_1 (Nat.le_of_ble_eq_true rfl) (Nat.le_of_ble_eq_true rfl) ?_
  refine W.eq (g2 := F0 m 4 ls []) rfl ?_
  refine lv_aload_n hx hb dX14_init_4 rfl (lv_at hl 0 rfl) ?_
  refine lv_iload_n hx hb dX14_init_5 rfl (lv_at hl 1 rfl) ?_
  refine va_putF (D := D) (ci := 14) (v := .int v0) (ty := .int) (C := RX14) (T := TX14) (N := 5) hx hb (htX14 hn) (fun _ h => h) tyX14 tyX14_ok nmX14 hown hK hP hD hS 0 rfl rfl 0 (by decide) (hn.get mw_2046 rfl) (fun _ h9 => h9) rfl hin rfl (by decide +kernel) rfl rfl (Nat.le_of_ble_eq_true rfl) dX14_init_6 (fun H locs hP hD hS => ?_)
  have hP : va_P D vwCl [(sm, .inr (14, [.int v0, .long x_sm_1, .null, .null, .int 0]))] _ := hP
  have hD : va_D A [(sm, .inr (14, [.int v0, .long x_sm_1, .null, .null, .int 0]))] := hD
  refine lv_aload_n hx hb dX14_init_9 rfl (lv_at hl 0 rfl) ?_
  refine lv_lload_n hx hb dX14_init_10 rfl (lv_at hl 2 rfl) ?_
  refine va_putF (D := D) (ci := 14) (v := .long v1) (ty := .long) (C := RX14) (T := TX14) (N := 5) hx hb (htX14 hn) (fun _ h => h) tyX14 tyX14_ok nmX14 hown hK hP hD hS 0 rfl rfl 1 (by decide) (hn.get mw_2048 rfl) (fun _ h9 => h9) rfl hin rfl (by decide +kernel) rfl rfl (Nat.le_of_ble_eq_true rfl) dX14_init_11 (fun H locs hP hD hS => ?_)
  have hP : va_P D vwCl [(sm, .inr (14, [.int v0, .long v1, .null, .null, .int 0]))] _ := hP
  have hD : va_D A [(sm, .inr (14, [.int v0, .long v1, .null, .null, .int 0]))] := hD
  refine lv_aload_n hx hb dX14_init_14 rfl (lv_at hl 0 rfl) ?_
  refine lv_aloadN hx hb dX14_init_15 (lv_at hl 3 rfl) ?_
  refine va_putF (D := D) (ci := 14) (v := .null) (ty := .object "FilterForgeModel$Sum") (C := RX14) (T := TX14) (N := 5) hx hb (htX14 hn) (fun _ h => h) tyX14 tyX14_ok nmX14 hown hK hP hD hS 0 rfl rfl 2 (by decide) (hn.get mw_2050 rfl) (fun _ h9 => h9) rfl hin rfl (by decide +kernel) rfl rfl (Nat.le_of_ble_eq_true rfl) dX14_init_17 (fun H locs hP hD hS => ?_)
  have hP : va_P D vwCl [(sm, .inr (14, [.int v0, .long v1, .null, .null, .int 0]))] _ := hP
  have hD : va_D A [(sm, .inr (14, [.int v0, .long v1, .null, .null, .int 0]))] := hD
  refine lv_aload_n hx hb dX14_init_20 rfl (lv_at hl 0 rfl) ?_
  refine lv_aloadN hx hb dX14_init_21 (lv_at hl 4 rfl) ?_
  refine va_putF (D := D) (ci := 14) (v := .null) (ty := .object "FilterForgeModel$Sum") (C := RX14) (T := TX14) (N := 5) hx hb (htX14 hn) (fun _ h => h) tyX14 tyX14_ok nmX14 hown hK hP hD hS 0 rfl rfl 3 (by decide) (hn.get mw_2052 rfl) (fun _ h9 => h9) rfl hin rfl (by decide +kernel) rfl rfl (Nat.le_of_ble_eq_true rfl) dX14_init_23 (fun H locs hP hD hS => ?_)
  have hP : va_P D vwCl [(sm, .inr (14, [.int v0, .long v1, .null, .null, .int 0]))] _ := hP
  have hD : va_D A [(sm, .inr (14, [.int v0, .long v1, .null, .null, .int 0]))] := hD
  refine lv_aload_n hx hb dX14_init_26 rfl (lv_at hl 0 rfl) ?_
  refine lv_iload hx hb dX14_init_27 (lv_at hl 5 rfl) ?_
  refine va_putF (D := D) (ci := 14) (v := .int v4) (ty := .int) (C := RX14) (T := TX14) (N := 5) hx hb (htX14 hn) (fun _ h => h) tyX14 tyX14_ok nmX14 hown hK hP hD hS 0 rfl rfl 4 (by decide) (hn.get mw_2054 rfl) (fun _ h9 => h9) rfl hin rfl (by decide +kernel) rfl rfl (Nat.le_of_ble_eq_true rfl) dX14_init_29 (fun H locs hP hD hS => ?_)
  have hP : va_P D vwCl [(sm, .inr (14, [.int v0, .long v1, .null, .null, .int v4]))] _ := hP
  have hD : va_D A [(sm, .inr (14, [.int v0, .long v1, .null, .null, .int v4]))] := hD
  exact endq_v hQ hx hb hr hlocks dX14_init_32 () trivial hP hD hS [0] rfl (by decide) rfl (Nat.le_of_ble_eq_true rfl) (Nat.le_of_ble_eq_true rfl)
set_option maxHeartbeats 2000000 in
theorem c_X14_init_rn (l : Launch) (D : va_G) (ct : Nat → ClassId) (sm : Nat) (v0 : Int32) (v1 : Int64) (ra : Nat) (v4 : Int32) (x_sm_1 : Int64)  : KV (S := Unit) l yX14_init cX14_init 7 none 2 20 D ct [.ref sm, .int v0, .long v1, .ref ra, .null, .int v4] [(sm, .inr (14, [.int 0, .long x_sm_1, .null, .null, .int 0]))] 0 0 (fun (_ : Unit) => True) (fun (_ : Unit) => [(sm, .inr (14, [.int v0, .long v1, .ref ra, .null, .int v4]))]) := by
  refine KVq_of (by decide) (Nat.le_of_ble_eq_true rfl) (fun p e s m below meth c A Q C0 hA H locs hS hP hD hQ ls hl => ?_)
  obtain ⟨hx, hb, hr, hown, hin, hml, hlocks, hn, hK, hZ, hSK⟩ := C0
  have hl : lv_has ls 7 [(0, .ref sm), (1, .int v0), (2, .long v1), (4, .ref ra), (5, .null), (6, .int v4)] := hl
  refine lv_aload_n hx hb dX14_init_0 rfl (lv_at hl 0 rfl) ?_
  refine W.objInit hx hb hown (hn.get mw_2045 rfl) (hn.get mw_34 rfl) (hn.get mw_oi rfl) rfl (by rw [hml]; exact hl.1) rfl dX14_init_1 (Nat.le_of_ble_eq_true rfl) (Nat.le_of_ble_eq_true rfl) ?_
  refine W.eq (g2 := F0 m 4 ls []) rfl ?_
  refine lv_aload_n hx hb dX14_init_4 rfl (lv_at hl 0 rfl) ?_
  refine lv_iload_n hx hb dX14_init_5 rfl (lv_at hl 1 rfl) ?_
  refine va_putF (D := D) (ci := 14) (v := .int v0) (ty := .int) (C := RX14) (T := TX14) (N := 5) hx hb (htX14 hn) (fun _ h => h) tyX14 tyX14_ok nmX14 hown hK hP hD hS 0 rfl rfl 0 (by decide) (hn.get mw_2046 rfl) (fun _ h9 => h9) rfl hin rfl (by decide +kernel) rfl rfl (Nat.le_of_ble_eq_true rfl) dX14_init_6 (fun H locs hP hD hS => ?_)
  have hP : va_P D vwCl [(sm, .inr (14, [.int v0, .long x_sm_1, .null, .null, .int 0]))] _ := hP
  have hD : va_D A [(sm, .inr (14, [.int v0, .long x_sm_1, .null, .null, .int 0]))] := hD
  refine lv_aload_n hx hb dX14_init_9 rfl (lv_at hl 0 rfl) ?_
  refine lv_lload_n hx hb dX14_init_10 rfl (lv_at hl 2 rfl) ?_
  refine va_putF (D := D) (ci := 14) (v := .long v1) (ty := .long) (C := RX14) (T := TX14) (N := 5) hx hb (htX14 hn) (fun _ h => h) tyX14 tyX14_ok nmX14 hown hK hP hD hS 0 rfl rfl 1 (by decide) (hn.get mw_2048 rfl) (fun _ h9 => h9) rfl hin rfl (by decide +kernel) rfl rfl (Nat.le_of_ble_eq_true rfl) dX14_init_11 (fun H locs hP hD hS => ?_)
  have hP : va_P D vwCl [(sm, .inr (14, [.int v0, .long v1, .null, .null, .int 0]))] _ := hP
  have hD : va_D A [(sm, .inr (14, [.int v0, .long v1, .null, .null, .int 0]))] := hD
  refine lv_aload_n hx hb dX14_init_14 rfl (lv_at hl 0 rfl) ?_
  refine lv_aload hx hb dX14_init_15 (lv_at hl 3 rfl) ?_
  refine va_putF (D := D) (ci := 14) (v := .ref ra) (ty := .object "FilterForgeModel$Sum") (C := RX14) (T := TX14) (N := 5) hx hb (htX14 hn) (fun _ h => h) tyX14 tyX14_ok nmX14 hown hK hP hD hS 0 rfl rfl 2 (by decide) (hn.get mw_2050 rfl) (fun _ h9 => h9) rfl hin rfl (by decide +kernel) rfl rfl (Nat.le_of_ble_eq_true rfl) dX14_init_17 (fun H locs hP hD hS => ?_)
  have hP : va_P D vwCl [(sm, .inr (14, [.int v0, .long v1, .ref ra, .null, .int 0]))] _ := hP
  have hD : va_D A [(sm, .inr (14, [.int v0, .long v1, .ref ra, .null, .int 0]))] := hD
  refine lv_aload_n hx hb dX14_init_20 rfl (lv_at hl 0 rfl) ?_
  refine lv_aloadN hx hb dX14_init_21 (lv_at hl 4 rfl) ?_
  refine va_putF (D := D) (ci := 14) (v := .null) (ty := .object "FilterForgeModel$Sum") (C := RX14) (T := TX14) (N := 5) hx hb (htX14 hn) (fun _ h => h) tyX14 tyX14_ok nmX14 hown hK hP hD hS 0 rfl rfl 3 (by decide) (hn.get mw_2052 rfl) (fun _ h9 => h9) rfl hin rfl (by decide +kernel) rfl rfl (Nat.le_of_ble_eq_true rfl) dX14_init_23 (fun H locs hP hD hS => ?_)
  have hP : va_P D vwCl [(sm, .inr (14, [.int v0, .long v1, .ref ra, .null, .int 0]))] _ := hP
  have hD : va_D A [(sm, .inr (14, [.int v0, .long v1, .ref ra, .null, .int 0]))] := hD
  refine lv_aload_n hx hb dX14_init_26 rfl (lv_at hl 0 rfl) ?_
  refine lv_iload hx hb dX14_init_27 (lv_at hl 5 rfl) ?_
  refine va_putF (D := D) (ci := 14) (v := .int v4) (ty := .int) (C := RX14) (T := TX14) (N := 5) hx hb (htX14 hn) (fun _ h => h) tyX14 tyX14_ok nmX14 hown hK hP hD hS 0 rfl rfl 4 (by decide) (hn.get mw_2054 rfl) (fun _ h9 => h9) rfl hin rfl (by decide +kernel) rfl rfl (Nat.le_of_ble_eq_true rfl) dX14_init_29 (fun H locs hP hD hS => ?_)
  have hP : va_P D vwCl [(sm, .inr (14, [.int v0, .long v1, .ref ra, .null, .int v4]))] _ := hP
  have hD : va_D A [(sm, .inr (14, [.int v0, .long v1, .ref ra, .null, .int v4]))] := hD
  exact endq_v hQ hx hb hr hlocks dX14_init_32 () trivial hP hD hS [0] rfl (by decide) rfl (Nat.le_of_ble_eq_true rfl) (Nat.le_of_ble_eq_true rfl)
set_option maxHeartbeats 2000000 in
theorem c_X14_init_rr (l : Launch) (D : va_G) (ct : Nat → ClassId) (sm : Nat) (v0 : Int32) (v1 : Int64) (ra : Nat) (rb : Nat) (v4 : Int32) (x_sm_1 : Int64)  : KV (S := Unit) l yX14_init cX14_init 7 none 2 20 D ct [.ref sm, .int v0, .long v1, .ref ra, .ref rb, .int v4] [(sm, .inr (14, [.int 0, .long x_sm_1, .null, .null, .int 0]))] 0 0 (fun (_ : Unit) => True) (fun (_ : Unit) => [(sm, .inr (14, [.int v0, .long v1, .ref ra, .ref rb, .int v4]))]) := by
  refine KVq_of (by decide) (Nat.le_of_ble_eq_true rfl) (fun p e s m below meth c A Q C0 hA H locs hS hP hD hQ ls hl => ?_)
  obtain ⟨hx, hb, hr, hown, hin, hml, hlocks, hn, hK, hZ, hSK⟩ := C0
  have hl : lv_has ls 7 [(0, .ref sm), (1, .int v0), (2, .long v1), (4, .ref ra), (5, .ref rb), (6, .int v4)] := hl
  refine lv_aload_n hx hb dX14_init_0 rfl (lv_at hl 0 rfl) ?_
  refine W.objInit hx hb hown (hn.get mw_2045 rfl) (hn.get mw_34 rfl) (hn.get mw_oi rfl) rfl (by rw [hml]; exact hl.1) rfl dX14_init_1 (Nat.le_of_ble_eq_true rfl) (Nat.le_of_ble_eq_true rfl) ?_
  refine W.eq (g2 := F0 m 4 ls []) rfl ?_
  refine lv_aload_n hx hb dX14_init_4 rfl (lv_at hl 0 rfl) ?_
  refine lv_iload_n hx hb dX14_init_5 rfl (lv_at hl 1 rfl) ?_
  refine va_putF (D := D) (ci := 14) (v := .int v0) (ty := .int) (C := RX14) (T := TX14) (N := 5) hx hb (htX14 hn) (fun _ h => h) tyX14 tyX14_ok nmX14 hown hK hP hD hS 0 rfl rfl 0 (by decide) (hn.get mw_2046 rfl) (fun _ h9 => h9) rfl hin rfl (by decide +kernel) rfl rfl (Nat.le_of_ble_eq_true rfl) dX14_init_6 (fun H locs hP hD hS => ?_)
  have hP : va_P D vwCl [(sm, .inr (14, [.int v0, .long x_sm_1, .null, .null, .int 0]))] _ := hP
  have hD : va_D A [(sm, .inr (14, [.int v0, .long x_sm_1, .null, .null, .int 0]))] := hD
  refine lv_aload_n hx hb dX14_init_9 rfl (lv_at hl 0 rfl) ?_
  refine lv_lload_n hx hb dX14_init_10 rfl (lv_at hl 2 rfl) ?_
  refine va_putF (D := D) (ci := 14) (v := .long v1) (ty := .long) (C := RX14) (T := TX14) (N := 5) hx hb (htX14 hn) (fun _ h => h) tyX14 tyX14_ok nmX14 hown hK hP hD hS 0 rfl rfl 1 (by decide) (hn.get mw_2048 rfl) (fun _ h9 => h9) rfl hin rfl (by decide +kernel) rfl rfl (Nat.le_of_ble_eq_true rfl) dX14_init_11 (fun H locs hP hD hS => ?_)
  have hP : va_P D vwCl [(sm, .inr (14, [.int v0, .long v1, .null, .null, .int 0]))] _ := hP
  have hD : va_D A [(sm, .inr (14, [.int v0, .long v1, .null, .null, .int 0]))] := hD
  refine lv_aload_n hx hb dX14_init_14 rfl (lv_at hl 0 rfl) ?_
  refine lv_aload hx hb dX14_init_15 (lv_at hl 3 rfl) ?_
  refine va_putF (D := D) (ci := 14) (v := .ref ra) (ty := .object "FilterForgeModel$Sum") (C := RX14) (T := TX14) (N := 5) hx hb (htX14 hn) (fun _ h => h) tyX14 tyX14_ok nmX14 hown hK hP hD hS 0 rfl rfl 2 (by decide) (hn.get mw_2050 rfl) (fun _ h9 => h9) rfl hin rfl (by decide +kernel) rfl rfl (Nat.le_of_ble_eq_true rfl) dX14_init_17 (fun H locs hP hD hS => ?_)
  have hP : va_P D vwCl [(sm, .inr (14, [.int v0, .long v1, .ref ra, .null, .int 0]))] _ := hP
  have hD : va_D A [(sm, .inr (14, [.int v0, .long v1, .ref ra, .null, .int 0]))] := hD
  refine lv_aload_n hx hb dX14_init_20 rfl (lv_at hl 0 rfl) ?_
  refine lv_aload hx hb dX14_init_21 (lv_at hl 4 rfl) ?_
  refine va_putF (D := D) (ci := 14) (v := .ref rb) (ty := .object "FilterForgeModel$Sum") (C := RX14) (T := TX14) (N := 5) hx hb (htX14 hn) (fun _ h => h) tyX14 tyX14_ok nmX14 hown hK hP hD hS 0 rfl rfl 3 (by decide) (hn.get mw_2052 rfl) (fun _ h9 => h9) rfl hin rfl (by decide +kernel) rfl rfl (Nat.le_of_ble_eq_true rfl) dX14_init_23 (fun H locs hP hD hS => ?_)
  have hP : va_P D vwCl [(sm, .inr (14, [.int v0, .long v1, .ref ra, .ref rb, .int 0]))] _ := hP
  have hD : va_D A [(sm, .inr (14, [.int v0, .long v1, .ref ra, .ref rb, .int 0]))] := hD
  refine lv_aload_n hx hb dX14_init_26 rfl (lv_at hl 0 rfl) ?_
  refine lv_iload hx hb dX14_init_27 (lv_at hl 5 rfl) ?_
  refine va_putF (D := D) (ci := 14) (v := .int v4) (ty := .int) (C := RX14) (T := TX14) (N := 5) hx hb (htX14 hn) (fun _ h => h) tyX14 tyX14_ok nmX14 hown hK hP hD hS 0 rfl rfl 4 (by decide) (hn.get mw_2054 rfl) (fun _ h9 => h9) rfl hin rfl (by decide +kernel) rfl rfl (Nat.le_of_ble_eq_true rfl) dX14_init_29 (fun H locs hP hD hS => ?_)
  have hP : va_P D vwCl [(sm, .inr (14, [.int v0, .long v1, .ref ra, .ref rb, .int v4]))] _ := hP
  have hD : va_D A [(sm, .inr (14, [.int v0, .long v1, .ref ra, .ref rb, .int v4]))] := hD
  exact endq_v hQ hx hb hr hlocks dX14_init_32 () trivial hP hD hS [0] rfl (by decide) rfl (Nat.le_of_ble_eq_true rfl) (Nat.le_of_ble_eq_true rfl)
set_option maxHeartbeats 2000000 in
theorem c_X12_init_rr (l : Launch) (D : va_G) (ct : Nat → ClassId) (fl : Nat) (v0 : Int32) (ra : Nat) (rb : Nat)  : KV (S := Unit) l yX12_init cX12_init 4 none 2 20 D ct [.ref fl, .int v0, .ref ra, .ref rb] [(fl, .inr (12, [.int 0, .null, .null, .null, .null, .int 0, .int 0]))] 0 0 (fun (_ : Unit) => True) (fun (_ : Unit) => [(fl, .inr (12, [.int v0, .ref ra, .ref rb, .null, .null, .int 0, .int 0]))]) := by
  refine KVq_of (by decide) (Nat.le_of_ble_eq_true rfl) (fun p e s m below meth c A Q C0 hA H locs hS hP hD hQ ls hl => ?_)
  obtain ⟨hx, hb, hr, hown, hin, hml, hlocks, hn, hK, hZ, hSK⟩ := C0
  have hl : lv_has ls 4 [(0, .ref fl), (1, .int v0), (2, .ref ra), (3, .ref rb)] := hl
  refine lv_aload_n hx hb dX12_init_0 rfl (lv_at hl 0 rfl) ?_
  refine W.objInit hx hb hown (hn.get mw_1973 rfl) (hn.get mw_34 rfl) (hn.get mw_oi rfl) rfl (by rw [hml]; exact hl.1) rfl dX12_init_1 (Nat.le_of_ble_eq_true rfl) (Nat.le_of_ble_eq_true rfl) ?_
  refine W.eq (g2 := F0 m 4 ls []) rfl ?_
  refine lv_aload_n hx hb dX12_init_4 rfl (lv_at hl 0 rfl) ?_
  refine lv_iload_n hx hb dX12_init_5 rfl (lv_at hl 1 rfl) ?_
  refine va_putF (D := D) (ci := 12) (v := .int v0) (ty := .int) (C := RX12) (T := TX12) (N := 7) hx hb (htX12 hn) (fun _ h => h) tyX12 tyX12_ok nmX12 hown hK hP hD hS 0 rfl rfl 0 (by decide) (hn.get mw_1974 rfl) (fun _ h9 => h9) rfl hin rfl (by decide +kernel) rfl rfl (Nat.le_of_ble_eq_true rfl) dX12_init_6 (fun H locs hP hD hS => ?_)
  have hP : va_P D vwCl [(fl, .inr (12, [.int v0, .null, .null, .null, .null, .int 0, .int 0]))] _ := hP
  have hD : va_D A [(fl, .inr (12, [.int v0, .null, .null, .null, .null, .int 0, .int 0]))] := hD
  refine lv_aload_n hx hb dX12_init_9 rfl (lv_at hl 0 rfl) ?_
  refine lv_aload_n hx hb dX12_init_10 rfl (lv_at hl 2 rfl) ?_
  refine va_putF (D := D) (ci := 12) (v := .ref ra) (ty := .object "FilterForgeModel$Filter") (C := RX12) (T := TX12) (N := 7) hx hb (htX12 hn) (fun _ h => h) tyX12 tyX12_ok nmX12 hown hK hP hD hS 0 rfl rfl 1 (by decide) (hn.get mw_1976 rfl) (fun _ h9 => h9) rfl hin rfl (by decide +kernel) rfl rfl (Nat.le_of_ble_eq_true rfl) dX12_init_11 (fun H locs hP hD hS => ?_)
  have hP : va_P D vwCl [(fl, .inr (12, [.int v0, .ref ra, .null, .null, .null, .int 0, .int 0]))] _ := hP
  have hD : va_D A [(fl, .inr (12, [.int v0, .ref ra, .null, .null, .null, .int 0, .int 0]))] := hD
  refine lv_aload_n hx hb dX12_init_14 rfl (lv_at hl 0 rfl) ?_
  refine lv_aload_n hx hb dX12_init_15 rfl (lv_at hl 3 rfl) ?_
  refine va_putF (D := D) (ci := 12) (v := .ref rb) (ty := .object "FilterForgeModel$Filter") (C := RX12) (T := TX12) (N := 7) hx hb (htX12 hn) (fun _ h => h) tyX12 tyX12_ok nmX12 hown hK hP hD hS 0 rfl rfl 2 (by decide) (hn.get mw_1978 rfl) (fun _ h9 => h9) rfl hin rfl (by decide +kernel) rfl rfl (Nat.le_of_ble_eq_true rfl) dX12_init_16 (fun H locs hP hD hS => ?_)
  have hP : va_P D vwCl [(fl, .inr (12, [.int v0, .ref ra, .ref rb, .null, .null, .int 0, .int 0]))] _ := hP
  have hD : va_D A [(fl, .inr (12, [.int v0, .ref ra, .ref rb, .null, .null, .int 0, .int 0]))] := hD
  refine lv_aload_n hx hb dX12_init_19 rfl (lv_at hl 0 rfl) ?_
  refine lv_null hx hb dX12_init_20 ?_
  refine va_putF (D := D) (ci := 12) (v := .null) (ty := .object "FilterForgeModel$Sum") (C := RX12) (T := TX12) (N := 7) hx hb (htX12 hn) (fun _ h => h) tyX12 tyX12_ok nmX12 hown hK hP hD hS 0 rfl rfl 3 (by decide) (hn.get mw_1980 rfl) (fun _ h9 => h9) rfl hin rfl (by decide +kernel) rfl rfl (Nat.le_of_ble_eq_true rfl) dX12_init_21 (fun H locs hP hD hS => ?_)
  have hP : va_P D vwCl [(fl, .inr (12, [.int v0, .ref ra, .ref rb, .null, .null, .int 0, .int 0]))] _ := hP
  have hD : va_D A [(fl, .inr (12, [.int v0, .ref ra, .ref rb, .null, .null, .int 0, .int 0]))] := hD
  refine lv_aload_n hx hb dX12_init_24 rfl (lv_at hl 0 rfl) ?_
  refine lv_null hx hb dX12_init_25 ?_
  refine va_putF (D := D) (ci := 12) (v := .null) (ty := .object "FilterForgeModel$Sum") (C := RX12) (T := TX12) (N := 7) hx hb (htX12 hn) (fun _ h => h) tyX12 tyX12_ok nmX12 hown hK hP hD hS 0 rfl rfl 4 (by decide) (hn.get mw_1982 rfl) (fun _ h9 => h9) rfl hin rfl (by decide +kernel) rfl rfl (Nat.le_of_ble_eq_true rfl) dX12_init_26 (fun H locs hP hD hS => ?_)
  have hP : va_P D vwCl [(fl, .inr (12, [.int v0, .ref ra, .ref rb, .null, .null, .int 0, .int 0]))] _ := hP
  have hD : va_D A [(fl, .inr (12, [.int v0, .ref ra, .ref rb, .null, .null, .int 0, .int 0]))] := hD
  refine lv_aload_n hx hb dX12_init_29 rfl (lv_at hl 0 rfl) ?_
  refine lv_iconst (v := 0) hx hb dX12_init_30 (by decide) ?_
  refine va_putF (D := D) (ci := 12) (v := .int 0) (ty := .int) (C := RX12) (T := TX12) (N := 7) hx hb (htX12 hn) (fun _ h => h) tyX12 tyX12_ok nmX12 hown hK hP hD hS 0 rfl rfl 5 (by decide) (hn.get mw_1984 rfl) (fun _ h9 => h9) rfl hin rfl (by decide +kernel) rfl rfl (Nat.le_of_ble_eq_true rfl) dX12_init_31 (fun H locs hP hD hS => ?_)
  have hP : va_P D vwCl [(fl, .inr (12, [.int v0, .ref ra, .ref rb, .null, .null, .int 0, .int 0]))] _ := hP
  have hD : va_D A [(fl, .inr (12, [.int v0, .ref ra, .ref rb, .null, .null, .int 0, .int 0]))] := hD
  exact endq_v hQ hx hb hr hlocks dX12_init_34 () trivial hP hD hS [0] rfl (by decide) rfl (Nat.le_of_ble_eq_true rfl) (Nat.le_of_ble_eq_true rfl)
set_option maxHeartbeats 2000000 in
theorem c_X12_init_rn (l : Launch) (D : va_G) (ct : Nat → ClassId) (fl : Nat) (v0 : Int32) (ra : Nat)  : KV (S := Unit) l yX12_init cX12_init 4 none 2 20 D ct [.ref fl, .int v0, .ref ra, .null] [(fl, .inr (12, [.int 0, .null, .null, .null, .null, .int 0, .int 0]))] 0 0 (fun (_ : Unit) => True) (fun (_ : Unit) => [(fl, .inr (12, [.int v0, .ref ra, .null, .null, .null, .int 0, .int 0]))]) := by
  refine KVq_of (by decide) (Nat.le_of_ble_eq_true rfl) (fun p e s m below meth c A Q C0 hA H locs hS hP hD hQ ls hl => ?_)
  obtain ⟨hx, hb, hr, hown, hin, hml, hlocks, hn, hK, hZ, hSK⟩ := C0
  have hl : lv_has ls 4 [(0, .ref fl), (1, .int v0), (2, .ref ra), (3, .null)] := hl
  refine lv_aload_n hx hb dX12_init_0 rfl (lv_at hl 0 rfl) ?_
  refine W.objInit hx hb hown (hn.get mw_1973 rfl) (hn.get mw_34 rfl) (hn.get mw_oi rfl) rfl (by rw [hml]; exact hl.1) rfl dX12_init_1 (Nat.le_of_ble_eq_true rfl) (Nat.le_of_ble_eq_true rfl) ?_
  refine W.eq (g2 := F0 m 4 ls []) rfl ?_
  refine lv_aload_n hx hb dX12_init_4 rfl (lv_at hl 0 rfl) ?_
  refine lv_iload_n hx hb dX12_init_5 rfl (lv_at hl 1 rfl) ?_
  refine va_putF (D := D) (ci := 12) (v := .int v0) (ty := .int) (C := RX12) (T := TX12) (N := 7) hx hb (htX12 hn) (fun _ h => h) tyX12 tyX12_ok nmX12 hown hK hP hD hS 0 rfl rfl 0 (by decide) (hn.get mw_1974 rfl) (fun _ h9 => h9) rfl hin rfl (by decide +kernel) rfl rfl (Nat.le_of_ble_eq_true rfl) dX12_init_6 (fun H locs hP hD hS => ?_)
  have hP : va_P D vwCl [(fl, .inr (12, [.int v0, .null, .null, .null, .null, .int 0, .int 0]))] _ := hP
  have hD : va_D A [(fl, .inr (12, [.int v0, .null, .null, .null, .null, .int 0, .int 0]))] := hD
  refine lv_aload_n hx hb dX12_init_9 rfl (lv_at hl 0 rfl) ?_
  refine lv_aload_n hx hb dX12_init_10 rfl (lv_at hl 2 rfl) ?_
  refine va_putF (D := D) (ci := 12) (v := .ref ra) (ty := .object "FilterForgeModel$Filter") (C := RX12) (T := TX12) (N := 7) hx hb (htX12 hn) (fun _ h => h) tyX12 tyX12_ok nmX12 hown hK hP hD hS 0 rfl rfl 1 (by decide) (hn.get mw_1976 rfl) (fun _ h9 => h9) rfl hin rfl (by decide +kernel) rfl rfl (Nat.le_of_ble_eq_true rfl) dX12_init_11 (fun H locs hP hD hS => ?_)
  have hP : va_P D vwCl [(fl, .inr (12, [.int v0, .ref ra, .null, .null, .null, .int 0, .int 0]))] _ := hP
  have hD : va_D A [(fl, .inr (12, [.int v0, .ref ra, .null, .null, .null, .int 0, .int 0]))] := hD
  refine lv_aload_n hx hb dX12_init_14 rfl (lv_at hl 0 rfl) ?_
  refine lv_aload_nN hx hb dX12_init_15 rfl (lv_at hl 3 rfl) ?_
  refine va_putF (D := D) (ci := 12) (v := .null) (ty := .object "FilterForgeModel$Filter") (C := RX12) (T := TX12) (N := 7) hx hb (htX12 hn) (fun _ h => h) tyX12 tyX12_ok nmX12 hown hK hP hD hS 0 rfl rfl 2 (by decide) (hn.get mw_1978 rfl) (fun _ h9 => h9) rfl hin rfl (by decide +kernel) rfl rfl (Nat.le_of_ble_eq_true rfl) dX12_init_16 (fun H locs hP hD hS => ?_)
  have hP : va_P D vwCl [(fl, .inr (12, [.int v0, .ref ra, .null, .null, .null, .int 0, .int 0]))] _ := hP
  have hD : va_D A [(fl, .inr (12, [.int v0, .ref ra, .null, .null, .null, .int 0, .int 0]))] := hD
  refine lv_aload_n hx hb dX12_init_19 rfl (lv_at hl 0 rfl) ?_
  refine lv_null hx hb dX12_init_20 ?_
  refine va_putF (D := D) (ci := 12) (v := .null) (ty := .object "FilterForgeModel$Sum") (C := RX12) (T := TX12) (N := 7) hx hb (htX12 hn) (fun _ h => h) tyX12 tyX12_ok nmX12 hown hK hP hD hS 0 rfl rfl 3 (by decide) (hn.get mw_1980 rfl) (fun _ h9 => h9) rfl hin rfl (by decide +kernel) rfl rfl (Nat.le_of_ble_eq_true rfl) dX12_init_21 (fun H locs hP hD hS => ?_)
  have hP : va_P D vwCl [(fl, .inr (12, [.int v0, .ref ra, .null, .null, .null, .int 0, .int 0]))] _ := hP
  have hD : va_D A [(fl, .inr (12, [.int v0, .ref ra, .null, .null, .null, .int 0, .int 0]))] := hD
  refine lv_aload_n hx hb dX12_init_24 rfl (lv_at hl 0 rfl) ?_
  refine lv_null hx hb dX12_init_25 ?_
  refine va_putF (D := D) (ci := 12) (v := .null) (ty := .object "FilterForgeModel$Sum") (C := RX12) (T := TX12) (N := 7) hx hb (htX12 hn) (fun _ h => h) tyX12 tyX12_ok nmX12 hown hK hP hD hS 0 rfl rfl 4 (by decide) (hn.get mw_1982 rfl) (fun _ h9 => h9) rfl hin rfl (by decide +kernel) rfl rfl (Nat.le_of_ble_eq_true rfl) dX12_init_26 (fun H locs hP hD hS => ?_)
  have hP : va_P D vwCl [(fl, .inr (12, [.int v0, .ref ra, .null, .null, .null, .int 0, .int 0]))] _ := hP
  have hD : va_D A [(fl, .inr (12, [.int v0, .ref ra, .null, .null, .null, .int 0, .int 0]))] := hD
  refine lv_aload_n hx hb dX12_init_29 rfl (lv_at hl 0 rfl) ?_
  refine lv_iconst (v := 0) hx hb dX12_init_30 (by decide) ?_
  refine va_putF (D := D) (ci := 12) (v := .int 0) (ty := .int) (C := RX12) (T := TX12) (N := 7) hx hb (htX12 hn) (fun _ h => h) tyX12 tyX12_ok nmX12 hown hK hP hD hS 0 rfl rfl 5 (by decide) (hn.get mw_1984 rfl) (fun _ h9 => h9) rfl hin rfl (by decide +kernel) rfl rfl (Nat.le_of_ble_eq_true rfl) dX12_init_31 (fun H locs hP hD hS => ?_)
  have hP : va_P D vwCl [(fl, .inr (12, [.int v0, .ref ra, .null, .null, .null, .int 0, .int 0]))] _ := hP
  have hD : va_D A [(fl, .inr (12, [.int v0, .ref ra, .null, .null, .null, .int 0, .int 0]))] := hD
  exact endq_v hQ hx hb hr hlocks dX12_init_34 () trivial hP hD hS [0] rfl (by decide) rfl (Nat.le_of_ble_eq_true rfl) (Nat.le_of_ble_eq_true rfl)
set_option maxHeartbeats 2000000 in
theorem c_X12_init__rr (l : Launch) (D : va_G) (ct : Nat → ClassId) (fl : Nat) (ra : Nat) (v1 : Int32) (rb : Nat)  : KV (S := Unit) l yX12_init_ cX12_init_ 4 none 2 20 D ct [.ref fl, .ref ra, .int v1, .ref rb] [(fl, .inr (12, [.int 0, .null, .null, .null, .null, .int 0, .int 0]))] 0 0 (fun (_ : Unit) => True) (fun (_ : Unit) => [(fl, .inr (12, [.int 0, .null, .null, .ref ra, .ref rb, .int v1, .int 0]))]) := by
  refine KVq_of (by decide) (Nat.le_of_ble_eq_true rfl) (fun p e s m below meth c A Q C0 hA H locs hS hP hD hQ ls hl => ?_)
  obtain ⟨hx, hb, hr, hown, hin, hml, hlocks, hn, hK, hZ, hSK⟩ := C0
  have hl : lv_has ls 4 [(0, .ref fl), (1, .ref ra), (2, .int v1), (3, .ref rb)] := hl
  refine lv_aload_n hx hb dX12_init__0 rfl (lv_at hl 0 rfl) ?_
  refine W.objInit hx hb hown (hn.get mw_1973 rfl) (hn.get mw_34 rfl) (hn.get mw_oi rfl) rfl (by rw [hml]; exact hl.1) rfl dX12_init__1 (Nat.le_of_ble_eq_true rfl) (Nat.le_of_ble_eq_true rfl) ?_
  refine W.eq (g2 := F0 m 4 ls []) rfl ?_
  refine lv_aload_n hx hb dX12_init__4 rfl (lv_at hl 0 rfl) ?_
  refine lv_iconst (v := 0) hx hb dX12_init__5 (by decide) ?_
  refine va_putF (D := D) (ci := 12) (v := .int 0) (ty := .int) (C := RX12) (T := TX12) (N := 7) hx hb (htX12 hn) (fun _ h => h) tyX12 tyX12_ok nmX12 hown hK hP hD hS 0 rfl rfl 0 (by decide) (hn.get mw_1974 rfl) (fun _ h9 => h9) rfl hin rfl (by decide +kernel) rfl rfl (Nat.le_of_ble_eq_true rfl) dX12_init__6 (fun H locs hP hD hS => ?_)
  have hP : va_P D vwCl [(fl, .inr (12, [.int 0, .null, .null, .null, .null, .int 0, .int 0]))] _ := hP
  have hD : va_D A [(fl, .inr (12, [.int 0, .null, .null, .null, .null, .int 0, .int 0]))] := hD
  refine lv_aload_n hx hb dX12_init__9 rfl (lv_at hl 0 rfl) ?_
  refine lv_null hx hb dX12_init__10 ?_
  refine va_putF (D := D) (ci := 12) (v := .null) (ty := .object "FilterForgeModel$Filter") (C := RX12) (T := TX12) (N := 7) hx hb (htX12 hn) (fun _ h => h) tyX12 tyX12_ok nmX12 hown hK hP hD hS 0 rfl rfl 1 (by decide) (hn.get mw_1976 rfl) (fun _ h9 => h9) rfl hin rfl (by decide +kernel) rfl rfl (Nat.le_of_ble_eq_true rfl) dX12_init__11 (fun H locs hP hD hS => ?_)
  have hP : va_P D vwCl [(fl, .inr (12, [.int 0, .null, .null, .null, .null, .int 0, .int 0]))] _ := hP
  have hD : va_D A [(fl, .inr (12, [.int 0, .null, .null, .null, .null, .int 0, .int 0]))] := hD
  refine lv_aload_n hx hb dX12_init__14 rfl (lv_at hl 0 rfl) ?_
  refine lv_null hx hb dX12_init__15 ?_
  refine va_putF (D := D) (ci := 12) (v := .null) (ty := .object "FilterForgeModel$Filter") (C := RX12) (T := TX12) (N := 7) hx hb (htX12 hn) (fun _ h => h) tyX12 tyX12_ok nmX12 hown hK hP hD hS 0 rfl rfl 2 (by decide) (hn.get mw_1978 rfl) (fun _ h9 => h9) rfl hin rfl (by decide +kernel) rfl rfl (Nat.le_of_ble_eq_true rfl) dX12_init__16 (fun H locs hP hD hS => ?_)
  have hP : va_P D vwCl [(fl, .inr (12, [.int 0, .null, .null, .null, .null, .int 0, .int 0]))] _ := hP
  have hD : va_D A [(fl, .inr (12, [.int 0, .null, .null, .null, .null, .int 0, .int 0]))] := hD
  refine lv_aload_n hx hb dX12_init__19 rfl (lv_at hl 0 rfl) ?_
  refine lv_aload_n hx hb dX12_init__20 rfl (lv_at hl 1 rfl) ?_
  refine va_putF (D := D) (ci := 12) (v := .ref ra) (ty := .object "FilterForgeModel$Sum") (C := RX12) (T := TX12) (N := 7) hx hb (htX12 hn) (fun _ h => h) tyX12 tyX12_ok nmX12 hown hK hP hD hS 0 rfl rfl 3 (by decide) (hn.get mw_1980 rfl) (fun _ h9 => h9) rfl hin rfl (by decide +kernel) rfl rfl (Nat.le_of_ble_eq_true rfl) dX12_init__21 (fun H locs hP hD hS => ?_)
  have hP : va_P D vwCl [(fl, .inr (12, [.int 0, .null, .null, .ref ra, .null, .int 0, .int 0]))] _ := hP
  have hD : va_D A [(fl, .inr (12, [.int 0, .null, .null, .ref ra, .null, .int 0, .int 0]))] := hD
  refine lv_aload_n hx hb dX12_init__24 rfl (lv_at hl 0 rfl) ?_
  refine lv_aload_n hx hb dX12_init__25 rfl (lv_at hl 3 rfl) ?_
  refine va_putF (D := D) (ci := 12) (v := .ref rb) (ty := .object "FilterForgeModel$Sum") (C := RX12) (T := TX12) (N := 7) hx hb (htX12 hn) (fun _ h => h) tyX12 tyX12_ok nmX12 hown hK hP hD hS 0 rfl rfl 4 (by decide) (hn.get mw_1982 rfl) (fun _ h9 => h9) rfl hin rfl (by decide +kernel) rfl rfl (Nat.le_of_ble_eq_true rfl) dX12_init__26 (fun H locs hP hD hS => ?_)
  have hP : va_P D vwCl [(fl, .inr (12, [.int 0, .null, .null, .ref ra, .ref rb, .int 0, .int 0]))] _ := hP
  have hD : va_D A [(fl, .inr (12, [.int 0, .null, .null, .ref ra, .ref rb, .int 0, .int 0]))] := hD
  refine lv_aload_n hx hb dX12_init__29 rfl (lv_at hl 0 rfl) ?_
  refine lv_iload_n hx hb dX12_init__30 rfl (lv_at hl 2 rfl) ?_
  refine va_putF (D := D) (ci := 12) (v := .int v1) (ty := .int) (C := RX12) (T := TX12) (N := 7) hx hb (htX12 hn) (fun _ h => h) tyX12 tyX12_ok nmX12 hown hK hP hD hS 0 rfl rfl 5 (by decide) (hn.get mw_1984 rfl) (fun _ h9 => h9) rfl hin rfl (by decide +kernel) rfl rfl (Nat.le_of_ble_eq_true rfl) dX12_init__31 (fun H locs hP hD hS => ?_)
  have hP : va_P D vwCl [(fl, .inr (12, [.int 0, .null, .null, .ref ra, .ref rb, .int v1, .int 0]))] _ := hP
  have hD : va_D A [(fl, .inr (12, [.int 0, .null, .null, .ref ra, .ref rb, .int v1, .int 0]))] := hD
  exact endq_v hQ hx hb hr hlocks dX12_init__34 () trivial hP hD hS [0] rfl (by decide) rfl (Nat.le_of_ble_eq_true rfl) (Nat.le_of_ble_eq_true rfl)
set_option maxHeartbeats 2000000 in
theorem c_X16_n (l : Launch) (hst : l.stackTraces = false) (D : va_G) (ct : Nat → ClassId) (MC : Nat) (MS : Nat) (v0 : Int64) (hq0 : 1 ≤ ((MC : Nat) : Int)) (hq1 : 5 ≤ ((MS : Nat) : Int)) : KT (V := Nat) (S := ST × Nat × Nat) (SX := Unit) l yX16_n cX16_n 2 (some (.object "FilterForgeModel$Sum")) 3 46 D ct [.long v0] [] MC MS (fun r : Nat => some (.ref r)) (fun (r : Nat) (u : ST × Nat × Nat) => match u with | (T, kc, kn) => r = T.root ∧ T.ok ∧ (((kc : Nat) : Int) ≤ 1) ∧ (((kn : Nat) : Int) ≤ 5) ∧ (((T.sz : Nat) : Int) ≤ 1) ∧ (((T.dep : Nat) : Int) ≤ 0) ∧ (((T.c4 : Nat) : Int) ≤ 0)) (fun (u : ST × Nat × Nat) => match u with | (T, kc, kn) => [] ++ (T.cells)) (fun (u : ST × Nat × Nat) => match u with | (T, kc, kn) => kc) (fun (u : ST × Nat × Nat) => match u with | (T, kc, kn) => kn) 15 RX15 peW (fun _ => False) (fun _ => []) := by
  refine KT_of (by decide) (Nat.le_of_ble_eq_true rfl) (fun p e s m below meth c A Q C0 htab hA H locs hS hP hD hQ ls hl => ?_)
  obtain ⟨hx, hb, hr, hown, hin, hml, hlocks, hn, hK, hZ, hSK⟩ := C0
  have hl : lv_has ls 2 [(0, .long v0)] := hl
  have hP : va_P D vwCl ([] ++ (([] : va_W))) H := by rw [List.append_nil]; exact hP
  have hD : va_D A ([] ++ (([] : va_W))) := by rw [List.append_nil]; exact hD
  replace hq0 := FF.mk hq0
  replace hq1 := FF.mk hq1
  obtain ⟨c0_2, ec0_2⟩ : ∃ x9 : Nat, x9 = 0 + 1 := ⟨_, rfl⟩
  have ec0_2 := FF.mk ec0_2
  have uc0_2 : FF (((c0_2 : Nat) : Int) ≤ 1) := FF.mk (show ((c0_2 : Nat) : Int) ≤ 1 by have q0 := FF.out ec0_2; omega)
  have mc0_2 : FF (c0_2 ≤ MC) := FF.mk (Int.ofNat_le.mp (show ((c0_2 : Nat) : Int) ≤ ((MC : Nat) : Int) by have q0 := FF.out hq0; have q1 := FF.out uc0_2; omega))
  obtain ⟨k0_3, ek0_3⟩ : ∃ x9 : Nat, x9 = 0 + 5 := ⟨_, rfl⟩
  have ek0_3 := FF.mk ek0_3
  have uk0_3 : FF (((k0_3 : Nat) : Int) ≤ 5) := FF.mk (show ((k0_3 : Nat) : Int) ≤ 5 by have q0 := FF.out ek0_3; omega)
  have mk0_3 : FF (k0_3 ≤ MS) := FF.mk (Int.ofNat_le.mp (show ((k0_3 : Nat) : Int) ≤ ((MS : Nat) : Int) by have q0 := FF.out hq1; have q1 := FF.out uk0_3; omega))
  refine nw_O (k1 := c0_2) (n1 := k0_3) (ci := 14) hx hb (htX14 hn) (fun _ h => h) tyX14 tyX14_ok hown (hn.get mw_1535 rfl) (hn.get mw_2041 rfl) (hn.get mw_23 rfl) hK hP hD hS hA rfl dfX14 (Nat.le_of_eq (FF.out ec0_2).symm) (Nat.le_of_eq (FF.out ek0_3).symm) (FF.out mc0_2) (FF.out mk0_3) dX16_n_0 (fun q0_1 H hP hD hS => ?_)
  have hP : va_P D vwCl ([(q0_1, .inr (14, [.int 0, .long 0, .null, .null, .int 0]))] ++ (([] : va_W))) _ := hP
  have hD : va_D A ([(q0_1, .inr (14, [.int 0, .long 0, .null, .null, .int 0]))] ++ (([] : va_W))) := hD
  refine lv_dup hx hb dX16_n_3 rfl ?_
  refine lv_iconst (v := 0) hx hb dX16_n_4 (by decide) ?_
  refine lv_lload_n hx hb dX16_n_5 rfl (lv_at hl 0 rfl) ?_
  refine lv_null hx hb dX16_n_6 ?_
  refine lv_null hx hb dX16_n_7 ?_
  refine lv_iconst (v := 0) hx hb dX16_n_8 (by decide) ?_
  refine gq_v (k1 := c0_2) (n1 := k0_3) (wr := []) [0] [] (rn_I (As := [.int 0, .long v0, .null, .null, .int 0]) (rest := [.ref q0_1]) (c_X14_init_nn l D ct q0_1 (0 : Int32) v0 (0 : Int32) (0 : Int64)  _) (cb_of (n := 5) hn mw_2044 mw_23 mw_2042 mhX14_init ⟨(Nat.le_of_ble_eq_true rfl), (Nat.le_of_ble_eq_true rfl)⟩) hx hb hml hown hn hK hSK hZ hS mw_2043 rfl rfl hl.1 (Nat.le_of_ble_eq_true rfl) dX16_n_9 ⟨(FF.out mc0_2), (FF.out mk0_3)⟩) hP hD hS hA rfl rfl (by decide) (by decide) (by decide) (Nat.le_refl _) (Nat.le_refl _) (fun u9_2 H locs hp9_3 hP hD hS => ?_)
  have hP : va_P D vwCl ([(q0_1, .inr (14, [.int 0, .long v0, .null, .null, .int 0]))] ++ (([] : va_W))) _ := hP
  have hD : va_D A ([(q0_1, .inr (14, [.int 0, .long v0, .null, .null, .int 0]))] ++ (([] : va_W))) := hD
  have hP : va_P D vwCl (([] ++ [(q0_1, ST.ent (ST.leaf q0_1 false v0))]) ++ (([] : va_W))) _ := hP
  have hD : va_D A (([] ++ [(q0_1, ST.ent (ST.leaf q0_1 false v0))]) ++ (([] : va_W))) := hD
  have hP := pool_in hP
  have hD := pool_inD hD
  obtain ⟨p9_4, ep9_4⟩ : ∃ p9 : va_W, p9 = (([] : va_W) ++ [(q0_1, ST.ent (ST.leaf q0_1 false v0))]) := ⟨_, rfl⟩
  rw [← ep9_4] at hP hD
  have hP : va_P D vwCl ([] ++ (p9_4)) _ := hP
  have hD : va_D A ([] ++ (p9_4)) := hD
  have hk9_5 : FF ((((ST.leaf q0_1 false v0).sz : Nat) : Int) = 1) := (FF.mk (by simp only [ST.sz_leaf, ST.sz_minus, ST.sz_group, ST.sz_acc, ST.sz_two, ST.dep_leaf, ST.dep_minus, ST.dep_group, ST.dep_acc, ST.dep_two, ST.c4_leaf, ST.c4_minus, ST.c4_group, ST.c4_acc, ST.c4_two, FT.sz_test, FT.sz_inv, FT.sz_two, FT.sz_pair, FT.dep_test, FT.dep_inv, FT.dep_two, FT.dep_pair, FT.c4_test, FT.c4_inv, FT.c4_two, FT.c4_pair]; first | omega | (rw [if_neg (by decide)]; omega) | (rw [if_pos (by decide)]; omega) | (split <;> omega) | skip))
  have hk9_6 : FF (0 = (((ST.leaf q0_1 false v0).dep : Nat) : Int)) := (FF.mk (by simp only [ST.sz_leaf, ST.sz_minus, ST.sz_group, ST.sz_acc, ST.sz_two, ST.dep_leaf, ST.dep_minus, ST.dep_group, ST.dep_acc, ST.dep_two, ST.c4_leaf, ST.c4_minus, ST.c4_group, ST.c4_acc, ST.c4_two, FT.sz_test, FT.sz_inv, FT.sz_two, FT.sz_pair, FT.dep_test, FT.dep_inv, FT.dep_two, FT.dep_pair, FT.c4_test, FT.c4_inv, FT.c4_two, FT.c4_pair]; first | omega | (rw [if_neg (by decide)]; omega) | (rw [if_pos (by decide)]; omega) | (split <;> omega) | skip))
  have hk9_7 : FF ((((ST.leaf q0_1 false v0).c4 : Nat) : Int) = 0) := (FF.mk (by simp only [ST.sz_leaf, ST.sz_minus, ST.sz_group, ST.sz_acc, ST.sz_two, ST.dep_leaf, ST.dep_minus, ST.dep_group, ST.dep_acc, ST.dep_two, ST.c4_leaf, ST.c4_minus, ST.c4_group, ST.c4_acc, ST.c4_two, FT.sz_test, FT.sz_inv, FT.sz_two, FT.sz_pair, FT.dep_test, FT.dep_inv, FT.dep_two, FT.dep_pair, FT.c4_test, FT.c4_inv, FT.c4_two, FT.c4_pair]; first | omega | (rw [if_neg (by decide)]; omega) | (rw [if_pos (by decide)]; omega) | (split <;> omega) | skip))
  have hP : va_P D vwCl ([] ++ ((ST.leaf q0_1 false v0).cells)) _ := hP.perm (seg_perm (fun f => by have w0 := seg_sum (List.Perm.of_eq ep9_4) f; simp only [ST.cells_leaf, ST.cells_minus, ST.cells_group, ST.cells_acc, ST.cells_two, FT.cells_two, FT.cells_inv, FT.cells_test, FT.cells_pair, List.map_append, List.sum_append, List.map_nil, List.sum_nil] at w0 ⊢ <;> omega))
  have hD : va_D A ([] ++ ((ST.leaf q0_1 false v0).cells)) := hD.perm (seg_perm (fun f => by have w0 := seg_sum (List.Perm.of_eq ep9_4) f; simp only [ST.cells_leaf, ST.cells_minus, ST.cells_group, ST.cells_acc, ST.cells_two, FT.cells_two, FT.cells_inv, FT.cells_test, FT.cells_pair, List.map_append, List.sum_append, List.map_nil, List.sum_nil] at w0 ⊢ <;> omega))
  exact et_r (SX := Unit) hQ hx hb hr hlocks dX16_n_12 ((ST.leaf q0_1 false v0), c0_2, k0_3) ⟨rfl, (ST.ok_leaf), (show ((c0_2 : Nat) : Int) ≤ 1 by have q0 := FF.out uc0_2; omega), (show ((k0_3 : Nat) : Int) ≤ 5 by have q0 := FF.out uk0_3; omega), (show (((ST.leaf q0_1 false v0).sz : Nat) : Int) ≤ 1 by have q0 := FF.out hk9_5; omega), (show (((ST.leaf q0_1 false v0).dep : Nat) : Int) ≤ 0 by have q0 := FF.out hk9_6; omega), (show (((ST.leaf q0_1 false v0).c4 : Nat) : Int) ≤ 0 by have q0 := FF.out hk9_7; omega)⟩ hP hD hS [] (by decide) rfl (Nat.le_refl _) (Nat.le_refl _) (FF.out mc0_2) (FF.out mk0_3)
set_option maxHeartbeats 2000000 in
theorem c_X16_read (l : Launch) (hst : l.stackTraces = false) (D : va_G) (ct : Nat → ClassId) (MC : Nat) (MS : Nat) (v0 : Int64) (v1 : Int32) (h_v1 : rg v1 1 4) (hq0 : 2 ≤ ((MC : Nat) : Int)) (hq1 : 10 ≤ ((MS : Nat) : Int)) : KT (V := Nat) (S := ST × Nat × Nat) (SX := Unit) l yX16_read cX16_read 3 (some (.object "FilterForgeModel$Sum")) 4 67 D ct [.long v0, .int v1] [] MC MS (fun r : Nat => some (.ref r)) (fun (r : Nat) (u : ST × Nat × Nat) => match u with | (T, kc, kn) => r = T.root ∧ T.ok ∧ (((kc : Nat) : Int) ≤ 2) ∧ (((kn : Nat) : Int) ≤ 10) ∧ (((T.sz : Nat) : Int) ≤ 2) ∧ (((T.dep : Nat) : Int) ≤ 1) ∧ (((T.c4 : Nat) : Int) ≤ 1) ∧ (v1.toInt = 4 ∨ ((T.c4 : Nat) : Int) ≤ 0)) (fun (u : ST × Nat × Nat) => match u with | (T, kc, kn) => [] ++ (T.cells)) (fun (u : ST × Nat × Nat) => match u with | (T, kc, kn) => kc) (fun (u : ST × Nat × Nat) => match u with | (T, kc, kn) => kn) 15 RX15 peW (fun _ => False) (fun _ => []) := by
  refine KT_of (by decide) (Nat.le_of_ble_eq_true rfl) (fun p e s m below meth c A Q C0 htab hA H locs hS hP hD hQ ls hl => ?_)
  obtain ⟨hx, hb, hr, hown, hin, hml, hlocks, hn, hK, hZ, hSK⟩ := C0
  have hl : lv_has ls 3 [(0, .long v0), (2, .int v1)] := hl
  have hP : va_P D vwCl ([] ++ (([] : va_W))) H := by rw [List.append_nil]; exact hP
  have hD : va_D A ([] ++ (([] : va_W))) := by rw [List.append_nil]; exact hD
  replace hq0 := FF.mk hq0
  replace hq1 := FF.mk hq1
  obtain ⟨c0_2, ec0_2⟩ : ∃ x9 : Nat, x9 = 0 + 1 := ⟨_, rfl⟩
  have ec0_2 := FF.mk ec0_2
  have uc0_2 : FF (((c0_2 : Nat) : Int) ≤ 1) := FF.mk (show ((c0_2 : Nat) : Int) ≤ 1 by have q0 := FF.out ec0_2; omega)
  have mc0_2 : FF (c0_2 ≤ MC) := FF.mk (Int.ofNat_le.mp (show ((c0_2 : Nat) : Int) ≤ ((MC : Nat) : Int) by have q0 := FF.out hq0; have q1 := FF.out uc0_2; omega))
  obtain ⟨k0_3, ek0_3⟩ : ∃ x9 : Nat, x9 = 0 + 5 := ⟨_, rfl⟩
  have ek0_3 := FF.mk ek0_3
  have uk0_3 : FF (((k0_3 : Nat) : Int) ≤ 5) := FF.mk (show ((k0_3 : Nat) : Int) ≤ 5 by have q0 := FF.out ek0_3; omega)
  have mk0_3 : FF (k0_3 ≤ MS) := FF.mk (Int.ofNat_le.mp (show ((k0_3 : Nat) : Int) ≤ ((MS : Nat) : Int) by have q0 := FF.out hq1; have q1 := FF.out uk0_3; omega))
  refine nw_O (k1 := c0_2) (n1 := k0_3) (ci := 14) hx hb (htX14 hn) (fun _ h => h) tyX14 tyX14_ok hown (hn.get mw_1535 rfl) (hn.get mw_2041 rfl) (hn.get mw_23 rfl) hK hP hD hS hA rfl dfX14 (Nat.le_of_eq (FF.out ec0_2).symm) (Nat.le_of_eq (FF.out ek0_3).symm) (FF.out mc0_2) (FF.out mk0_3) dX16_read_0 (fun q0_1 H hP hD hS => ?_)
  have hP : va_P D vwCl ([(q0_1, .inr (14, [.int 0, .long 0, .null, .null, .int 0]))] ++ (([] : va_W))) _ := hP
  have hD : va_D A ([(q0_1, .inr (14, [.int 0, .long 0, .null, .null, .int 0]))] ++ (([] : va_W))) := hD
  refine lv_dup hx hb dX16_read_3 rfl ?_
  refine lv_iconst (v := 4) hx hb dX16_read_4 (by decide) ?_
  refine lv_ldc2 (v := (-1)) hx hb hown (hn.get mw_1798 rfl) dX16_read_5 ?_
  refine lv_lload_n hx hb dX16_read_8 rfl (lv_at hl 0 rfl) ?_
  obtain ⟨m9_1, gm9_1⟩ : ∃ m9 : Nat, m9 + c0_2 = MC := ⟨MC - c0_2, Nat.sub_add_cancel (FF.out mc0_2)⟩
  have em9_1 := FF.mk gm9_1
  obtain ⟨m9_2, gm9_2⟩ : ∃ m9 : Nat, m9 + k0_3 = MS := ⟨MS - k0_3, Nat.sub_add_cancel (FF.out mk0_3)⟩
  have em9_2 := FF.mk gm9_2
  refine gt_q (pl := (([] : va_W))) (wr := [(q0_1, .inr (14, [.int 0, .long 0, .null, .null, .int 0]))]) [] [0] (rt_S (As := [.long v0]) (rest := [.long (-1), .int 4, .ref q0_1, .ref q0_1]) (c_X16_n l hst D ct m9_1 m9_2 v0 (show 1 ≤ ((m9_1 : Nat) : Int) by have q0 := FF.out hq0; have q1 := FF.out uc0_2; have q2 := FF.out em9_1; omega) (show 5 ≤ ((m9_2 : Nat) : Int) by have q0 := FF.out hq1; have q1 := FF.out uk0_3; have q2 := FF.out em9_2; omega) _) (cb_of (n := 1) hn mw_2090 mw_13 mw_2088 mhX16_n ⟨(Nat.le_of_ble_eq_true rfl), (Nat.le_of_ble_eq_true rfl)⟩) hx hb hml hown hn hK hSK hZ hS mw_2089 rfl hl.1 (Nat.le_of_ble_eq_true rfl) dX16_read_9 ⟨(Nat.le_of_eq ((Nat.add_comm _ _).trans gm9_1)), (Nat.le_of_eq ((Nat.add_comm _ _).trans gm9_2))⟩) hP hD hS hA rfl rfl (by decide) (by decide) (by decide) (fun xq9_6 ux9_7 xfs9_8 H locs hpx9_9 hpexfs9_8 hP hD hS => ?_) (fun r9_3 u9_4 H locs hp9_5 hP hD hS => ?_)
  · exact hpx9_9.elim
  obtain ⟨T9_310, kc9_311, kn9_312⟩ := u9_4
  obtain ⟨hp9_313, hp9_314, hp9_315, hp9_316, hp9_317, hp9_318, hp9_319⟩ := hp9_5
  subst hp9_313
  replace hp9_315 : FF (((kc9_311 : Nat) : Int) ≤ 1) := hp9_315
  replace hp9_316 : FF (((kn9_312 : Nat) : Int) ≤ 5) := hp9_316
  replace hp9_317 : FF (((T9_310.sz : Nat) : Int) ≤ 1) := hp9_317
  replace hp9_318 : FF (((T9_310.dep : Nat) : Int) ≤ 0) := hp9_318
  replace hp9_319 : FF (((T9_310.c4 : Nat) : Int) ≤ 0) := hp9_319
  obtain ⟨c9_320, ec9_320⟩ : ∃ x9 : Nat, x9 = c0_2 + kc9_311 := ⟨_, rfl⟩
  have ec9_320 := FF.mk ec9_320
  have uc9_320 : FF (((c9_320 : Nat) : Int) ≤ 2) := FF.mk (show ((c9_320 : Nat) : Int) ≤ 2 by have q0 := FF.out uc0_2; have q1 := FF.out hp9_315; have q2 := FF.out ec9_320; omega)
  have mc9_320 : FF (c9_320 ≤ MC) := FF.mk (Int.ofNat_le.mp (show ((c9_320 : Nat) : Int) ≤ ((MC : Nat) : Int) by have q0 := FF.out hq0; have q1 := FF.out uc9_320; omega))
  obtain ⟨k9_321, ek9_321⟩ : ∃ x9 : Nat, x9 = k0_3 + kn9_312 := ⟨_, rfl⟩
  have ek9_321 := FF.mk ek9_321
  have uk9_321 : FF (((k9_321 : Nat) : Int) ≤ 10) := FF.mk (show ((k9_321 : Nat) : Int) ≤ 10 by have q0 := FF.out uk0_3; have q1 := FF.out hp9_316; have q2 := FF.out ek9_321; omega)
  have mk9_321 : FF (k9_321 ≤ MS) := FF.mk (Int.ofNat_le.mp (show ((k9_321 : Nat) : Int) ≤ ((MS : Nat) : Int) by have q0 := FF.out hq1; have q1 := FF.out uk9_321; omega))
  have hP : va_P D vwCl (([(q0_1, .inr (14, [.int 0, .long 0, .null, .null, .int 0]))] ++ (T9_310.cells)) ++ (([] : va_W))) _ := hP
  have hD : va_D A (([(q0_1, .inr (14, [.int 0, .long 0, .null, .null, .int 0]))] ++ (T9_310.cells)) ++ (([] : va_W))) := hD
  have hP := pool_in hP
  have hD := pool_inD hD
  obtain ⟨p9_322, ep9_322⟩ : ∃ p9 : va_W, p9 = (([] : va_W) ++ (T9_310.cells)) := ⟨_, rfl⟩
  rw [← ep9_322] at hP hD
  have hk9_323 : FF (0 ≤ ((T9_310.sz : Nat) : Int)) := Int.natCast_nonneg _
  have hk9_324 : FF (0 ≤ ((T9_310.dep : Nat) : Int)) := Int.natCast_nonneg _
  have hk9_325 : FF (0 ≤ ((T9_310.c4 : Nat) : Int)) := Int.natCast_nonneg _
  have hP : va_P D vwCl ([(q0_1, .inr (14, [.int 0, .long 0, .null, .null, .int 0]))] ++ (p9_322)) _ := hP
  have hD : va_D A ([(q0_1, .inr (14, [.int 0, .long 0, .null, .null, .int 0]))] ++ (p9_322)) := hD
  refine W.widen (k := c9_320) (n := k9_321) (Nat.le_of_eq (FF.out ec9_320).symm) (Nat.le_of_eq (FF.out ek9_321).symm) (W.eq (g2 := F0 m 12 ls [.ref T9_310.root, .long (-1), .int 4, .ref q0_1, .ref q0_1]) rfl ?_)
  refine lv_null hx hb dX16_read_12 ?_
  refine lv_iload_n hx hb dX16_read_13 rfl (lv_at hl 1 rfl) ?_
  refine gq_v (k1 := c9_320) (n1 := k9_321) (wr := []) [0] [] (rn_I (As := [.int 4, .long (-1), .ref T9_310.root, .null, .int v1]) (rest := [.ref q0_1]) (c_X14_init_rn l D ct q0_1 (4 : Int32) ((-1) : Int64) T9_310.root v1 (0 : Int64)  _) (cb_of (n := 5) hn mw_2044 mw_23 mw_2042 mhX14_init ⟨(Nat.le_of_ble_eq_true rfl), (Nat.le_of_ble_eq_true rfl)⟩) hx hb hml hown hn hK hSK hZ hS mw_2043 rfl rfl hl.1 (Nat.le_of_ble_eq_true rfl) dX16_read_14 ⟨(FF.out mc9_320), (FF.out mk9_321)⟩) hP hD hS hA rfl rfl (by decide) (by decide) (by decide) (Nat.le_refl _) (Nat.le_refl _) (fun u14_2 H locs hp14_3 hP hD hS => ?_)
  have hP : va_P D vwCl ([(q0_1, .inr (14, [.int 4, .long (-1), .ref T9_310.root, .null, .int v1]))] ++ (p9_322)) _ := hP
  have hD : va_D A ([(q0_1, .inr (14, [.int 4, .long (-1), .ref T9_310.root, .null, .int v1]))] ++ (p9_322)) := hD
  have hk14_4 : FF (v1.toInt = 4 ∨ (((ST.acc q0_1 ((-1) : Int64) T9_310 v1).c4 : Nat) : Int) = ((T9_310.c4 : Nat) : Int)) := (FF.mk (if h9 : v1 = 4 then Or.inl ((congrArg Int32.toInt h9).trans (by decide)) else Or.inr (by simp only [ST.c4_acc, if_neg h9, Nat.add_zero])))
  have hP : va_P D vwCl (([] ++ [(q0_1, ST.ent (ST.acc q0_1 ((-1) : Int64) T9_310 v1))]) ++ (p9_322)) _ := hP
  have hD : va_D A (([] ++ [(q0_1, ST.ent (ST.acc q0_1 ((-1) : Int64) T9_310 v1))]) ++ (p9_322)) := hD
  have hP := pool_in hP
  have hD := pool_inD hD
  obtain ⟨p14_5, ep14_5⟩ : ∃ p9 : va_W, p9 = (p9_322 ++ [(q0_1, ST.ent (ST.acc q0_1 ((-1) : Int64) T9_310 v1))]) := ⟨_, rfl⟩
  rw [← ep14_5] at hP hD
  have hP : va_P D vwCl ([] ++ (p14_5)) _ := hP
  have hD : va_D A ([] ++ (p14_5)) := hD
  have hk14_6 : FF ((((ST.acc q0_1 ((-1) : Int64) T9_310 v1).sz : Nat) : Int) = ((T9_310.sz : Nat) : Int) + 1) := (FF.mk (by simp only [ST.sz_leaf, ST.sz_minus, ST.sz_group, ST.sz_acc, ST.sz_two, ST.dep_leaf, ST.dep_minus, ST.dep_group, ST.dep_acc, ST.dep_two, ST.c4_leaf, ST.c4_minus, ST.c4_group, ST.c4_acc, ST.c4_two, FT.sz_test, FT.sz_inv, FT.sz_two, FT.sz_pair, FT.dep_test, FT.dep_inv, FT.dep_two, FT.dep_pair, FT.c4_test, FT.c4_inv, FT.c4_two, FT.c4_pair]; first | omega | (rw [if_neg (by decide)]; omega) | (rw [if_pos (by decide)]; omega) | (split <;> omega) | skip))
  have hk14_7 : FF ((((ST.acc q0_1 ((-1) : Int64) T9_310 v1).dep : Nat) : Int) = ((T9_310.dep : Nat) : Int) + 1) := (FF.mk (by simp only [ST.sz_leaf, ST.sz_minus, ST.sz_group, ST.sz_acc, ST.sz_two, ST.dep_leaf, ST.dep_minus, ST.dep_group, ST.dep_acc, ST.dep_two, ST.c4_leaf, ST.c4_minus, ST.c4_group, ST.c4_acc, ST.c4_two, FT.sz_test, FT.sz_inv, FT.sz_two, FT.sz_pair, FT.dep_test, FT.dep_inv, FT.dep_two, FT.dep_pair, FT.c4_test, FT.c4_inv, FT.c4_two, FT.c4_pair]; first | omega | (rw [if_neg (by decide)]; omega) | (rw [if_pos (by decide)]; omega) | (split <;> omega) | skip))
  have hk14_8 : FF (((T9_310.c4 : Nat) : Int) ≤ (((ST.acc q0_1 ((-1) : Int64) T9_310 v1).c4 : Nat) : Int) ∧ (((ST.acc q0_1 ((-1) : Int64) T9_310 v1).c4 : Nat) : Int) ≤ ((T9_310.c4 : Nat) : Int) + 1) := (FF.mk (by simp only [ST.sz_leaf, ST.sz_minus, ST.sz_group, ST.sz_acc, ST.sz_two, ST.dep_leaf, ST.dep_minus, ST.dep_group, ST.dep_acc, ST.dep_two, ST.c4_leaf, ST.c4_minus, ST.c4_group, ST.c4_acc, ST.c4_two, FT.sz_test, FT.sz_inv, FT.sz_two, FT.sz_pair, FT.dep_test, FT.dep_inv, FT.dep_two, FT.dep_pair, FT.c4_test, FT.c4_inv, FT.c4_two, FT.c4_pair]; first | omega | (rw [if_neg (by decide)]; omega) | (rw [if_pos (by decide)]; omega) | (split <;> omega) | skip))
  have hP : va_P D vwCl ([] ++ ((ST.acc q0_1 ((-1) : Int64) T9_310 v1).cells)) _ := hP.perm (seg_perm (fun f => by have w0 := seg_sum (List.Perm.of_eq ep9_322) f; have w1 := seg_sum (List.Perm.of_eq ep14_5) f; simp only [ST.cells_leaf, ST.cells_minus, ST.cells_group, ST.cells_acc, ST.cells_two, FT.cells_two, FT.cells_inv, FT.cells_test, FT.cells_pair, List.map_append, List.sum_append, List.map_nil, List.sum_nil] at w0 w1 ⊢ <;> omega))
  have hD : va_D A ([] ++ ((ST.acc q0_1 ((-1) : Int64) T9_310 v1).cells)) := hD.perm (seg_perm (fun f => by have w0 := seg_sum (List.Perm.of_eq ep9_322) f; have w1 := seg_sum (List.Perm.of_eq ep14_5) f; simp only [ST.cells_leaf, ST.cells_minus, ST.cells_group, ST.cells_acc, ST.cells_two, FT.cells_two, FT.cells_inv, FT.cells_test, FT.cells_pair, List.map_append, List.sum_append, List.map_nil, List.sum_nil] at w0 w1 ⊢ <;> omega))
  exact et_r (SX := Unit) hQ hx hb hr hlocks dX16_read_17 ((ST.acc q0_1 ((-1) : Int64) T9_310 v1), c9_320, k9_321) ⟨rfl, (ST.ok_acc hp9_314 (show 1 ≤ v1.toInt ∧ v1.toInt ≤ 4 by have q0 := h_v1.1; have q1 := h_v1.2; omega)), (show ((c9_320 : Nat) : Int) ≤ 2 by have q0 := FF.out uc9_320; omega), (show ((k9_321 : Nat) : Int) ≤ 10 by have q0 := FF.out uk9_321; omega), (show (((ST.acc q0_1 ((-1) : Int64) T9_310 v1).sz : Nat) : Int) ≤ 2 by have q0 := FF.out hp9_317; have q1 := FF.out hk14_6; omega), (show (((ST.acc q0_1 ((-1) : Int64) T9_310 v1).dep : Nat) : Int) ≤ 1 by have q0 := FF.out hp9_318; have q1 := FF.out hk14_7; omega), (show (((ST.acc q0_1 ((-1) : Int64) T9_310 v1).c4 : Nat) : Int) ≤ 1 by have q0 := FF.out hp9_319; have q1 := FF.out hk14_8; omega), (show v1.toInt = 4 ∨ (((ST.acc q0_1 ((-1) : Int64) T9_310 v1).c4 : Nat) : Int) ≤ 0 by have q0 := h_v1.2; have q1 := FF.out hp9_319; have q2 := FF.out hk14_4; omega)⟩ hP hD hS [] (by decide) rfl (Nat.le_refl _) (Nat.le_refl _) (FF.out mc9_320) (FF.out mk9_321)
set_option maxHeartbeats 2000000 in
theorem c_X16_behindHeader (l : Launch) (hst : l.stackTraces = false) (D : va_G) (ct : Nat → ClassId) (MC : Nat) (MS : Nat) (v0 : Int64) (hq0 : 2 ≤ ((MC : Nat) : Int)) (hq1 : 10 ≤ ((MS : Nat) : Int)) : KT (V := Nat) (S := ST × Nat × Nat) (SX := Unit) l yX16_behindHeader cX16_behindHeader 2 (some (.object "FilterForgeModel$Sum")) 4 67 D ct [.long v0] [] MC MS (fun r : Nat => some (.ref r)) (fun (r : Nat) (u : ST × Nat × Nat) => match u with | (T, kc, kn) => r = T.root ∧ T.ok ∧ (((kc : Nat) : Int) ≤ 2) ∧ (((kn : Nat) : Int) ≤ 10) ∧ (((T.sz : Nat) : Int) ≤ 2) ∧ (((T.dep : Nat) : Int) ≤ 1) ∧ (((T.c4 : Nat) : Int) ≤ 0)) (fun (u : ST × Nat × Nat) => match u with | (T, kc, kn) => [] ++ (T.cells)) (fun (u : ST × Nat × Nat) => match u with | (T, kc, kn) => kc) (fun (u : ST × Nat × Nat) => match u with | (T, kc, kn) => kn) 15 RX15 peW (fun _ => False) (fun _ => []) := by
  refine KT_of (by decide) (Nat.le_of_ble_eq_true rfl) (fun p e s m below meth c A Q C0 htab hA H locs hS hP hD hQ ls hl => ?_)
  obtain ⟨hx, hb, hr, hown, hin, hml, hlocks, hn, hK, hZ, hSK⟩ := C0
  have hl : lv_has ls 2 [(0, .long v0)] := hl
  have hP : va_P D vwCl ([] ++ (([] : va_W))) H := by rw [List.append_nil]; exact hP
  have hD : va_D A ([] ++ (([] : va_W))) := by rw [List.append_nil]; exact hD
  replace hq0 := FF.mk hq0
  replace hq1 := FF.mk hq1
  obtain ⟨c0_2, ec0_2⟩ : ∃ x9 : Nat, x9 = 0 + 1 := ⟨_, rfl⟩
  have ec0_2 := FF.mk ec0_2
  have uc0_2 : FF (((c0_2 : Nat) : Int) ≤ 1) := FF.mk (show ((c0_2 : Nat) : Int) ≤ 1 by have q0 := FF.out ec0_2; omega)
  have mc0_2 : FF (c0_2 ≤ MC) := FF.mk (Int.ofNat_le.mp (show ((c0_2 : Nat) : Int) ≤ ((MC : Nat) : Int) by have q0 := FF.out hq0; have q1 := FF.out uc0_2; omega))
  obtain ⟨k0_3, ek0_3⟩ : ∃ x9 : Nat, x9 = 0 + 5 := ⟨_, rfl⟩
  have ek0_3 := FF.mk ek0_3
  have uk0_3 : FF (((k0_3 : Nat) : Int) ≤ 5) := FF.mk (show ((k0_3 : Nat) : Int) ≤ 5 by have q0 := FF.out ek0_3; omega)
  have mk0_3 : FF (k0_3 ≤ MS) := FF.mk (Int.ofNat_le.mp (show ((k0_3 : Nat) : Int) ≤ ((MS : Nat) : Int) by have q0 := FF.out hq1; have q1 := FF.out uk0_3; omega))
  refine nw_O (k1 := c0_2) (n1 := k0_3) (ci := 14) hx hb (htX14 hn) (fun _ h => h) tyX14 tyX14_ok hown (hn.get mw_1535 rfl) (hn.get mw_2041 rfl) (hn.get mw_23 rfl) hK hP hD hS hA rfl dfX14 (Nat.le_of_eq (FF.out ec0_2).symm) (Nat.le_of_eq (FF.out ek0_3).symm) (FF.out mc0_2) (FF.out mk0_3) dX16_behindHeader_0 (fun q0_1 H hP hD hS => ?_)
  have hP : va_P D vwCl ([(q0_1, .inr (14, [.int 0, .long 0, .null, .null, .int 0]))] ++ (([] : va_W))) _ := hP
  have hD : va_D A ([(q0_1, .inr (14, [.int 0, .long 0, .null, .null, .int 0]))] ++ (([] : va_W))) := hD
  refine lv_dup hx hb dX16_behindHeader_3 rfl ?_
  refine lv_iconst (v := 4) hx hb dX16_behindHeader_4 (by decide) ?_
  refine lv_ldc2 (v := (-2)) hx hb hown (hn.get mw_2197 rfl) dX16_behindHeader_5 ?_
  refine lv_lload_n hx hb dX16_behindHeader_8 rfl (lv_at hl 0 rfl) ?_
  obtain ⟨m9_1, gm9_1⟩ : ∃ m9 : Nat, m9 + c0_2 = MC := ⟨MC - c0_2, Nat.sub_add_cancel (FF.out mc0_2)⟩
  have em9_1 := FF.mk gm9_1
  obtain ⟨m9_2, gm9_2⟩ : ∃ m9 : Nat, m9 + k0_3 = MS := ⟨MS - k0_3, Nat.sub_add_cancel (FF.out mk0_3)⟩
  have em9_2 := FF.mk gm9_2
  refine gt_q (pl := (([] : va_W))) (wr := [(q0_1, .inr (14, [.int 0, .long 0, .null, .null, .int 0]))]) [] [0] (rt_S (As := [.long v0]) (rest := [.long (-2), .int 4, .ref q0_1, .ref q0_1]) (c_X16_n l hst D ct m9_1 m9_2 v0 (show 1 ≤ ((m9_1 : Nat) : Int) by have q0 := FF.out hq0; have q1 := FF.out uc0_2; have q2 := FF.out em9_1; omega) (show 5 ≤ ((m9_2 : Nat) : Int) by have q0 := FF.out hq1; have q1 := FF.out uk0_3; have q2 := FF.out em9_2; omega) _) (cb_of (n := 1) hn mw_2090 mw_13 mw_2088 mhX16_n ⟨(Nat.le_of_ble_eq_true rfl), (Nat.le_of_ble_eq_true rfl)⟩) hx hb hml hown hn hK hSK hZ hS mw_2089 rfl hl.1 (Nat.le_of_ble_eq_true rfl) dX16_behindHeader_9 ⟨(Nat.le_of_eq ((Nat.add_comm _ _).trans gm9_1)), (Nat.le_of_eq ((Nat.add_comm _ _).trans gm9_2))⟩) hP hD hS hA rfl rfl (by decide) (by decide) (by decide) (fun xq9_6 ux9_7 xfs9_8 H locs hpx9_9 hpexfs9_8 hP hD hS => ?_) (fun r9_3 u9_4 H locs hp9_5 hP hD hS => ?_)
  · exact hpx9_9.elim
  obtain ⟨T9_310, kc9_311, kn9_312⟩ := u9_4
  obtain ⟨hp9_313, hp9_314, hp9_315, hp9_316, hp9_317, hp9_318, hp9_319⟩ := hp9_5
  subst hp9_313
  replace hp9_315 : FF (((kc9_311 : Nat) : Int) ≤ 1) := hp9_315
  replace hp9_316 : FF (((kn9_312 : Nat) : Int) ≤ 5) := hp9_316
  replace hp9_317 : FF (((T9_310.sz : Nat) : Int) ≤ 1) := hp9_317
  replace hp9_318 : FF (((T9_310.dep : Nat) : Int) ≤ 0) := hp9_318
  replace hp9_319 : FF (((T9_310.c4 : Nat) : Int) ≤ 0) := hp9_319
  obtain ⟨c9_320, ec9_320⟩ : ∃ x9 : Nat, x9 = c0_2 + kc9_311 := ⟨_, rfl⟩
  have ec9_320 := FF.mk ec9_320
  have uc9_320 : FF (((c9_320 : Nat) : Int) ≤ 2) := FF.mk (show ((c9_320 : Nat) : Int) ≤ 2 by have q0 := FF.out uc0_2; have q1 := FF.out hp9_315; have q2 := FF.out ec9_320; omega)
  have mc9_320 : FF (c9_320 ≤ MC) := FF.mk (Int.ofNat_le.mp (show ((c9_320 : Nat) : Int) ≤ ((MC : Nat) : Int) by have q0 := FF.out hq0; have q1 := FF.out uc9_320; omega))
  obtain ⟨k9_321, ek9_321⟩ : ∃ x9 : Nat, x9 = k0_3 + kn9_312 := ⟨_, rfl⟩
  have ek9_321 := FF.mk ek9_321
  have uk9_321 : FF (((k9_321 : Nat) : Int) ≤ 10) := FF.mk (show ((k9_321 : Nat) : Int) ≤ 10 by have q0 := FF.out uk0_3; have q1 := FF.out hp9_316; have q2 := FF.out ek9_321; omega)
  have mk9_321 : FF (k9_321 ≤ MS) := FF.mk (Int.ofNat_le.mp (show ((k9_321 : Nat) : Int) ≤ ((MS : Nat) : Int) by have q0 := FF.out hq1; have q1 := FF.out uk9_321; omega))
  have hP : va_P D vwCl (([(q0_1, .inr (14, [.int 0, .long 0, .null, .null, .int 0]))] ++ (T9_310.cells)) ++ (([] : va_W))) _ := hP
  have hD : va_D A (([(q0_1, .inr (14, [.int 0, .long 0, .null, .null, .int 0]))] ++ (T9_310.cells)) ++ (([] : va_W))) := hD
  have hP := pool_in hP
  have hD := pool_inD hD
  obtain ⟨p9_322, ep9_322⟩ : ∃ p9 : va_W, p9 = (([] : va_W) ++ (T9_310.cells)) := ⟨_, rfl⟩
  rw [← ep9_322] at hP hD
  have hk9_323 : FF (0 ≤ ((T9_310.sz : Nat) : Int)) := Int.natCast_nonneg _
  have hk9_324 : FF (0 ≤ ((T9_310.dep : Nat) : Int)) := Int.natCast_nonneg _
  have hk9_325 : FF (0 ≤ ((T9_310.c4 : Nat) : Int)) := Int.natCast_nonneg _
  have hP : va_P D vwCl ([(q0_1, .inr (14, [.int 0, .long 0, .null, .null, .int 0]))] ++ (p9_322)) _ := hP
  have hD : va_D A ([(q0_1, .inr (14, [.int 0, .long 0, .null, .null, .int 0]))] ++ (p9_322)) := hD
  refine W.widen (k := c9_320) (n := k9_321) (Nat.le_of_eq (FF.out ec9_320).symm) (Nat.le_of_eq (FF.out ek9_321).symm) (W.eq (g2 := F0 m 12 ls [.ref T9_310.root, .long (-2), .int 4, .ref q0_1, .ref q0_1]) rfl ?_)
  refine lv_null hx hb dX16_behindHeader_12 ?_
  refine lv_iconst (v := 2) hx hb dX16_behindHeader_13 (by decide) ?_
  refine gq_v (k1 := c9_320) (n1 := k9_321) (wr := []) [0] [] (rn_I (As := [.int 4, .long (-2), .ref T9_310.root, .null, .int 2]) (rest := [.ref q0_1]) (c_X14_init_rn l D ct q0_1 (4 : Int32) ((-2) : Int64) T9_310.root (2 : Int32) (0 : Int64)  _) (cb_of (n := 5) hn mw_2044 mw_23 mw_2042 mhX14_init ⟨(Nat.le_of_ble_eq_true rfl), (Nat.le_of_ble_eq_true rfl)⟩) hx hb hml hown hn hK hSK hZ hS mw_2043 rfl rfl hl.1 (Nat.le_of_ble_eq_true rfl) dX16_behindHeader_14 ⟨(FF.out mc9_320), (FF.out mk9_321)⟩) hP hD hS hA rfl rfl (by decide) (by decide) (by decide) (Nat.le_refl _) (Nat.le_refl _) (fun u14_2 H locs hp14_3 hP hD hS => ?_)
  have hP : va_P D vwCl ([(q0_1, .inr (14, [.int 4, .long (-2), .ref T9_310.root, .null, .int 2]))] ++ (p9_322)) _ := hP
  have hD : va_D A ([(q0_1, .inr (14, [.int 4, .long (-2), .ref T9_310.root, .null, .int 2]))] ++ (p9_322)) := hD
  have hP : va_P D vwCl (([] ++ [(q0_1, ST.ent (ST.acc q0_1 ((-2) : Int64) T9_310 (2 : Int32)))]) ++ (p9_322)) _ := hP
  have hD : va_D A (([] ++ [(q0_1, ST.ent (ST.acc q0_1 ((-2) : Int64) T9_310 (2 : Int32)))]) ++ (p9_322)) := hD
  have hP := pool_in hP
  have hD := pool_inD hD
  obtain ⟨p14_4, ep14_4⟩ : ∃ p9 : va_W, p9 = (p9_322 ++ [(q0_1, ST.ent (ST.acc q0_1 ((-2) : Int64) T9_310 (2 : Int32)))]) := ⟨_, rfl⟩
  rw [← ep14_4] at hP hD
  have hP : va_P D vwCl ([] ++ (p14_4)) _ := hP
  have hD : va_D A ([] ++ (p14_4)) := hD
  have hk14_5 : FF ((((ST.acc q0_1 ((-2) : Int64) T9_310 (2 : Int32)).sz : Nat) : Int) = ((T9_310.sz : Nat) : Int) + 1) := (FF.mk (by simp only [ST.sz_leaf, ST.sz_minus, ST.sz_group, ST.sz_acc, ST.sz_two, ST.dep_leaf, ST.dep_minus, ST.dep_group, ST.dep_acc, ST.dep_two, ST.c4_leaf, ST.c4_minus, ST.c4_group, ST.c4_acc, ST.c4_two, FT.sz_test, FT.sz_inv, FT.sz_two, FT.sz_pair, FT.dep_test, FT.dep_inv, FT.dep_two, FT.dep_pair, FT.c4_test, FT.c4_inv, FT.c4_two, FT.c4_pair]; first | omega | (rw [if_neg (by decide)]; omega) | (rw [if_pos (by decide)]; omega) | (split <;> omega) | skip))
  have hk14_6 : FF ((((ST.acc q0_1 ((-2) : Int64) T9_310 (2 : Int32)).dep : Nat) : Int) = ((T9_310.dep : Nat) : Int) + 1) := (FF.mk (by simp only [ST.sz_leaf, ST.sz_minus, ST.sz_group, ST.sz_acc, ST.sz_two, ST.dep_leaf, ST.dep_minus, ST.dep_group, ST.dep_acc, ST.dep_two, ST.c4_leaf, ST.c4_minus, ST.c4_group, ST.c4_acc, ST.c4_two, FT.sz_test, FT.sz_inv, FT.sz_two, FT.sz_pair, FT.dep_test, FT.dep_inv, FT.dep_two, FT.dep_pair, FT.c4_test, FT.c4_inv, FT.c4_two, FT.c4_pair]; first | omega | (rw [if_neg (by decide)]; omega) | (rw [if_pos (by decide)]; omega) | (split <;> omega) | skip))
  have hk14_7 : FF ((((ST.acc q0_1 ((-2) : Int64) T9_310 (2 : Int32)).c4 : Nat) : Int) = ((T9_310.c4 : Nat) : Int) + 0) := (FF.mk (by simp only [ST.sz_leaf, ST.sz_minus, ST.sz_group, ST.sz_acc, ST.sz_two, ST.dep_leaf, ST.dep_minus, ST.dep_group, ST.dep_acc, ST.dep_two, ST.c4_leaf, ST.c4_minus, ST.c4_group, ST.c4_acc, ST.c4_two, FT.sz_test, FT.sz_inv, FT.sz_two, FT.sz_pair, FT.dep_test, FT.dep_inv, FT.dep_two, FT.dep_pair, FT.c4_test, FT.c4_inv, FT.c4_two, FT.c4_pair]; first | omega | (rw [if_neg (by decide)]; omega) | (rw [if_pos (by decide)]; omega) | (split <;> omega) | skip))
  have hP : va_P D vwCl ([] ++ ((ST.acc q0_1 ((-2) : Int64) T9_310 (2 : Int32)).cells)) _ := hP.perm (seg_perm (fun f => by have w0 := seg_sum (List.Perm.of_eq ep9_322) f; have w1 := seg_sum (List.Perm.of_eq ep14_4) f; simp only [ST.cells_leaf, ST.cells_minus, ST.cells_group, ST.cells_acc, ST.cells_two, FT.cells_two, FT.cells_inv, FT.cells_test, FT.cells_pair, List.map_append, List.sum_append, List.map_nil, List.sum_nil] at w0 w1 ⊢ <;> omega))
  have hD : va_D A ([] ++ ((ST.acc q0_1 ((-2) : Int64) T9_310 (2 : Int32)).cells)) := hD.perm (seg_perm (fun f => by have w0 := seg_sum (List.Perm.of_eq ep9_322) f; have w1 := seg_sum (List.Perm.of_eq ep14_4) f; simp only [ST.cells_leaf, ST.cells_minus, ST.cells_group, ST.cells_acc, ST.cells_two, FT.cells_two, FT.cells_inv, FT.cells_test, FT.cells_pair, List.map_append, List.sum_append, List.map_nil, List.sum_nil] at w0 w1 ⊢ <;> omega))
  exact et_r (SX := Unit) hQ hx hb hr hlocks dX16_behindHeader_17 ((ST.acc q0_1 ((-2) : Int64) T9_310 (2 : Int32)), c9_320, k9_321) ⟨rfl, (ST.ok_acc hp9_314 (show 1 ≤ (2 : Int32).toInt ∧ (2 : Int32).toInt ≤ 4 by have q0 := (show (2 : Int32).toInt = 2 from by decide); omega)), (show ((c9_320 : Nat) : Int) ≤ 2 by have q0 := FF.out uc9_320; omega), (show ((k9_321 : Nat) : Int) ≤ 10 by have q0 := FF.out uk9_321; omega), (show (((ST.acc q0_1 ((-2) : Int64) T9_310 (2 : Int32)).sz : Nat) : Int) ≤ 2 by have q0 := FF.out hp9_317; have q1 := FF.out hk14_5; omega), (show (((ST.acc q0_1 ((-2) : Int64) T9_310 (2 : Int32)).dep : Nat) : Int) ≤ 1 by have q0 := FF.out hp9_318; have q1 := FF.out hk14_6; omega), (show (((ST.acc q0_1 ((-2) : Int64) T9_310 (2 : Int32)).c4 : Nat) : Int) ≤ 0 by have q0 := FF.out hp9_319; have q1 := FF.out hk14_7; omega)⟩ hP hD hS [] (by decide) rfl (Nat.le_refl _) (Nat.le_refl _) (FF.out mc9_320) (FF.out mk9_321)
set_option maxHeartbeats 2000000 in
theorem c_X16_and (l : Launch) (hst : l.stackTraces = false) (D : va_G) (ct : Nat → ClassId) (MC : Nat) (MS : Nat) (x : FT) (y : FT) (ok_x : x.ok) (ok_y : y.ok) (hq0 : 1 ≤ ((MC : Nat) : Int)) (hq1 : 7 ≤ ((MS : Nat) : Int)) : KT (V := Nat) (S := Nat × Nat × Nat) (SX := Unit) l yX16_and cX16_and 2 (some (.object "FilterForgeModel$Filter")) 3 43 D ct [.ref x.root, .ref y.root] [] MC MS (fun r : Nat => some (.ref r)) (fun (r : Nat) (u : Nat × Nat × Nat) => match u with | (q, kc, kn) => r = q ∧ (((kc : Nat) : Int) ≤ 1) ∧ (((kn : Nat) : Int) ≤ 7)) (fun (u : Nat × Nat × Nat) => match u with | (q, kc, kn) => [] ++ [(q, FT.ent ((FT.two q false x y)) (Z0 q))]) (fun (u : Nat × Nat × Nat) => match u with | (q, kc, kn) => kc) (fun (u : Nat × Nat × Nat) => match u with | (q, kc, kn) => kn) 15 RX15 peW (fun _ => False) (fun _ => []) := by
  refine KT_of (by decide) (Nat.le_of_ble_eq_true rfl) (fun p e s m below meth c A Q C0 htab hA H locs hS hP hD hQ ls hl => ?_)
  obtain ⟨hx, hb, hr, hown, hin, hml, hlocks, hn, hK, hZ, hSK⟩ := C0
  have hl : lv_has ls 2 [(0, .ref x.root), (1, .ref y.root)] := hl
  have hP : va_P D vwCl ([] ++ (([] : va_W))) H := by rw [List.append_nil]; exact hP
  have hD : va_D A ([] ++ (([] : va_W))) := by rw [List.append_nil]; exact hD
  replace hq0 := FF.mk hq0
  replace hq1 := FF.mk hq1
  obtain ⟨c0_2, ec0_2⟩ : ∃ x9 : Nat, x9 = 0 + 1 := ⟨_, rfl⟩
  have ec0_2 := FF.mk ec0_2
  have uc0_2 : FF (((c0_2 : Nat) : Int) ≤ 1) := FF.mk (show ((c0_2 : Nat) : Int) ≤ 1 by have q0 := FF.out ec0_2; omega)
  have mc0_2 : FF (c0_2 ≤ MC) := FF.mk (Int.ofNat_le.mp (show ((c0_2 : Nat) : Int) ≤ ((MC : Nat) : Int) by have q0 := FF.out hq0; have q1 := FF.out uc0_2; omega))
  obtain ⟨k0_3, ek0_3⟩ : ∃ x9 : Nat, x9 = 0 + 7 := ⟨_, rfl⟩
  have ek0_3 := FF.mk ek0_3
  have uk0_3 : FF (((k0_3 : Nat) : Int) ≤ 7) := FF.mk (show ((k0_3 : Nat) : Int) ≤ 7 by have q0 := FF.out ek0_3; omega)
  have mk0_3 : FF (k0_3 ≤ MS) := FF.mk (Int.ofNat_le.mp (show ((k0_3 : Nat) : Int) ≤ ((MS : Nat) : Int) by have q0 := FF.out hq1; have q1 := FF.out uk0_3; omega))
  refine nw_O (k1 := c0_2) (n1 := k0_3) (ci := 12) hx hb (htX12 hn) (fun _ h => h) tyX12 tyX12_ok hown (hn.get mw_1533 rfl) (hn.get mw_1969 rfl) (hn.get mw_22 rfl) hK hP hD hS hA rfl dfX12 (Nat.le_of_eq (FF.out ec0_2).symm) (Nat.le_of_eq (FF.out ek0_3).symm) (FF.out mc0_2) (FF.out mk0_3) dX16_and_0 (fun q0_1 H hP hD hS => ?_)
  have hP : va_P D vwCl ([(q0_1, .inr (12, [.int 0, .null, .null, .null, .null, .int 0, .int 0]))] ++ (([] : va_W))) _ := hP
  have hD : va_D A ([(q0_1, .inr (12, [.int 0, .null, .null, .null, .null, .int 0, .int 0]))] ++ (([] : va_W))) := hD
  refine lv_dup hx hb dX16_and_3 rfl ?_
  refine lv_iconst (v := 1) hx hb dX16_and_4 (by decide) ?_
  refine lv_aload_n hx hb dX16_and_5 rfl (lv_at hl 0 rfl) ?_
  refine lv_aload_n hx hb dX16_and_6 rfl (lv_at hl 1 rfl) ?_
  refine gq_v (k1 := c0_2) (n1 := k0_3) (wr := []) [0] [] (rn_I (As := [.int 1, .ref x.root, .ref y.root]) (rest := [.ref q0_1]) (c_X12_init_rr l D ct q0_1 (1 : Int32) x.root y.root  _) (cb_of (n := 3) hn mw_1972 mw_22 mw_1970 mhX12_init ⟨(Nat.le_of_ble_eq_true rfl), (Nat.le_of_ble_eq_true rfl)⟩) hx hb hml hown hn hK hSK hZ hS mw_1971 rfl rfl hl.1 (Nat.le_of_ble_eq_true rfl) dX16_and_7 ⟨(FF.out mc0_2), (FF.out mk0_3)⟩) hP hD hS hA rfl rfl (by decide) (by decide) (by decide) (Nat.le_refl _) (Nat.le_refl _) (fun u7_2 H locs hp7_3 hP hD hS => ?_)
  have hP : va_P D vwCl ([(q0_1, .inr (12, [.int 1, .ref x.root, .ref y.root, .null, .null, .int 0, .int 0]))] ++ (([] : va_W))) _ := hP
  have hD : va_D A ([(q0_1, .inr (12, [.int 1, .ref x.root, .ref y.root, .null, .null, .int 0, .int 0]))] ++ (([] : va_W))) := hD
  have hP : va_P D vwCl (([] ++ [(q0_1, FT.ent (FT.two q0_1 false x y) (Z0 q0_1))]) ++ (([] : va_W))) _ := hP
  have hD : va_D A (([] ++ [(q0_1, FT.ent (FT.two q0_1 false x y) (Z0 q0_1))]) ++ (([] : va_W))) := hD
  have hP := pool_in hP
  have hD := pool_inD hD
  obtain ⟨p7_4, ep7_4⟩ : ∃ p9 : va_W, p9 = (([] : va_W) ++ [(q0_1, FT.ent (FT.two q0_1 false x y) (Z0 q0_1))]) := ⟨_, rfl⟩
  rw [← ep7_4] at hP hD
  have hP : va_P D vwCl ([] ++ (p7_4)) _ := hP
  have hD : va_D A ([] ++ (p7_4)) := hD
  have hk7_5 : FF ((((FT.two q0_1 false x y).sz : Nat) : Int) = ((x.sz : Nat) : Int) + ((y.sz : Nat) : Int) + 1) := (FF.mk (by simp only [ST.sz_leaf, ST.sz_minus, ST.sz_group, ST.sz_acc, ST.sz_two, ST.dep_leaf, ST.dep_minus, ST.dep_group, ST.dep_acc, ST.dep_two, ST.c4_leaf, ST.c4_minus, ST.c4_group, ST.c4_acc, ST.c4_two, FT.sz_test, FT.sz_inv, FT.sz_two, FT.sz_pair, FT.dep_test, FT.dep_inv, FT.dep_two, FT.dep_pair, FT.c4_test, FT.c4_inv, FT.c4_two, FT.c4_pair]; first | omega | (rw [if_neg (by decide)]; omega) | (rw [if_pos (by decide)]; omega) | (split <;> omega) | skip))
  have hk7_6 : FF (((x.dep : Nat) : Int) ≤ (((FT.two q0_1 false x y).dep : Nat) : Int)) := (FF.mk (by simp only [ST.sz_leaf, ST.sz_minus, ST.sz_group, ST.sz_acc, ST.sz_two, ST.dep_leaf, ST.dep_minus, ST.dep_group, ST.dep_acc, ST.dep_two, ST.c4_leaf, ST.c4_minus, ST.c4_group, ST.c4_acc, ST.c4_two, FT.sz_test, FT.sz_inv, FT.sz_two, FT.sz_pair, FT.dep_test, FT.dep_inv, FT.dep_two, FT.dep_pair, FT.c4_test, FT.c4_inv, FT.c4_two, FT.c4_pair]; first | omega | (rw [if_neg (by decide)]; omega) | (rw [if_pos (by decide)]; omega) | (split <;> omega) | skip))
  have hk7_7 : FF (((y.dep : Nat) : Int) ≤ (((FT.two q0_1 false x y).dep : Nat) : Int)) := (FF.mk (by simp only [ST.sz_leaf, ST.sz_minus, ST.sz_group, ST.sz_acc, ST.sz_two, ST.dep_leaf, ST.dep_minus, ST.dep_group, ST.dep_acc, ST.dep_two, ST.c4_leaf, ST.c4_minus, ST.c4_group, ST.c4_acc, ST.c4_two, FT.sz_test, FT.sz_inv, FT.sz_two, FT.sz_pair, FT.dep_test, FT.dep_inv, FT.dep_two, FT.dep_pair, FT.c4_test, FT.c4_inv, FT.c4_two, FT.c4_pair]; first | omega | (rw [if_neg (by decide)]; omega) | (rw [if_pos (by decide)]; omega) | (split <;> omega) | skip))
  have hk7_8 : FF ((((FT.two q0_1 false x y).dep : Nat) : Int) ≤ ((x.dep : Nat) : Int) ∨ (((FT.two q0_1 false x y).dep : Nat) : Int) ≤ ((y.dep : Nat) : Int)) := (FF.mk (by simp only [ST.sz_leaf, ST.sz_minus, ST.sz_group, ST.sz_acc, ST.sz_two, ST.dep_leaf, ST.dep_minus, ST.dep_group, ST.dep_acc, ST.dep_two, ST.c4_leaf, ST.c4_minus, ST.c4_group, ST.c4_acc, ST.c4_two, FT.sz_test, FT.sz_inv, FT.sz_two, FT.sz_pair, FT.dep_test, FT.dep_inv, FT.dep_two, FT.dep_pair, FT.c4_test, FT.c4_inv, FT.c4_two, FT.c4_pair]; first | omega | (rw [if_neg (by decide)]; omega) | (rw [if_pos (by decide)]; omega) | (split <;> omega) | skip))
  have hk7_9 : FF ((((FT.two q0_1 false x y).c4 : Nat) : Int) = ((x.c4 : Nat) : Int) + ((y.c4 : Nat) : Int)) := (FF.mk (by simp only [ST.sz_leaf, ST.sz_minus, ST.sz_group, ST.sz_acc, ST.sz_two, ST.dep_leaf, ST.dep_minus, ST.dep_group, ST.dep_acc, ST.dep_two, ST.c4_leaf, ST.c4_minus, ST.c4_group, ST.c4_acc, ST.c4_two, FT.sz_test, FT.sz_inv, FT.sz_two, FT.sz_pair, FT.dep_test, FT.dep_inv, FT.dep_two, FT.dep_pair, FT.c4_test, FT.c4_inv, FT.c4_two, FT.c4_pair]; first | omega | (rw [if_neg (by decide)]; omega) | (rw [if_pos (by decide)]; omega) | (split <;> omega) | skip))
  have hP : va_P D vwCl ([] ++ [(q0_1, FT.ent ((FT.two q0_1 false x y)) (Z0 q0_1))]) _ := hP.perm (seg_perm (fun f => by have w0 := seg_sum (List.Perm.of_eq ep7_4) f; simp only [ST.cells_leaf, ST.cells_minus, ST.cells_group, ST.cells_acc, ST.cells_two, FT.cells_two, FT.cells_inv, FT.cells_test, FT.cells_pair, List.map_append, List.sum_append, List.map_nil, List.sum_nil] at w0 ⊢ <;> omega))
  have hD : va_D A ([] ++ [(q0_1, FT.ent ((FT.two q0_1 false x y)) (Z0 q0_1))]) := hD.perm (seg_perm (fun f => by have w0 := seg_sum (List.Perm.of_eq ep7_4) f; simp only [ST.cells_leaf, ST.cells_minus, ST.cells_group, ST.cells_acc, ST.cells_two, FT.cells_two, FT.cells_inv, FT.cells_test, FT.cells_pair, List.map_append, List.sum_append, List.map_nil, List.sum_nil] at w0 ⊢ <;> omega))
  exact et_r (SX := Unit) hQ hx hb hr hlocks dX16_and_10 (q0_1, c0_2, k0_3) ⟨rfl, (show ((c0_2 : Nat) : Int) ≤ 1 by have q0 := FF.out uc0_2; omega), (show ((k0_3 : Nat) : Int) ≤ 7 by have q0 := FF.out uk0_3; omega)⟩ hP hD hS [] (by decide) rfl (Nat.le_refl _) (Nat.le_refl _) (FF.out mc0_2) (FF.out mk0_3)
set_option maxHeartbeats 2000000 in
theorem c_X16_or (l : Launch) (hst : l.stackTraces = false) (D : va_G) (ct : Nat → ClassId) (MC : Nat) (MS : Nat) (x : FT) (y : FT) (ok_x : x.ok) (ok_y : y.ok) (hq0 : 1 ≤ ((MC : Nat) : Int)) (hq1 : 7 ≤ ((MS : Nat) : Int)) : KT (V := Nat) (S := Nat × Nat × Nat) (SX := Unit) l yX16_or cX16_or 2 (some (.object "FilterForgeModel$Filter")) 3 43 D ct [.ref x.root, .ref y.root] [] MC MS (fun r : Nat => some (.ref r)) (fun (r : Nat) (u : Nat × Nat × Nat) => match u with | (q, kc, kn) => r = q ∧ (((kc : Nat) : Int) ≤ 1) ∧ (((kn : Nat) : Int) ≤ 7)) (fun (u : Nat × Nat × Nat) => match u with | (q, kc, kn) => [] ++ [(q, FT.ent ((FT.two q true x y)) (Z0 q))]) (fun (u : Nat × Nat × Nat) => match u with | (q, kc, kn) => kc) (fun (u : Nat × Nat × Nat) => match u with | (q, kc, kn) => kn) 15 RX15 peW (fun _ => False) (fun _ => []) := by
  refine KT_of (by decide) (Nat.le_of_ble_eq_true rfl) (fun p e s m below meth c A Q C0 htab hA H locs hS hP hD hQ ls hl => ?_)
  obtain ⟨hx, hb, hr, hown, hin, hml, hlocks, hn, hK, hZ, hSK⟩ := C0
  have hl : lv_has ls 2 [(0, .ref x.root), (1, .ref y.root)] := hl
  have hP : va_P D vwCl ([] ++ (([] : va_W))) H := by rw [List.append_nil]; exact hP
  have hD : va_D A ([] ++ (([] : va_W))) := by rw [List.append_nil]; exact hD
  replace hq0 := FF.mk hq0
  replace hq1 := FF.mk hq1
  obtain ⟨c0_2, ec0_2⟩ : ∃ x9 : Nat, x9 = 0 + 1 := ⟨_, rfl⟩
  have ec0_2 := FF.mk ec0_2
  have uc0_2 : FF (((c0_2 : Nat) : Int) ≤ 1) := FF.mk (show ((c0_2 : Nat) : Int) ≤ 1 by have q0 := FF.out ec0_2; omega)
  have mc0_2 : FF (c0_2 ≤ MC) := FF.mk (Int.ofNat_le.mp (show ((c0_2 : Nat) : Int) ≤ ((MC : Nat) : Int) by have q0 := FF.out hq0; have q1 := FF.out uc0_2; omega))
  obtain ⟨k0_3, ek0_3⟩ : ∃ x9 : Nat, x9 = 0 + 7 := ⟨_, rfl⟩
  have ek0_3 := FF.mk ek0_3
  have uk0_3 : FF (((k0_3 : Nat) : Int) ≤ 7) := FF.mk (show ((k0_3 : Nat) : Int) ≤ 7 by have q0 := FF.out ek0_3; omega)
  have mk0_3 : FF (k0_3 ≤ MS) := FF.mk (Int.ofNat_le.mp (show ((k0_3 : Nat) : Int) ≤ ((MS : Nat) : Int) by have q0 := FF.out hq1; have q1 := FF.out uk0_3; omega))
  refine nw_O (k1 := c0_2) (n1 := k0_3) (ci := 12) hx hb (htX12 hn) (fun _ h => h) tyX12 tyX12_ok hown (hn.get mw_1533 rfl) (hn.get mw_1969 rfl) (hn.get mw_22 rfl) hK hP hD hS hA rfl dfX12 (Nat.le_of_eq (FF.out ec0_2).symm) (Nat.le_of_eq (FF.out ek0_3).symm) (FF.out mc0_2) (FF.out mk0_3) dX16_or_0 (fun q0_1 H hP hD hS => ?_)
  have hP : va_P D vwCl ([(q0_1, .inr (12, [.int 0, .null, .null, .null, .null, .int 0, .int 0]))] ++ (([] : va_W))) _ := hP
  have hD : va_D A ([(q0_1, .inr (12, [.int 0, .null, .null, .null, .null, .int 0, .int 0]))] ++ (([] : va_W))) := hD
  refine lv_dup hx hb dX16_or_3 rfl ?_
  refine lv_iconst (v := 2) hx hb dX16_or_4 (by decide) ?_
  refine lv_aload_n hx hb dX16_or_5 rfl (lv_at hl 0 rfl) ?_
  refine lv_aload_n hx hb dX16_or_6 rfl (lv_at hl 1 rfl) ?_
  refine gq_v (k1 := c0_2) (n1 := k0_3) (wr := []) [0] [] (rn_I (As := [.int 2, .ref x.root, .ref y.root]) (rest := [.ref q0_1]) (c_X12_init_rr l D ct q0_1 (2 : Int32) x.root y.root  _) (cb_of (n := 3) hn mw_1972 mw_22 mw_1970 mhX12_init ⟨(Nat.le_of_ble_eq_true rfl), (Nat.le_of_ble_eq_true rfl)⟩) hx hb hml hown hn hK hSK hZ hS mw_1971 rfl rfl hl.1 (Nat.le_of_ble_eq_true rfl) dX16_or_7 ⟨(FF.out mc0_2), (FF.out mk0_3)⟩) hP hD hS hA rfl rfl (by decide) (by decide) (by decide) (Nat.le_refl _) (Nat.le_refl _) (fun u7_2 H locs hp7_3 hP hD hS => ?_)
  have hP : va_P D vwCl ([(q0_1, .inr (12, [.int 2, .ref x.root, .ref y.root, .null, .null, .int 0, .int 0]))] ++ (([] : va_W))) _ := hP
  have hD : va_D A ([(q0_1, .inr (12, [.int 2, .ref x.root, .ref y.root, .null, .null, .int 0, .int 0]))] ++ (([] : va_W))) := hD
  have hP : va_P D vwCl (([] ++ [(q0_1, FT.ent (FT.two q0_1 true x y) (Z0 q0_1))]) ++ (([] : va_W))) _ := hP
  have hD : va_D A (([] ++ [(q0_1, FT.ent (FT.two q0_1 true x y) (Z0 q0_1))]) ++ (([] : va_W))) := hD
  have hP := pool_in hP
  have hD := pool_inD hD
  obtain ⟨p7_4, ep7_4⟩ : ∃ p9 : va_W, p9 = (([] : va_W) ++ [(q0_1, FT.ent (FT.two q0_1 true x y) (Z0 q0_1))]) := ⟨_, rfl⟩
  rw [← ep7_4] at hP hD
  have hP : va_P D vwCl ([] ++ (p7_4)) _ := hP
  have hD : va_D A ([] ++ (p7_4)) := hD
  have hk7_5 : FF ((((FT.two q0_1 true x y).sz : Nat) : Int) = ((x.sz : Nat) : Int) + ((y.sz : Nat) : Int) + 1) := (FF.mk (by simp only [ST.sz_leaf, ST.sz_minus, ST.sz_group, ST.sz_acc, ST.sz_two, ST.dep_leaf, ST.dep_minus, ST.dep_group, ST.dep_acc, ST.dep_two, ST.c4_leaf, ST.c4_minus, ST.c4_group, ST.c4_acc, ST.c4_two, FT.sz_test, FT.sz_inv, FT.sz_two, FT.sz_pair, FT.dep_test, FT.dep_inv, FT.dep_two, FT.dep_pair, FT.c4_test, FT.c4_inv, FT.c4_two, FT.c4_pair]; first | omega | (rw [if_neg (by decide)]; omega) | (rw [if_pos (by decide)]; omega) | (split <;> omega) | skip))
  have hk7_6 : FF (((x.dep : Nat) : Int) ≤ (((FT.two q0_1 true x y).dep : Nat) : Int)) := (FF.mk (by simp only [ST.sz_leaf, ST.sz_minus, ST.sz_group, ST.sz_acc, ST.sz_two, ST.dep_leaf, ST.dep_minus, ST.dep_group, ST.dep_acc, ST.dep_two, ST.c4_leaf, ST.c4_minus, ST.c4_group, ST.c4_acc, ST.c4_two, FT.sz_test, FT.sz_inv, FT.sz_two, FT.sz_pair, FT.dep_test, FT.dep_inv, FT.dep_two, FT.dep_pair, FT.c4_test, FT.c4_inv, FT.c4_two, FT.c4_pair]; first | omega | (rw [if_neg (by decide)]; omega) | (rw [if_pos (by decide)]; omega) | (split <;> omega) | skip))
  have hk7_7 : FF (((y.dep : Nat) : Int) ≤ (((FT.two q0_1 true x y).dep : Nat) : Int)) := (FF.mk (by simp only [ST.sz_leaf, ST.sz_minus, ST.sz_group, ST.sz_acc, ST.sz_two, ST.dep_leaf, ST.dep_minus, ST.dep_group, ST.dep_acc, ST.dep_two, ST.c4_leaf, ST.c4_minus, ST.c4_group, ST.c4_acc, ST.c4_two, FT.sz_test, FT.sz_inv, FT.sz_two, FT.sz_pair, FT.dep_test, FT.dep_inv, FT.dep_two, FT.dep_pair, FT.c4_test, FT.c4_inv, FT.c4_two, FT.c4_pair]; first | omega | (rw [if_neg (by decide)]; omega) | (rw [if_pos (by decide)]; omega) | (split <;> omega) | skip))
  have hk7_8 : FF ((((FT.two q0_1 true x y).dep : Nat) : Int) ≤ ((x.dep : Nat) : Int) ∨ (((FT.two q0_1 true x y).dep : Nat) : Int) ≤ ((y.dep : Nat) : Int)) := (FF.mk (by simp only [ST.sz_leaf, ST.sz_minus, ST.sz_group, ST.sz_acc, ST.sz_two, ST.dep_leaf, ST.dep_minus, ST.dep_group, ST.dep_acc, ST.dep_two, ST.c4_leaf, ST.c4_minus, ST.c4_group, ST.c4_acc, ST.c4_two, FT.sz_test, FT.sz_inv, FT.sz_two, FT.sz_pair, FT.dep_test, FT.dep_inv, FT.dep_two, FT.dep_pair, FT.c4_test, FT.c4_inv, FT.c4_two, FT.c4_pair]; first | omega | (rw [if_neg (by decide)]; omega) | (rw [if_pos (by decide)]; omega) | (split <;> omega) | skip))
  have hk7_9 : FF ((((FT.two q0_1 true x y).c4 : Nat) : Int) = ((x.c4 : Nat) : Int) + ((y.c4 : Nat) : Int)) := (FF.mk (by simp only [ST.sz_leaf, ST.sz_minus, ST.sz_group, ST.sz_acc, ST.sz_two, ST.dep_leaf, ST.dep_minus, ST.dep_group, ST.dep_acc, ST.dep_two, ST.c4_leaf, ST.c4_minus, ST.c4_group, ST.c4_acc, ST.c4_two, FT.sz_test, FT.sz_inv, FT.sz_two, FT.sz_pair, FT.dep_test, FT.dep_inv, FT.dep_two, FT.dep_pair, FT.c4_test, FT.c4_inv, FT.c4_two, FT.c4_pair]; first | omega | (rw [if_neg (by decide)]; omega) | (rw [if_pos (by decide)]; omega) | (split <;> omega) | skip))
  have hP : va_P D vwCl ([] ++ [(q0_1, FT.ent ((FT.two q0_1 true x y)) (Z0 q0_1))]) _ := hP.perm (seg_perm (fun f => by have w0 := seg_sum (List.Perm.of_eq ep7_4) f; simp only [ST.cells_leaf, ST.cells_minus, ST.cells_group, ST.cells_acc, ST.cells_two, FT.cells_two, FT.cells_inv, FT.cells_test, FT.cells_pair, List.map_append, List.sum_append, List.map_nil, List.sum_nil] at w0 ⊢ <;> omega))
  have hD : va_D A ([] ++ [(q0_1, FT.ent ((FT.two q0_1 true x y)) (Z0 q0_1))]) := hD.perm (seg_perm (fun f => by have w0 := seg_sum (List.Perm.of_eq ep7_4) f; simp only [ST.cells_leaf, ST.cells_minus, ST.cells_group, ST.cells_acc, ST.cells_two, FT.cells_two, FT.cells_inv, FT.cells_test, FT.cells_pair, List.map_append, List.sum_append, List.map_nil, List.sum_nil] at w0 ⊢ <;> omega))
  exact et_r (SX := Unit) hQ hx hb hr hlocks dX16_or_10 (q0_1, c0_2, k0_3) ⟨rfl, (show ((c0_2 : Nat) : Int) ≤ 1 by have q0 := FF.out uc0_2; omega), (show ((k0_3 : Nat) : Int) ≤ 7 by have q0 := FF.out uk0_3; omega)⟩ hP hD hS [] (by decide) rfl (Nat.le_refl _) (Nat.le_refl _) (FF.out mc0_2) (FF.out mk0_3)
set_option maxHeartbeats 2000000 in
theorem c_X16_test (l : Launch) (hst : l.stackTraces = false) (D : va_G) (ct : Nat → ClassId) (MC : Nat) (MS : Nat) (x : ST) (v1 : Int64) (ok_x : x.ok) (hq0 : 2 ≤ ((MC : Nat) : Int)) (hq1 : 12 ≤ ((MS : Nat) : Int)) : KT (V := Nat) (S := FT × va_W × Nat × Nat) (SX := Unit) l yX16_test cX16_test 3 (some (.object "FilterForgeModel$Filter")) 4 67 D ct [.ref x.root, .long v1] [] MC MS (fun r : Nat => some (.ref r)) (fun (r : Nat) (u : FT × va_W × Nat × Nat) => match u with | (T, nw, kc, kn) => r = T.root ∧ T.ok ∧ ((x.cells) ++ nw).Perm (T.cells Z0) ∧ (((kc : Nat) : Int) ≤ 2) ∧ (((kn : Nat) : Int) ≤ 12) ∧ (((T.dep : Nat) : Int) = ((x.dep : Nat) : Int)) ∧ (((T.sz : Nat) : Int) ≤ ((x.sz : Nat) : Int) + 2) ∧ (((T.c4 : Nat) : Int) = ((x.c4 : Nat) : Int))) (fun (u : FT × va_W × Nat × Nat) => match u with | (T, nw, kc, kn) => [] ++ nw) (fun (u : FT × va_W × Nat × Nat) => match u with | (T, nw, kc, kn) => kc) (fun (u : FT × va_W × Nat × Nat) => match u with | (T, nw, kc, kn) => kn) 15 RX15 peW (fun _ => False) (fun _ => []) := by
  refine KT_of (by decide) (Nat.le_of_ble_eq_true rfl) (fun p e s m below meth c A Q C0 htab hA H locs hS hP hD hQ ls hl => ?_)
  obtain ⟨hx, hb, hr, hown, hin, hml, hlocks, hn, hK, hZ, hSK⟩ := C0
  have hl : lv_has ls 3 [(0, .ref x.root), (1, .long v1)] := hl
  have hP : va_P D vwCl ([] ++ (([] : va_W))) H := by rw [List.append_nil]; exact hP
  have hD : va_D A ([] ++ (([] : va_W))) := by rw [List.append_nil]; exact hD
  replace hq0 := FF.mk hq0
  replace hq1 := FF.mk hq1
  obtain ⟨c0_2, ec0_2⟩ : ∃ x9 : Nat, x9 = 0 + 1 := ⟨_, rfl⟩
  have ec0_2 := FF.mk ec0_2
  have uc0_2 : FF (((c0_2 : Nat) : Int) ≤ 1) := FF.mk (show ((c0_2 : Nat) : Int) ≤ 1 by have q0 := FF.out ec0_2; omega)
  have mc0_2 : FF (c0_2 ≤ MC) := FF.mk (Int.ofNat_le.mp (show ((c0_2 : Nat) : Int) ≤ ((MC : Nat) : Int) by have q0 := FF.out hq0; have q1 := FF.out uc0_2; omega))
  obtain ⟨k0_3, ek0_3⟩ : ∃ x9 : Nat, x9 = 0 + 7 := ⟨_, rfl⟩
  have ek0_3 := FF.mk ek0_3
  have uk0_3 : FF (((k0_3 : Nat) : Int) ≤ 7) := FF.mk (show ((k0_3 : Nat) : Int) ≤ 7 by have q0 := FF.out ek0_3; omega)
  have mk0_3 : FF (k0_3 ≤ MS) := FF.mk (Int.ofNat_le.mp (show ((k0_3 : Nat) : Int) ≤ ((MS : Nat) : Int) by have q0 := FF.out hq1; have q1 := FF.out uk0_3; omega))
  refine nw_O (k1 := c0_2) (n1 := k0_3) (ci := 12) hx hb (htX12 hn) (fun _ h => h) tyX12 tyX12_ok hown (hn.get mw_1533 rfl) (hn.get mw_1969 rfl) (hn.get mw_22 rfl) hK hP hD hS hA rfl dfX12 (Nat.le_of_eq (FF.out ec0_2).symm) (Nat.le_of_eq (FF.out ek0_3).symm) (FF.out mc0_2) (FF.out mk0_3) dX16_test_0 (fun q0_1 H hP hD hS => ?_)
  have hP : va_P D vwCl ([(q0_1, .inr (12, [.int 0, .null, .null, .null, .null, .int 0, .int 0]))] ++ (([] : va_W))) _ := hP
  have hD : va_D A ([(q0_1, .inr (12, [.int 0, .null, .null, .null, .null, .int 0, .int 0]))] ++ (([] : va_W))) := hD
  refine lv_dup hx hb dX16_test_3 rfl ?_
  refine lv_aload_n hx hb dX16_test_4 rfl (lv_at hl 0 rfl) ?_
  refine lv_iconst (v := 1) hx hb dX16_test_5 (by decide) ?_
  refine lv_lload_n hx hb dX16_test_6 rfl (lv_at hl 1 rfl) ?_
  obtain ⟨m7_1, gm7_1⟩ : ∃ m9 : Nat, m9 + c0_2 = MC := ⟨MC - c0_2, Nat.sub_add_cancel (FF.out mc0_2)⟩
  have em7_1 := FF.mk gm7_1
  obtain ⟨m7_2, gm7_2⟩ : ∃ m9 : Nat, m9 + k0_3 = MS := ⟨MS - k0_3, Nat.sub_add_cancel (FF.out mk0_3)⟩
  have em7_2 := FF.mk gm7_2
  refine gt_q (pl := (([] : va_W))) (wr := [(q0_1, .inr (12, [.int 0, .null, .null, .null, .null, .int 0, .int 0]))]) [] [0] (rt_S (As := [.long v1]) (rest := [.int 1, .ref x.root, .ref q0_1, .ref q0_1]) (c_X16_n l hst D ct m7_1 m7_2 v1 (show 1 ≤ ((m7_1 : Nat) : Int) by have q0 := FF.out hq0; have q1 := FF.out uc0_2; have q2 := FF.out em7_1; omega) (show 5 ≤ ((m7_2 : Nat) : Int) by have q0 := FF.out hq1; have q1 := FF.out uk0_3; have q2 := FF.out em7_2; omega) _) (cb_of (n := 1) hn mw_2090 mw_13 mw_2088 mhX16_n ⟨(Nat.le_of_ble_eq_true rfl), (Nat.le_of_ble_eq_true rfl)⟩) hx hb hml hown hn hK hSK hZ hS mw_2089 rfl hl.1 (Nat.le_of_ble_eq_true rfl) dX16_test_7 ⟨(Nat.le_of_eq ((Nat.add_comm _ _).trans gm7_1)), (Nat.le_of_eq ((Nat.add_comm _ _).trans gm7_2))⟩) hP hD hS hA rfl rfl (by decide) (by decide) (by decide) (fun xq7_6 ux7_7 xfs7_8 H locs hpx7_9 hpexfs7_8 hP hD hS => ?_) (fun r7_3 u7_4 H locs hp7_5 hP hD hS => ?_)
  · exact hpx7_9.elim
  obtain ⟨T7_310, kc7_311, kn7_312⟩ := u7_4
  obtain ⟨hp7_313, hp7_314, hp7_315, hp7_316, hp7_317, hp7_318, hp7_319⟩ := hp7_5
  subst hp7_313
  replace hp7_315 : FF (((kc7_311 : Nat) : Int) ≤ 1) := hp7_315
  replace hp7_316 : FF (((kn7_312 : Nat) : Int) ≤ 5) := hp7_316
  replace hp7_317 : FF (((T7_310.sz : Nat) : Int) ≤ 1) := hp7_317
  replace hp7_318 : FF (((T7_310.dep : Nat) : Int) ≤ 0) := hp7_318
  replace hp7_319 : FF (((T7_310.c4 : Nat) : Int) ≤ 0) := hp7_319
  obtain ⟨c7_320, ec7_320⟩ : ∃ x9 : Nat, x9 = c0_2 + kc7_311 := ⟨_, rfl⟩
  have ec7_320 := FF.mk ec7_320
  have uc7_320 : FF (((c7_320 : Nat) : Int) ≤ 2) := FF.mk (show ((c7_320 : Nat) : Int) ≤ 2 by have q0 := FF.out uc0_2; have q1 := FF.out hp7_315; have q2 := FF.out ec7_320; omega)
  have mc7_320 : FF (c7_320 ≤ MC) := FF.mk (Int.ofNat_le.mp (show ((c7_320 : Nat) : Int) ≤ ((MC : Nat) : Int) by have q0 := FF.out hq0; have q1 := FF.out uc7_320; omega))
  obtain ⟨k7_321, ek7_321⟩ : ∃ x9 : Nat, x9 = k0_3 + kn7_312 := ⟨_, rfl⟩
  have ek7_321 := FF.mk ek7_321
  have uk7_321 : FF (((k7_321 : Nat) : Int) ≤ 12) := FF.mk (show ((k7_321 : Nat) : Int) ≤ 12 by have q0 := FF.out uk0_3; have q1 := FF.out hp7_316; have q2 := FF.out ek7_321; omega)
  have mk7_321 : FF (k7_321 ≤ MS) := FF.mk (Int.ofNat_le.mp (show ((k7_321 : Nat) : Int) ≤ ((MS : Nat) : Int) by have q0 := FF.out hq1; have q1 := FF.out uk7_321; omega))
  have hP : va_P D vwCl (([(q0_1, .inr (12, [.int 0, .null, .null, .null, .null, .int 0, .int 0]))] ++ (T7_310.cells)) ++ (([] : va_W))) _ := hP
  have hD : va_D A (([(q0_1, .inr (12, [.int 0, .null, .null, .null, .null, .int 0, .int 0]))] ++ (T7_310.cells)) ++ (([] : va_W))) := hD
  have hP := pool_in hP
  have hD := pool_inD hD
  obtain ⟨p7_322, ep7_322⟩ : ∃ p9 : va_W, p9 = (([] : va_W) ++ (T7_310.cells)) := ⟨_, rfl⟩
  rw [← ep7_322] at hP hD
  have hk7_323 : FF (0 ≤ ((T7_310.sz : Nat) : Int)) := Int.natCast_nonneg _
  have hk7_324 : FF (0 ≤ ((T7_310.dep : Nat) : Int)) := Int.natCast_nonneg _
  have hk7_325 : FF (0 ≤ ((T7_310.c4 : Nat) : Int)) := Int.natCast_nonneg _
  have hP : va_P D vwCl ([(q0_1, .inr (12, [.int 0, .null, .null, .null, .null, .int 0, .int 0]))] ++ (p7_322)) _ := hP
  have hD : va_D A ([(q0_1, .inr (12, [.int 0, .null, .null, .null, .null, .int 0, .int 0]))] ++ (p7_322)) := hD
  refine W.widen (k := c7_320) (n := k7_321) (Nat.le_of_eq (FF.out ec7_320).symm) (Nat.le_of_eq (FF.out ek7_321).symm) (W.eq (g2 := F0 m 10 ls [.ref T7_310.root, .int 1, .ref x.root, .ref q0_1, .ref q0_1]) rfl ?_)
  refine gq_v (k1 := c7_320) (n1 := k7_321) (wr := []) [0] [] (rn_I (As := [.ref x.root, .int 1, .ref T7_310.root]) (rest := [.ref q0_1]) (c_X12_init__rr l D ct q0_1 x.root (1 : Int32) T7_310.root  _) (cb_of (n := 3) hn mw_2123 mw_22 mw_2121 mhX12_init_ ⟨(Nat.le_of_ble_eq_true rfl), (Nat.le_of_ble_eq_true rfl)⟩) hx hb hml hown hn hK hSK hZ hS mw_2122 rfl rfl hl.1 (Nat.le_of_ble_eq_true rfl) dX16_test_10 ⟨(FF.out mc7_320), (FF.out mk7_321)⟩) hP hD hS hA rfl rfl (by decide) (by decide) (by decide) (Nat.le_refl _) (Nat.le_refl _) (fun u10_2 H locs hp10_3 hP hD hS => ?_)
  have hP : va_P D vwCl ([(q0_1, .inr (12, [.int 0, .null, .null, .ref x.root, .ref T7_310.root, .int 1, .int 0]))] ++ (p7_322)) _ := hP
  have hD : va_D A ([(q0_1, .inr (12, [.int 0, .null, .null, .ref x.root, .ref T7_310.root, .int 1, .int 0]))] ++ (p7_322)) := hD
  have hP : va_P D vwCl (([] ++ [(q0_1, FT.ent (FT.test q0_1 x T7_310 (1 : Int32)) (Z0 q0_1))]) ++ (p7_322)) _ := hP
  have hD : va_D A (([] ++ [(q0_1, FT.ent (FT.test q0_1 x T7_310 (1 : Int32)) (Z0 q0_1))]) ++ (p7_322)) := hD
  have hP := pool_in hP
  have hD := pool_inD hD
  obtain ⟨p10_4, ep10_4⟩ : ∃ p9 : va_W, p9 = (p7_322 ++ [(q0_1, FT.ent (FT.test q0_1 x T7_310 (1 : Int32)) (Z0 q0_1))]) := ⟨_, rfl⟩
  rw [← ep10_4] at hP hD
  have hP : va_P D vwCl ([] ++ (p10_4)) _ := hP
  have hD : va_D A ([] ++ (p10_4)) := hD
  have hk10_5 : FF ((((FT.test q0_1 x T7_310 (1 : Int32)).sz : Nat) : Int) = ((x.sz : Nat) : Int) + ((T7_310.sz : Nat) : Int) + 1) := (FF.mk (by simp only [ST.sz_leaf, ST.sz_minus, ST.sz_group, ST.sz_acc, ST.sz_two, ST.dep_leaf, ST.dep_minus, ST.dep_group, ST.dep_acc, ST.dep_two, ST.c4_leaf, ST.c4_minus, ST.c4_group, ST.c4_acc, ST.c4_two, FT.sz_test, FT.sz_inv, FT.sz_two, FT.sz_pair, FT.dep_test, FT.dep_inv, FT.dep_two, FT.dep_pair, FT.c4_test, FT.c4_inv, FT.c4_two, FT.c4_pair]; first | omega | (rw [if_neg (by decide)]; omega) | (rw [if_pos (by decide)]; omega) | (split <;> omega) | skip))
  have hk10_6 : FF (((x.dep : Nat) : Int) ≤ (((FT.test q0_1 x T7_310 (1 : Int32)).dep : Nat) : Int)) := (FF.mk (by simp only [ST.sz_leaf, ST.sz_minus, ST.sz_group, ST.sz_acc, ST.sz_two, ST.dep_leaf, ST.dep_minus, ST.dep_group, ST.dep_acc, ST.dep_two, ST.c4_leaf, ST.c4_minus, ST.c4_group, ST.c4_acc, ST.c4_two, FT.sz_test, FT.sz_inv, FT.sz_two, FT.sz_pair, FT.dep_test, FT.dep_inv, FT.dep_two, FT.dep_pair, FT.c4_test, FT.c4_inv, FT.c4_two, FT.c4_pair]; first | omega | (rw [if_neg (by decide)]; omega) | (rw [if_pos (by decide)]; omega) | (split <;> omega) | skip))
  have hk10_7 : FF (((T7_310.dep : Nat) : Int) ≤ (((FT.test q0_1 x T7_310 (1 : Int32)).dep : Nat) : Int)) := (FF.mk (by simp only [ST.sz_leaf, ST.sz_minus, ST.sz_group, ST.sz_acc, ST.sz_two, ST.dep_leaf, ST.dep_minus, ST.dep_group, ST.dep_acc, ST.dep_two, ST.c4_leaf, ST.c4_minus, ST.c4_group, ST.c4_acc, ST.c4_two, FT.sz_test, FT.sz_inv, FT.sz_two, FT.sz_pair, FT.dep_test, FT.dep_inv, FT.dep_two, FT.dep_pair, FT.c4_test, FT.c4_inv, FT.c4_two, FT.c4_pair]; first | omega | (rw [if_neg (by decide)]; omega) | (rw [if_pos (by decide)]; omega) | (split <;> omega) | skip))
  have hk10_8 : FF ((((FT.test q0_1 x T7_310 (1 : Int32)).dep : Nat) : Int) ≤ ((x.dep : Nat) : Int) ∨ (((FT.test q0_1 x T7_310 (1 : Int32)).dep : Nat) : Int) ≤ ((T7_310.dep : Nat) : Int)) := (FF.mk (by simp only [ST.sz_leaf, ST.sz_minus, ST.sz_group, ST.sz_acc, ST.sz_two, ST.dep_leaf, ST.dep_minus, ST.dep_group, ST.dep_acc, ST.dep_two, ST.c4_leaf, ST.c4_minus, ST.c4_group, ST.c4_acc, ST.c4_two, FT.sz_test, FT.sz_inv, FT.sz_two, FT.sz_pair, FT.dep_test, FT.dep_inv, FT.dep_two, FT.dep_pair, FT.c4_test, FT.c4_inv, FT.c4_two, FT.c4_pair]; first | omega | (rw [if_neg (by decide)]; omega) | (rw [if_pos (by decide)]; omega) | (split <;> omega) | skip))
  have hk10_9 : FF ((((FT.test q0_1 x T7_310 (1 : Int32)).c4 : Nat) : Int) = ((x.c4 : Nat) : Int) + ((T7_310.c4 : Nat) : Int)) := (FF.mk (by simp only [ST.sz_leaf, ST.sz_minus, ST.sz_group, ST.sz_acc, ST.sz_two, ST.dep_leaf, ST.dep_minus, ST.dep_group, ST.dep_acc, ST.dep_two, ST.c4_leaf, ST.c4_minus, ST.c4_group, ST.c4_acc, ST.c4_two, FT.sz_test, FT.sz_inv, FT.sz_two, FT.sz_pair, FT.dep_test, FT.dep_inv, FT.dep_two, FT.dep_pair, FT.c4_test, FT.c4_inv, FT.c4_two, FT.c4_pair]; first | omega | (rw [if_neg (by decide)]; omega) | (rw [if_pos (by decide)]; omega) | (split <;> omega) | skip))
  exact et_r (SX := Unit) hQ hx hb hr hlocks dX16_test_13 ((FT.test q0_1 x T7_310 (1 : Int32)), (p10_4), c7_320, k7_321) ⟨rfl, (FT.ok_test ok_x hp7_314), (seg_perm (fun f => by have w0 := seg_sum (List.Perm.of_eq ep7_322) f; have w1 := seg_sum (List.Perm.of_eq ep10_4) f; simp only [ST.cells_leaf, ST.cells_minus, ST.cells_group, ST.cells_acc, ST.cells_two, FT.cells_two, FT.cells_inv, FT.cells_test, FT.cells_pair, List.map_append, List.sum_append, List.map_nil, List.sum_nil] at w0 w1 ⊢ <;> omega)), (show ((c7_320 : Nat) : Int) ≤ 2 by have q0 := FF.out uc7_320; omega), (show ((k7_321 : Nat) : Int) ≤ 12 by have q0 := FF.out uk7_321; omega), (show (((FT.test q0_1 x T7_310 (1 : Int32)).dep : Nat) : Int) = ((x.dep : Nat) : Int) by have q0 := FF.out hp7_318; have q1 := FF.out hk10_6; have q2 := FF.out hk10_8; omega), (show (((FT.test q0_1 x T7_310 (1 : Int32)).sz : Nat) : Int) ≤ ((x.sz : Nat) : Int) + 2 by have q0 := FF.out hp7_317; have q1 := FF.out hk10_5; omega), (show (((FT.test q0_1 x T7_310 (1 : Int32)).c4 : Nat) : Int) = ((x.c4 : Nat) : Int) by have q0 := FF.out hp7_319; have q1 := FF.out hk7_325; have q2 := FF.out hk10_9; omega)⟩ hP hD hS [] (by decide) rfl (Nat.le_refl _) (Nat.le_refl _) (FF.out mc7_320) (FF.out mk7_321)
set_option maxHeartbeats 2000000 in
theorem c_X16_ether (l : Launch) (hst : l.stackTraces = false) (D : va_G) (ct : Nat → ClassId) (MC : Nat) (MS : Nat) (v0 : Int64) (hq0 : 4 ≤ ((MC : Nat) : Int)) (hq1 : 22 ≤ ((MS : Nat) : Int)) : KT (V := Nat) (S := FT × Nat × Nat) (SX := Unit) l yX16_ether cX16_ether 2 (some (.object "FilterForgeModel$Filter")) 5 89 D ct [.long v0] [] MC MS (fun r : Nat => some (.ref r)) (fun (r : Nat) (u : FT × Nat × Nat) => match u with | (T, kc, kn) => r = T.root ∧ T.ok ∧ (((kc : Nat) : Int) ≤ 4) ∧ (((kn : Nat) : Int) ≤ 22) ∧ (((T.sz : Nat) : Int) ≤ 4) ∧ (((T.dep : Nat) : Int) ≤ 1) ∧ (((T.c4 : Nat) : Int) ≤ 0)) (fun (u : FT × Nat × Nat) => match u with | (T, kc, kn) => [] ++ (T.cells Z0)) (fun (u : FT × Nat × Nat) => match u with | (T, kc, kn) => kc) (fun (u : FT × Nat × Nat) => match u with | (T, kc, kn) => kn) 15 RX15 peW (fun _ => False) (fun _ => []) := by
  refine KT_of (by decide) (Nat.le_of_ble_eq_true rfl) (fun p e s m below meth c A Q C0 htab hA H locs hS hP hD hQ ls hl => ?_)
  obtain ⟨hx, hb, hr, hown, hin, hml, hlocks, hn, hK, hZ, hSK⟩ := C0
  have hl : lv_has ls 2 [(0, .long v0)] := hl
  have hP : va_P D vwCl ([] ++ (([] : va_W))) H := by rw [List.append_nil]; exact hP
  have hD : va_D A ([] ++ (([] : va_W))) := by rw [List.append_nil]; exact hD
  replace hq0 := FF.mk hq0
  replace hq1 := FF.mk hq1
  refine lv_ldc2 (v := 12) hx hb hown (hn.get mw_2133 rfl) dX16_ether_0 ?_
  refine lv_iconst (v := 2) hx hb dX16_ether_3 (by decide) ?_
  obtain ⟨m4_1, gm4_1⟩ : ∃ m9 : Nat, m9 + 0 = MC := ⟨MC - 0, Nat.sub_add_cancel (Nat.zero_le MC)⟩
  have em4_1 := FF.mk gm4_1
  obtain ⟨m4_2, gm4_2⟩ : ∃ m9 : Nat, m9 + 0 = MS := ⟨MS - 0, Nat.sub_add_cancel (Nat.zero_le MS)⟩
  have em4_2 := FF.mk gm4_2
  refine gt_q (pl := (([] : va_W))) (wr := []) [] [] (rt_S (As := [.long 12, .int 2]) (rest := []) (c_X16_read l hst D ct m4_1 m4_2 (12 : Int64) (2 : Int32) (rg_w (show rg (2 : Int32) 2 2 from rg_l (by decide)) (by decide)) (show 2 ≤ ((m4_1 : Nat) : Int) by have q0 := FF.out hq0; have q1 := FF.out em4_1; omega) (show 10 ≤ ((m4_2 : Nat) : Int) by have q0 := FF.out hq1; have q1 := FF.out em4_2; omega) _) (cb_of (n := 2) hn mw_2136 mw_13 mw_2134 mhX16_read ⟨(Nat.le_of_ble_eq_true rfl), (Nat.le_of_ble_eq_true rfl)⟩) hx hb hml hown hn hK hSK hZ hS mw_2135 rfl hl.1 (Nat.le_of_ble_eq_true rfl) dX16_ether_4 ⟨(Nat.le_of_eq ((Nat.add_comm _ _).trans gm4_1)), (Nat.le_of_eq ((Nat.add_comm _ _).trans gm4_2))⟩) hP hD hS hA rfl rfl (by decide) (by decide) (by decide) (fun xq4_6 ux4_7 xfs4_8 H locs hpx4_9 hpexfs4_8 hP hD hS => ?_) (fun r4_3 u4_4 H locs hp4_5 hP hD hS => ?_)
  · exact hpx4_9.elim
  obtain ⟨T4_310, kc4_311, kn4_312⟩ := u4_4
  obtain ⟨hp4_313, hp4_314, hp4_315, hp4_316, hp4_317, hp4_318, hp4_319, hp4_320⟩ := hp4_5
  subst hp4_313
  replace hp4_315 : FF (((kc4_311 : Nat) : Int) ≤ 2) := hp4_315
  replace hp4_316 : FF (((kn4_312 : Nat) : Int) ≤ 10) := hp4_316
  replace hp4_317 : FF (((T4_310.sz : Nat) : Int) ≤ 2) := hp4_317
  replace hp4_318 : FF (((T4_310.dep : Nat) : Int) ≤ 1) := hp4_318
  replace hp4_319 : FF (((T4_310.c4 : Nat) : Int) ≤ 1) := hp4_319
  replace hp4_320 : FF ((2 : Int32).toInt = 4 ∨ ((T4_310.c4 : Nat) : Int) ≤ 0) := hp4_320
  obtain ⟨c4_321, ec4_321⟩ : ∃ x9 : Nat, x9 = 0 + kc4_311 := ⟨_, rfl⟩
  have ec4_321 := FF.mk ec4_321
  have uc4_321 : FF (((c4_321 : Nat) : Int) ≤ 2) := FF.mk (show ((c4_321 : Nat) : Int) ≤ 2 by have q0 := FF.out hp4_315; have q1 := FF.out ec4_321; omega)
  have mc4_321 : FF (c4_321 ≤ MC) := FF.mk (Int.ofNat_le.mp (show ((c4_321 : Nat) : Int) ≤ ((MC : Nat) : Int) by have q0 := FF.out hq0; have q1 := FF.out uc4_321; omega))
  obtain ⟨k4_322, ek4_322⟩ : ∃ x9 : Nat, x9 = 0 + kn4_312 := ⟨_, rfl⟩
  have ek4_322 := FF.mk ek4_322
  have uk4_322 : FF (((k4_322 : Nat) : Int) ≤ 10) := FF.mk (show ((k4_322 : Nat) : Int) ≤ 10 by have q0 := FF.out hp4_316; have q1 := FF.out ek4_322; omega)
  have mk4_322 : FF (k4_322 ≤ MS) := FF.mk (Int.ofNat_le.mp (show ((k4_322 : Nat) : Int) ≤ ((MS : Nat) : Int) by have q0 := FF.out hq1; have q1 := FF.out uk4_322; omega))
  have hP : va_P D vwCl (([] ++ (T4_310.cells)) ++ (([] : va_W))) _ := hP
  have hD : va_D A (([] ++ (T4_310.cells)) ++ (([] : va_W))) := hD
  have hP := pool_in hP
  have hD := pool_inD hD
  obtain ⟨p4_323, ep4_323⟩ : ∃ p9 : va_W, p9 = (([] : va_W) ++ (T4_310.cells)) := ⟨_, rfl⟩
  rw [← ep4_323] at hP hD
  have hk4_324 : FF (0 ≤ ((T4_310.sz : Nat) : Int)) := Int.natCast_nonneg _
  have hk4_325 : FF (0 ≤ ((T4_310.dep : Nat) : Int)) := Int.natCast_nonneg _
  have hk4_326 : FF (0 ≤ ((T4_310.c4 : Nat) : Int)) := Int.natCast_nonneg _
  have hP : va_P D vwCl ([] ++ (p4_323)) _ := hP
  have hD : va_D A ([] ++ (p4_323)) := hD
  refine W.widen (k := c4_321) (n := k4_322) (Nat.le_of_eq (FF.out ec4_321).symm) (Nat.le_of_eq (FF.out ek4_322).symm) (W.eq (g2 := F0 m 7 ls [.ref T4_310.root]) rfl ?_)
  refine lv_lload_n hx hb dX16_ether_7 rfl (lv_at hl 0 rfl) ?_
  obtain ⟨m8_1, gm8_1⟩ : ∃ m9 : Nat, m9 + c4_321 = MC := ⟨MC - c4_321, Nat.sub_add_cancel (FF.out mc4_321)⟩
  have em8_1 := FF.mk gm8_1
  obtain ⟨m8_2, gm8_2⟩ : ∃ m9 : Nat, m9 + k4_322 = MS := ⟨MS - k4_322, Nat.sub_add_cancel (FF.out mk4_322)⟩
  have em8_2 := FF.mk gm8_2
  refine gt_q (pl := (p4_323)) (wr := []) [] [] (rt_S (As := [.ref T4_310.root, .long v0]) (rest := []) (c_X16_test l hst D ct m8_1 m8_2 T4_310 v0 hp4_314 (show 2 ≤ ((m8_1 : Nat) : Int) by have q0 := FF.out hq0; have q1 := FF.out uc4_321; have q2 := FF.out em8_1; omega) (show 12 ≤ ((m8_2 : Nat) : Int) by have q0 := FF.out hq1; have q1 := FF.out uk4_322; have q2 := FF.out em8_2; omega) _) (cb_of (n := 2) hn mw_2139 mw_13 mw_2137 mhX16_test ⟨(Nat.le_of_ble_eq_true rfl), (Nat.le_of_ble_eq_true rfl)⟩) hx hb hml hown hn hK hSK hZ hS mw_2138 rfl hl.1 (Nat.le_of_ble_eq_true rfl) dX16_ether_8 ⟨(Nat.le_of_eq ((Nat.add_comm _ _).trans gm8_1)), (Nat.le_of_eq ((Nat.add_comm _ _).trans gm8_2))⟩) hP hD hS hA rfl rfl (by decide) (by decide) (by decide) (fun xq8_6 ux8_7 xfs8_8 H locs hpx8_9 hpexfs8_8 hP hD hS => ?_) (fun r8_3 u8_4 H locs hp8_5 hP hD hS => ?_)
  · exact hpx8_9.elim
  obtain ⟨T8_310, nw8_311, kc8_312, kn8_313⟩ := u8_4
  obtain ⟨hp8_314, hp8_315, hp8_316, hp8_317, hp8_318, hp8_319, hp8_320, hp8_321⟩ := hp8_5
  subst hp8_314
  replace hp8_317 : FF (((kc8_312 : Nat) : Int) ≤ 2) := hp8_317
  replace hp8_318 : FF (((kn8_313 : Nat) : Int) ≤ 12) := hp8_318
  replace hp8_319 : FF (((T8_310.dep : Nat) : Int) = ((T4_310.dep : Nat) : Int)) := hp8_319
  replace hp8_320 : FF (((T8_310.sz : Nat) : Int) ≤ ((T4_310.sz : Nat) : Int) + 2) := hp8_320
  replace hp8_321 : FF (((T8_310.c4 : Nat) : Int) = ((T4_310.c4 : Nat) : Int)) := hp8_321
  obtain ⟨c8_322, ec8_322⟩ : ∃ x9 : Nat, x9 = c4_321 + kc8_312 := ⟨_, rfl⟩
  have ec8_322 := FF.mk ec8_322
  have uc8_322 : FF (((c8_322 : Nat) : Int) ≤ 4) := FF.mk (show ((c8_322 : Nat) : Int) ≤ 4 by have q0 := FF.out uc4_321; have q1 := FF.out hp8_317; have q2 := FF.out ec8_322; omega)
  have mc8_322 : FF (c8_322 ≤ MC) := FF.mk (Int.ofNat_le.mp (show ((c8_322 : Nat) : Int) ≤ ((MC : Nat) : Int) by have q0 := FF.out hq0; have q1 := FF.out uc8_322; omega))
  obtain ⟨k8_323, ek8_323⟩ : ∃ x9 : Nat, x9 = k4_322 + kn8_313 := ⟨_, rfl⟩
  have ek8_323 := FF.mk ek8_323
  have uk8_323 : FF (((k8_323 : Nat) : Int) ≤ 22) := FF.mk (show ((k8_323 : Nat) : Int) ≤ 22 by have q0 := FF.out uk4_322; have q1 := FF.out hp8_318; have q2 := FF.out ek8_323; omega)
  have mk8_323 : FF (k8_323 ≤ MS) := FF.mk (Int.ofNat_le.mp (show ((k8_323 : Nat) : Int) ≤ ((MS : Nat) : Int) by have q0 := FF.out hq1; have q1 := FF.out uk8_323; omega))
  have hP : va_P D vwCl (([] ++ nw8_311) ++ (p4_323)) _ := hP
  have hD : va_D A (([] ++ nw8_311) ++ (p4_323)) := hD
  have hP := pool_in hP
  have hD := pool_inD hD
  obtain ⟨p8_324, ep8_324⟩ : ∃ p9 : va_W, p9 = (p4_323 ++ nw8_311) := ⟨_, rfl⟩
  rw [← ep8_324] at hP hD
  have hk8_325 : FF (0 ≤ ((T8_310.sz : Nat) : Int)) := Int.natCast_nonneg _
  have hk8_326 : FF (0 ≤ ((T8_310.dep : Nat) : Int)) := Int.natCast_nonneg _
  have hk8_327 : FF (0 ≤ ((T8_310.c4 : Nat) : Int)) := Int.natCast_nonneg _
  have hP : va_P D vwCl ([] ++ (p8_324)) _ := hP
  have hD : va_D A ([] ++ (p8_324)) := hD
  refine W.widen (k := c8_322) (n := k8_323) (Nat.le_of_eq (FF.out ec8_322).symm) (Nat.le_of_eq (FF.out ek8_323).symm) (W.eq (g2 := F0 m 11 ls [.ref T8_310.root]) rfl ?_)
  have hP : va_P D vwCl ([] ++ (T8_310.cells Z0)) _ := hP.perm (seg_perm (fun f => by have w0 := seg_sum (List.Perm.of_eq ep4_323) f; have w1 := seg_sum hp8_316 f; have w2 := seg_sum (List.Perm.of_eq ep8_324) f; simp only [ST.cells_leaf, ST.cells_minus, ST.cells_group, ST.cells_acc, ST.cells_two, FT.cells_two, FT.cells_inv, FT.cells_test, FT.cells_pair, List.map_append, List.sum_append, List.map_nil, List.sum_nil] at w0 w1 w2 ⊢ <;> omega))
  have hD : va_D A ([] ++ (T8_310.cells Z0)) := hD.perm (seg_perm (fun f => by have w0 := seg_sum (List.Perm.of_eq ep4_323) f; have w1 := seg_sum hp8_316 f; have w2 := seg_sum (List.Perm.of_eq ep8_324) f; simp only [ST.cells_leaf, ST.cells_minus, ST.cells_group, ST.cells_acc, ST.cells_two, FT.cells_two, FT.cells_inv, FT.cells_test, FT.cells_pair, List.map_append, List.sum_append, List.map_nil, List.sum_nil] at w0 w1 w2 ⊢ <;> omega))
  exact et_r (SX := Unit) hQ hx hb hr hlocks dX16_ether_11 (T8_310, c8_322, k8_323) ⟨rfl, hp8_315, (show ((c8_322 : Nat) : Int) ≤ 4 by have q0 := FF.out uc8_322; omega), (show ((k8_323 : Nat) : Int) ≤ 22 by have q0 := FF.out uk8_323; omega), (show ((T8_310.sz : Nat) : Int) ≤ 4 by have q0 := FF.out hp4_317; have q1 := FF.out hp8_320; omega), (show ((T8_310.dep : Nat) : Int) ≤ 1 by have q0 := FF.out hp4_318; have q1 := FF.out hp8_319; omega), (show ((T8_310.c4 : Nat) : Int) ≤ 0 by have q0 := FF.out hp4_320; have q1 := FF.out hp8_321; have q2 := (show (2 : Int32).toInt = 2 from by decide); omega)⟩ hP hD hS [] (by decide) rfl (Nat.le_refl _) (Nat.le_refl _) (FF.out mc8_322) (FF.out mk8_323)
set_option maxHeartbeats 2000000 in
theorem c_X16_byteIs (l : Launch) (hst : l.stackTraces = false) (D : va_G) (ct : Nat → ClassId) (MC : Nat) (MS : Nat) (v0 : Int64) (v1 : Int64) (hq0 : 4 ≤ ((MC : Nat) : Int)) (hq1 : 22 ≤ ((MS : Nat) : Int)) : KT (V := Nat) (S := FT × Nat × Nat) (SX := Unit) l yX16_byteIs cX16_byteIs 4 (some (.object "FilterForgeModel$Filter")) 5 89 D ct [.long v0, .long v1] [] MC MS (fun r : Nat => some (.ref r)) (fun (r : Nat) (u : FT × Nat × Nat) => match u with | (T, kc, kn) => r = T.root ∧ T.ok ∧ (((kc : Nat) : Int) ≤ 4) ∧ (((kn : Nat) : Int) ≤ 22) ∧ (((T.sz : Nat) : Int) ≤ 4) ∧ (((T.dep : Nat) : Int) ≤ 1) ∧ (((T.c4 : Nat) : Int) ≤ 0)) (fun (u : FT × Nat × Nat) => match u with | (T, kc, kn) => [] ++ (T.cells Z0)) (fun (u : FT × Nat × Nat) => match u with | (T, kc, kn) => kc) (fun (u : FT × Nat × Nat) => match u with | (T, kc, kn) => kn) 15 RX15 peW (fun _ => False) (fun _ => []) := by
  refine KT_of (by decide) (Nat.le_of_ble_eq_true rfl) (fun p e s m below meth c A Q C0 htab hA H locs hS hP hD hQ ls hl => ?_)
  obtain ⟨hx, hb, hr, hown, hin, hml, hlocks, hn, hK, hZ, hSK⟩ := C0
  have hl : lv_has ls 4 [(0, .long v0), (2, .long v1)] := hl
  have hP : va_P D vwCl ([] ++ (([] : va_W))) H := by rw [List.append_nil]; exact hP
  have hD : va_D A ([] ++ (([] : va_W))) := by rw [List.append_nil]; exact hD
  replace hq0 := FF.mk hq0
  replace hq1 := FF.mk hq1
  refine lv_lload_n hx hb dX16_byteIs_0 rfl (lv_at hl 0 rfl) ?_
  refine lv_iconst (v := 1) hx hb dX16_byteIs_1 (by decide) ?_
  obtain ⟨m2_1, gm2_1⟩ : ∃ m9 : Nat, m9 + 0 = MC := ⟨MC - 0, Nat.sub_add_cancel (Nat.zero_le MC)⟩
  have em2_1 := FF.mk gm2_1
  obtain ⟨m2_2, gm2_2⟩ : ∃ m9 : Nat, m9 + 0 = MS := ⟨MS - 0, Nat.sub_add_cancel (Nat.zero_le MS)⟩
  have em2_2 := FF.mk gm2_2
  refine gt_q (pl := (([] : va_W))) (wr := []) [] [] (rt_S (As := [.long v0, .int 1]) (rest := []) (c_X16_read l hst D ct m2_1 m2_2 v0 (1 : Int32) (rg_w (show rg (1 : Int32) 1 1 from rg_l (by decide)) (by decide)) (show 2 ≤ ((m2_1 : Nat) : Int) by have q0 := FF.out hq0; have q1 := FF.out em2_1; omega) (show 10 ≤ ((m2_2 : Nat) : Int) by have q0 := FF.out hq1; have q1 := FF.out em2_2; omega) _) (cb_of (n := 2) hn mw_2136 mw_13 mw_2134 mhX16_read ⟨(Nat.le_of_ble_eq_true rfl), (Nat.le_of_ble_eq_true rfl)⟩) hx hb hml hown hn hK hSK hZ hS mw_2135 rfl hl.1 (Nat.le_of_ble_eq_true rfl) dX16_byteIs_2 ⟨(Nat.le_of_eq ((Nat.add_comm _ _).trans gm2_1)), (Nat.le_of_eq ((Nat.add_comm _ _).trans gm2_2))⟩) hP hD hS hA rfl rfl (by decide) (by decide) (by decide) (fun xq2_6 ux2_7 xfs2_8 H locs hpx2_9 hpexfs2_8 hP hD hS => ?_) (fun r2_3 u2_4 H locs hp2_5 hP hD hS => ?_)
  · exact hpx2_9.elim
  obtain ⟨T2_310, kc2_311, kn2_312⟩ := u2_4
  obtain ⟨hp2_313, hp2_314, hp2_315, hp2_316, hp2_317, hp2_318, hp2_319, hp2_320⟩ := hp2_5
  subst hp2_313
  replace hp2_315 : FF (((kc2_311 : Nat) : Int) ≤ 2) := hp2_315
  replace hp2_316 : FF (((kn2_312 : Nat) : Int) ≤ 10) := hp2_316
  replace hp2_317 : FF (((T2_310.sz : Nat) : Int) ≤ 2) := hp2_317
  replace hp2_318 : FF (((T2_310.dep : Nat) : Int) ≤ 1) := hp2_318
  replace hp2_319 : FF (((T2_310.c4 : Nat) : Int) ≤ 1) := hp2_319
  replace hp2_320 : FF ((1 : Int32).toInt = 4 ∨ ((T2_310.c4 : Nat) : Int) ≤ 0) := hp2_320
  obtain ⟨c2_321, ec2_321⟩ : ∃ x9 : Nat, x9 = 0 + kc2_311 := ⟨_, rfl⟩
  have ec2_321 := FF.mk ec2_321
  have uc2_321 : FF (((c2_321 : Nat) : Int) ≤ 2) := FF.mk (show ((c2_321 : Nat) : Int) ≤ 2 by have q0 := FF.out hp2_315; have q1 := FF.out ec2_321; omega)
  have mc2_321 : FF (c2_321 ≤ MC) := FF.mk (Int.ofNat_le.mp (show ((c2_321 : Nat) : Int) ≤ ((MC : Nat) : Int) by have q0 := FF.out hq0; have q1 := FF.out uc2_321; omega))
  obtain ⟨k2_322, ek2_322⟩ : ∃ x9 : Nat, x9 = 0 + kn2_312 := ⟨_, rfl⟩
  have ek2_322 := FF.mk ek2_322
  have uk2_322 : FF (((k2_322 : Nat) : Int) ≤ 10) := FF.mk (show ((k2_322 : Nat) : Int) ≤ 10 by have q0 := FF.out hp2_316; have q1 := FF.out ek2_322; omega)
  have mk2_322 : FF (k2_322 ≤ MS) := FF.mk (Int.ofNat_le.mp (show ((k2_322 : Nat) : Int) ≤ ((MS : Nat) : Int) by have q0 := FF.out hq1; have q1 := FF.out uk2_322; omega))
  have hP : va_P D vwCl (([] ++ (T2_310.cells)) ++ (([] : va_W))) _ := hP
  have hD : va_D A (([] ++ (T2_310.cells)) ++ (([] : va_W))) := hD
  have hP := pool_in hP
  have hD := pool_inD hD
  obtain ⟨p2_323, ep2_323⟩ : ∃ p9 : va_W, p9 = (([] : va_W) ++ (T2_310.cells)) := ⟨_, rfl⟩
  rw [← ep2_323] at hP hD
  have hk2_324 : FF (0 ≤ ((T2_310.sz : Nat) : Int)) := Int.natCast_nonneg _
  have hk2_325 : FF (0 ≤ ((T2_310.dep : Nat) : Int)) := Int.natCast_nonneg _
  have hk2_326 : FF (0 ≤ ((T2_310.c4 : Nat) : Int)) := Int.natCast_nonneg _
  have hP : va_P D vwCl ([] ++ (p2_323)) _ := hP
  have hD : va_D A ([] ++ (p2_323)) := hD
  refine W.widen (k := c2_321) (n := k2_322) (Nat.le_of_eq (FF.out ec2_321).symm) (Nat.le_of_eq (FF.out ek2_322).symm) (W.eq (g2 := F0 m 5 ls [.ref T2_310.root]) rfl ?_)
  refine lv_lload_n hx hb dX16_byteIs_5 rfl (lv_at hl 1 rfl) ?_
  obtain ⟨m6_1, gm6_1⟩ : ∃ m9 : Nat, m9 + c2_321 = MC := ⟨MC - c2_321, Nat.sub_add_cancel (FF.out mc2_321)⟩
  have em6_1 := FF.mk gm6_1
  obtain ⟨m6_2, gm6_2⟩ : ∃ m9 : Nat, m9 + k2_322 = MS := ⟨MS - k2_322, Nat.sub_add_cancel (FF.out mk2_322)⟩
  have em6_2 := FF.mk gm6_2
  refine gt_q (pl := (p2_323)) (wr := []) [] [] (rt_S (As := [.ref T2_310.root, .long v1]) (rest := []) (c_X16_test l hst D ct m6_1 m6_2 T2_310 v1 hp2_314 (show 2 ≤ ((m6_1 : Nat) : Int) by have q0 := FF.out hq0; have q1 := FF.out uc2_321; have q2 := FF.out em6_1; omega) (show 12 ≤ ((m6_2 : Nat) : Int) by have q0 := FF.out hq1; have q1 := FF.out uk2_322; have q2 := FF.out em6_2; omega) _) (cb_of (n := 2) hn mw_2139 mw_13 mw_2137 mhX16_test ⟨(Nat.le_of_ble_eq_true rfl), (Nat.le_of_ble_eq_true rfl)⟩) hx hb hml hown hn hK hSK hZ hS mw_2138 rfl hl.1 (Nat.le_of_ble_eq_true rfl) dX16_byteIs_6 ⟨(Nat.le_of_eq ((Nat.add_comm _ _).trans gm6_1)), (Nat.le_of_eq ((Nat.add_comm _ _).trans gm6_2))⟩) hP hD hS hA rfl rfl (by decide) (by decide) (by decide) (fun xq6_6 ux6_7 xfs6_8 H locs hpx6_9 hpexfs6_8 hP hD hS => ?_) (fun r6_3 u6_4 H locs hp6_5 hP hD hS => ?_)
  · exact hpx6_9.elim
  obtain ⟨T6_310, nw6_311, kc6_312, kn6_313⟩ := u6_4
  obtain ⟨hp6_314, hp6_315, hp6_316, hp6_317, hp6_318, hp6_319, hp6_320, hp6_321⟩ := hp6_5
  subst hp6_314
  replace hp6_317 : FF (((kc6_312 : Nat) : Int) ≤ 2) := hp6_317
  replace hp6_318 : FF (((kn6_313 : Nat) : Int) ≤ 12) := hp6_318
  replace hp6_319 : FF (((T6_310.dep : Nat) : Int) = ((T2_310.dep : Nat) : Int)) := hp6_319
  replace hp6_320 : FF (((T6_310.sz : Nat) : Int) ≤ ((T2_310.sz : Nat) : Int) + 2) := hp6_320
  replace hp6_321 : FF (((T6_310.c4 : Nat) : Int) = ((T2_310.c4 : Nat) : Int)) := hp6_321
  obtain ⟨c6_322, ec6_322⟩ : ∃ x9 : Nat, x9 = c2_321 + kc6_312 := ⟨_, rfl⟩
  have ec6_322 := FF.mk ec6_322
  have uc6_322 : FF (((c6_322 : Nat) : Int) ≤ 4) := FF.mk (show ((c6_322 : Nat) : Int) ≤ 4 by have q0 := FF.out uc2_321; have q1 := FF.out hp6_317; have q2 := FF.out ec6_322; omega)
  have mc6_322 : FF (c6_322 ≤ MC) := FF.mk (Int.ofNat_le.mp (show ((c6_322 : Nat) : Int) ≤ ((MC : Nat) : Int) by have q0 := FF.out hq0; have q1 := FF.out uc6_322; omega))
  obtain ⟨k6_323, ek6_323⟩ : ∃ x9 : Nat, x9 = k2_322 + kn6_313 := ⟨_, rfl⟩
  have ek6_323 := FF.mk ek6_323
  have uk6_323 : FF (((k6_323 : Nat) : Int) ≤ 22) := FF.mk (show ((k6_323 : Nat) : Int) ≤ 22 by have q0 := FF.out uk2_322; have q1 := FF.out hp6_318; have q2 := FF.out ek6_323; omega)
  have mk6_323 : FF (k6_323 ≤ MS) := FF.mk (Int.ofNat_le.mp (show ((k6_323 : Nat) : Int) ≤ ((MS : Nat) : Int) by have q0 := FF.out hq1; have q1 := FF.out uk6_323; omega))
  have hP : va_P D vwCl (([] ++ nw6_311) ++ (p2_323)) _ := hP
  have hD : va_D A (([] ++ nw6_311) ++ (p2_323)) := hD
  have hP := pool_in hP
  have hD := pool_inD hD
  obtain ⟨p6_324, ep6_324⟩ : ∃ p9 : va_W, p9 = (p2_323 ++ nw6_311) := ⟨_, rfl⟩
  rw [← ep6_324] at hP hD
  have hk6_325 : FF (0 ≤ ((T6_310.sz : Nat) : Int)) := Int.natCast_nonneg _
  have hk6_326 : FF (0 ≤ ((T6_310.dep : Nat) : Int)) := Int.natCast_nonneg _
  have hk6_327 : FF (0 ≤ ((T6_310.c4 : Nat) : Int)) := Int.natCast_nonneg _
  have hP : va_P D vwCl ([] ++ (p6_324)) _ := hP
  have hD : va_D A ([] ++ (p6_324)) := hD
  refine W.widen (k := c6_322) (n := k6_323) (Nat.le_of_eq (FF.out ec6_322).symm) (Nat.le_of_eq (FF.out ek6_323).symm) (W.eq (g2 := F0 m 9 ls [.ref T6_310.root]) rfl ?_)
  have hP : va_P D vwCl ([] ++ (T6_310.cells Z0)) _ := hP.perm (seg_perm (fun f => by have w0 := seg_sum (List.Perm.of_eq ep2_323) f; have w1 := seg_sum hp6_316 f; have w2 := seg_sum (List.Perm.of_eq ep6_324) f; simp only [ST.cells_leaf, ST.cells_minus, ST.cells_group, ST.cells_acc, ST.cells_two, FT.cells_two, FT.cells_inv, FT.cells_test, FT.cells_pair, List.map_append, List.sum_append, List.map_nil, List.sum_nil] at w0 w1 w2 ⊢ <;> omega))
  have hD : va_D A ([] ++ (T6_310.cells Z0)) := hD.perm (seg_perm (fun f => by have w0 := seg_sum (List.Perm.of_eq ep2_323) f; have w1 := seg_sum hp6_316 f; have w2 := seg_sum (List.Perm.of_eq ep6_324) f; simp only [ST.cells_leaf, ST.cells_minus, ST.cells_group, ST.cells_acc, ST.cells_two, FT.cells_two, FT.cells_inv, FT.cells_test, FT.cells_pair, List.map_append, List.sum_append, List.map_nil, List.sum_nil] at w0 w1 w2 ⊢ <;> omega))
  exact et_r (SX := Unit) hQ hx hb hr hlocks dX16_byteIs_9 (T6_310, c6_322, k6_323) ⟨rfl, hp6_315, (show ((c6_322 : Nat) : Int) ≤ 4 by have q0 := FF.out uc6_322; omega), (show ((k6_323 : Nat) : Int) ≤ 22 by have q0 := FF.out uk6_323; omega), (show ((T6_310.sz : Nat) : Int) ≤ 4 by have q0 := FF.out hp2_317; have q1 := FF.out hp6_320; omega), (show ((T6_310.dep : Nat) : Int) ≤ 1 by have q0 := FF.out hp2_318; have q1 := FF.out hp6_319; omega), (show ((T6_310.c4 : Nat) : Int) ≤ 0 by have q0 := FF.out hp2_320; have q1 := FF.out hp6_321; have q2 := (show (1 : Int32).toInt = 1 from by decide); omega)⟩ hP hD hS [] (by decide) rfl (Nat.le_refl _) (Nat.le_refl _) (FF.out mc6_322) (FF.out mk6_323)
set_option maxHeartbeats 2000000 in
theorem c_X16_noFragment (l : Launch) (hst : l.stackTraces = false) (D : va_G) (ct : Nat → ClassId) (MC : Nat) (MS : Nat) (hq0 : 6 ≤ ((MC : Nat) : Int)) (hq1 : 32 ≤ ((MS : Nat) : Int)) : KT (V := Nat) (S := FT × Nat × Nat) (SX := Unit) l yX16_noFragment cX16_noFragment 0 (some (.object "FilterForgeModel$Filter")) 5 89 D ct [] [] MC MS (fun r : Nat => some (.ref r)) (fun (r : Nat) (u : FT × Nat × Nat) => match u with | (T, kc, kn) => r = T.root ∧ T.ok ∧ (((kc : Nat) : Int) ≤ 6) ∧ (((kn : Nat) : Int) ≤ 32) ∧ (((T.sz : Nat) : Int) ≤ 6) ∧ (((T.dep : Nat) : Int) ≤ 1) ∧ (((T.c4 : Nat) : Int) ≤ 0)) (fun (u : FT × Nat × Nat) => match u with | (T, kc, kn) => [] ++ (T.cells Z0)) (fun (u : FT × Nat × Nat) => match u with | (T, kc, kn) => kc) (fun (u : FT × Nat × Nat) => match u with | (T, kc, kn) => kn) 15 RX15 peW (fun _ => False) (fun _ => []) := by
  refine KT_of (by decide) (Nat.le_of_ble_eq_true rfl) (fun p e s m below meth c A Q C0 htab hA H locs hS hP hD hQ ls hl => ?_)
  obtain ⟨hx, hb, hr, hown, hin, hml, hlocks, hn, hK, hZ, hSK⟩ := C0
  have hl : lv_has ls 0 [] := hl
  have hP : va_P D vwCl ([] ++ (([] : va_W))) H := by rw [List.append_nil]; exact hP
  have hD : va_D A ([] ++ (([] : va_W))) := by rw [List.append_nil]; exact hD
  replace hq0 := FF.mk hq0
  replace hq1 := FF.mk hq1
  obtain ⟨c0_2, ec0_2⟩ : ∃ x9 : Nat, x9 = 0 + 1 := ⟨_, rfl⟩
  have ec0_2 := FF.mk ec0_2
  have uc0_2 : FF (((c0_2 : Nat) : Int) ≤ 1) := FF.mk (show ((c0_2 : Nat) : Int) ≤ 1 by have q0 := FF.out ec0_2; omega)
  have mc0_2 : FF (c0_2 ≤ MC) := FF.mk (Int.ofNat_le.mp (show ((c0_2 : Nat) : Int) ≤ ((MC : Nat) : Int) by have q0 := FF.out hq0; have q1 := FF.out uc0_2; omega))
  obtain ⟨k0_3, ek0_3⟩ : ∃ x9 : Nat, x9 = 0 + 5 := ⟨_, rfl⟩
  have ek0_3 := FF.mk ek0_3
  have uk0_3 : FF (((k0_3 : Nat) : Int) ≤ 5) := FF.mk (show ((k0_3 : Nat) : Int) ≤ 5 by have q0 := FF.out ek0_3; omega)
  have mk0_3 : FF (k0_3 ≤ MS) := FF.mk (Int.ofNat_le.mp (show ((k0_3 : Nat) : Int) ≤ ((MS : Nat) : Int) by have q0 := FF.out hq1; have q1 := FF.out uk0_3; omega))
  refine nw_O (k1 := c0_2) (n1 := k0_3) (ci := 14) hx hb (htX14 hn) (fun _ h => h) tyX14 tyX14_ok hown (hn.get mw_1535 rfl) (hn.get mw_2041 rfl) (hn.get mw_23 rfl) hK hP hD hS hA rfl dfX14 (Nat.le_of_eq (FF.out ec0_2).symm) (Nat.le_of_eq (FF.out ek0_3).symm) (FF.out mc0_2) (FF.out mk0_3) dX16_noFragment_0 (fun q0_1 H hP hD hS => ?_)
  have hP : va_P D vwCl ([(q0_1, .inr (14, [.int 0, .long 0, .null, .null, .int 0]))] ++ (([] : va_W))) _ := hP
  have hD : va_D A ([(q0_1, .inr (14, [.int 0, .long 0, .null, .null, .int 0]))] ++ (([] : va_W))) := hD
  refine lv_dup hx hb dX16_noFragment_3 rfl ?_
  refine lv_iconst (v := 2) hx hb dX16_noFragment_4 (by decide) ?_
  refine lv_ldc2 (v := 5) hx hb hown (hn.get mw_2149 rfl) dX16_noFragment_5 ?_
  refine lv_ldc2 (v := 20) hx hb hown (hn.get mw_2150 rfl) dX16_noFragment_8 ?_
  refine lv_iconst (v := 2) hx hb dX16_noFragment_11 (by decide) ?_
  obtain ⟨m12_1, gm12_1⟩ : ∃ m9 : Nat, m9 + c0_2 = MC := ⟨MC - c0_2, Nat.sub_add_cancel (FF.out mc0_2)⟩
  have em12_1 := FF.mk gm12_1
  obtain ⟨m12_2, gm12_2⟩ : ∃ m9 : Nat, m9 + k0_3 = MS := ⟨MS - k0_3, Nat.sub_add_cancel (FF.out mk0_3)⟩
  have em12_2 := FF.mk gm12_2
  refine gt_q (pl := (([] : va_W))) (wr := [(q0_1, .inr (14, [.int 0, .long 0, .null, .null, .int 0]))]) [] [0] (rt_S (As := [.long 20, .int 2]) (rest := [.long 5, .int 2, .ref q0_1, .ref q0_1]) (c_X16_read l hst D ct m12_1 m12_2 (20 : Int64) (2 : Int32) (rg_w (show rg (2 : Int32) 2 2 from rg_l (by decide)) (by decide)) (show 2 ≤ ((m12_1 : Nat) : Int) by have q0 := FF.out hq0; have q1 := FF.out uc0_2; have q2 := FF.out em12_1; omega) (show 10 ≤ ((m12_2 : Nat) : Int) by have q0 := FF.out hq1; have q1 := FF.out uk0_3; have q2 := FF.out em12_2; omega) _) (cb_of (n := 2) hn mw_2136 mw_13 mw_2134 mhX16_read ⟨(Nat.le_of_ble_eq_true rfl), (Nat.le_of_ble_eq_true rfl)⟩) hx hb hml hown hn hK hSK hZ hS mw_2135 rfl hl.1 (Nat.le_of_ble_eq_true rfl) dX16_noFragment_12 ⟨(Nat.le_of_eq ((Nat.add_comm _ _).trans gm12_1)), (Nat.le_of_eq ((Nat.add_comm _ _).trans gm12_2))⟩) hP hD hS hA rfl rfl (by decide) (by decide) (by decide) (fun xq12_6 ux12_7 xfs12_8 H locs hpx12_9 hpexfs12_8 hP hD hS => ?_) (fun r12_3 u12_4 H locs hp12_5 hP hD hS => ?_)
  · exact hpx12_9.elim
  obtain ⟨T12_310, kc12_311, kn12_312⟩ := u12_4
  obtain ⟨hp12_313, hp12_314, hp12_315, hp12_316, hp12_317, hp12_318, hp12_319, hp12_320⟩ := hp12_5
  subst hp12_313
  replace hp12_315 : FF (((kc12_311 : Nat) : Int) ≤ 2) := hp12_315
  replace hp12_316 : FF (((kn12_312 : Nat) : Int) ≤ 10) := hp12_316
  replace hp12_317 : FF (((T12_310.sz : Nat) : Int) ≤ 2) := hp12_317
  replace hp12_318 : FF (((T12_310.dep : Nat) : Int) ≤ 1) := hp12_318
  replace hp12_319 : FF (((T12_310.c4 : Nat) : Int) ≤ 1) := hp12_319
  replace hp12_320 : FF ((2 : Int32).toInt = 4 ∨ ((T12_310.c4 : Nat) : Int) ≤ 0) := hp12_320
  obtain ⟨c12_321, ec12_321⟩ : ∃ x9 : Nat, x9 = c0_2 + kc12_311 := ⟨_, rfl⟩
  have ec12_321 := FF.mk ec12_321
  have uc12_321 : FF (((c12_321 : Nat) : Int) ≤ 3) := FF.mk (show ((c12_321 : Nat) : Int) ≤ 3 by have q0 := FF.out uc0_2; have q1 := FF.out hp12_315; have q2 := FF.out ec12_321; omega)
  have mc12_321 : FF (c12_321 ≤ MC) := FF.mk (Int.ofNat_le.mp (show ((c12_321 : Nat) : Int) ≤ ((MC : Nat) : Int) by have q0 := FF.out hq0; have q1 := FF.out uc12_321; omega))
  obtain ⟨k12_322, ek12_322⟩ : ∃ x9 : Nat, x9 = k0_3 + kn12_312 := ⟨_, rfl⟩
  have ek12_322 := FF.mk ek12_322
  have uk12_322 : FF (((k12_322 : Nat) : Int) ≤ 15) := FF.mk (show ((k12_322 : Nat) : Int) ≤ 15 by have q0 := FF.out uk0_3; have q1 := FF.out hp12_316; have q2 := FF.out ek12_322; omega)
  have mk12_322 : FF (k12_322 ≤ MS) := FF.mk (Int.ofNat_le.mp (show ((k12_322 : Nat) : Int) ≤ ((MS : Nat) : Int) by have q0 := FF.out hq1; have q1 := FF.out uk12_322; omega))
  have hP : va_P D vwCl (([(q0_1, .inr (14, [.int 0, .long 0, .null, .null, .int 0]))] ++ (T12_310.cells)) ++ (([] : va_W))) _ := hP
  have hD : va_D A (([(q0_1, .inr (14, [.int 0, .long 0, .null, .null, .int 0]))] ++ (T12_310.cells)) ++ (([] : va_W))) := hD
  have hP := pool_in hP
  have hD := pool_inD hD
  obtain ⟨p12_323, ep12_323⟩ : ∃ p9 : va_W, p9 = (([] : va_W) ++ (T12_310.cells)) := ⟨_, rfl⟩
  rw [← ep12_323] at hP hD
  have hk12_324 : FF (0 ≤ ((T12_310.sz : Nat) : Int)) := Int.natCast_nonneg _
  have hk12_325 : FF (0 ≤ ((T12_310.dep : Nat) : Int)) := Int.natCast_nonneg _
  have hk12_326 : FF (0 ≤ ((T12_310.c4 : Nat) : Int)) := Int.natCast_nonneg _
  have hP : va_P D vwCl ([(q0_1, .inr (14, [.int 0, .long 0, .null, .null, .int 0]))] ++ (p12_323)) _ := hP
  have hD : va_D A ([(q0_1, .inr (14, [.int 0, .long 0, .null, .null, .int 0]))] ++ (p12_323)) := hD
  refine W.widen (k := c12_321) (n := k12_322) (Nat.le_of_eq (FF.out ec12_321).symm) (Nat.le_of_eq (FF.out ek12_322).symm) (W.eq (g2 := F0 m 15 ls [.ref T12_310.root, .long 5, .int 2, .ref q0_1, .ref q0_1]) rfl ?_)
  refine lv_ldc2 (v := 8191) hx hb hown (hn.get mw_2151 rfl) dX16_noFragment_15 ?_
  obtain ⟨m18_1, gm18_1⟩ : ∃ m9 : Nat, m9 + c12_321 = MC := ⟨MC - c12_321, Nat.sub_add_cancel (FF.out mc12_321)⟩
  have em18_1 := FF.mk gm18_1
  obtain ⟨m18_2, gm18_2⟩ : ∃ m9 : Nat, m9 + k12_322 = MS := ⟨MS - k12_322, Nat.sub_add_cancel (FF.out mk12_322)⟩
  have em18_2 := FF.mk gm18_2
  refine gt_q (pl := (p12_323)) (wr := [(q0_1, .inr (14, [.int 0, .long 0, .null, .null, .int 0]))]) [] [0] (rt_S (As := [.long 8191]) (rest := [.ref T12_310.root, .long 5, .int 2, .ref q0_1, .ref q0_1]) (c_X16_n l hst D ct m18_1 m18_2 (8191 : Int64) (show 1 ≤ ((m18_1 : Nat) : Int) by have q0 := FF.out hq0; have q1 := FF.out uc12_321; have q2 := FF.out em18_1; omega) (show 5 ≤ ((m18_2 : Nat) : Int) by have q0 := FF.out hq1; have q1 := FF.out uk12_322; have q2 := FF.out em18_2; omega) _) (cb_of (n := 1) hn mw_2090 mw_13 mw_2088 mhX16_n ⟨(Nat.le_of_ble_eq_true rfl), (Nat.le_of_ble_eq_true rfl)⟩) hx hb hml hown hn hK hSK hZ hS mw_2089 rfl hl.1 (Nat.le_of_ble_eq_true rfl) dX16_noFragment_18 ⟨(Nat.le_of_eq ((Nat.add_comm _ _).trans gm18_1)), (Nat.le_of_eq ((Nat.add_comm _ _).trans gm18_2))⟩) hP hD hS hA rfl rfl (by decide) (by decide) (by decide) (fun xq18_6 ux18_7 xfs18_8 H locs hpx18_9 hpexfs18_8 hP hD hS => ?_) (fun r18_3 u18_4 H locs hp18_5 hP hD hS => ?_)
  · exact hpx18_9.elim
  obtain ⟨T18_310, kc18_311, kn18_312⟩ := u18_4
  obtain ⟨hp18_313, hp18_314, hp18_315, hp18_316, hp18_317, hp18_318, hp18_319⟩ := hp18_5
  subst hp18_313
  replace hp18_315 : FF (((kc18_311 : Nat) : Int) ≤ 1) := hp18_315
  replace hp18_316 : FF (((kn18_312 : Nat) : Int) ≤ 5) := hp18_316
  replace hp18_317 : FF (((T18_310.sz : Nat) : Int) ≤ 1) := hp18_317
  replace hp18_318 : FF (((T18_310.dep : Nat) : Int) ≤ 0) := hp18_318
  replace hp18_319 : FF (((T18_310.c4 : Nat) : Int) ≤ 0) := hp18_319
  obtain ⟨c18_320, ec18_320⟩ : ∃ x9 : Nat, x9 = c12_321 + kc18_311 := ⟨_, rfl⟩
  have ec18_320 := FF.mk ec18_320
  have uc18_320 : FF (((c18_320 : Nat) : Int) ≤ 4) := FF.mk (show ((c18_320 : Nat) : Int) ≤ 4 by have q0 := FF.out uc12_321; have q1 := FF.out hp18_315; have q2 := FF.out ec18_320; omega)
  have mc18_320 : FF (c18_320 ≤ MC) := FF.mk (Int.ofNat_le.mp (show ((c18_320 : Nat) : Int) ≤ ((MC : Nat) : Int) by have q0 := FF.out hq0; have q1 := FF.out uc18_320; omega))
  obtain ⟨k18_321, ek18_321⟩ : ∃ x9 : Nat, x9 = k12_322 + kn18_312 := ⟨_, rfl⟩
  have ek18_321 := FF.mk ek18_321
  have uk18_321 : FF (((k18_321 : Nat) : Int) ≤ 20) := FF.mk (show ((k18_321 : Nat) : Int) ≤ 20 by have q0 := FF.out uk12_322; have q1 := FF.out hp18_316; have q2 := FF.out ek18_321; omega)
  have mk18_321 : FF (k18_321 ≤ MS) := FF.mk (Int.ofNat_le.mp (show ((k18_321 : Nat) : Int) ≤ ((MS : Nat) : Int) by have q0 := FF.out hq1; have q1 := FF.out uk18_321; omega))
  have hP : va_P D vwCl (([(q0_1, .inr (14, [.int 0, .long 0, .null, .null, .int 0]))] ++ (T18_310.cells)) ++ (p12_323)) _ := hP
  have hD : va_D A (([(q0_1, .inr (14, [.int 0, .long 0, .null, .null, .int 0]))] ++ (T18_310.cells)) ++ (p12_323)) := hD
  have hP := pool_in hP
  have hD := pool_inD hD
  obtain ⟨p18_322, ep18_322⟩ : ∃ p9 : va_W, p9 = (p12_323 ++ (T18_310.cells)) := ⟨_, rfl⟩
  rw [← ep18_322] at hP hD
  have hk18_323 : FF (0 ≤ ((T18_310.sz : Nat) : Int)) := Int.natCast_nonneg _
  have hk18_324 : FF (0 ≤ ((T18_310.dep : Nat) : Int)) := Int.natCast_nonneg _
  have hk18_325 : FF (0 ≤ ((T18_310.c4 : Nat) : Int)) := Int.natCast_nonneg _
  have hP : va_P D vwCl ([(q0_1, .inr (14, [.int 0, .long 0, .null, .null, .int 0]))] ++ (p18_322)) _ := hP
  have hD : va_D A ([(q0_1, .inr (14, [.int 0, .long 0, .null, .null, .int 0]))] ++ (p18_322)) := hD
  refine W.widen (k := c18_320) (n := k18_321) (Nat.le_of_eq (FF.out ec18_320).symm) (Nat.le_of_eq (FF.out ek18_321).symm) (W.eq (g2 := F0 m 21 ls [.ref T18_310.root, .ref T12_310.root, .long 5, .int 2, .ref q0_1, .ref q0_1]) rfl ?_)
  refine lv_iconst (v := 0) hx hb dX16_noFragment_21 (by decide) ?_
  refine gq_v (k1 := c18_320) (n1 := k18_321) (wr := []) [0] [] (rn_I (As := [.int 2, .long 5, .ref T12_310.root, .ref T18_310.root, .int 0]) (rest := [.ref q0_1]) (c_X14_init_rr l D ct q0_1 (2 : Int32) (5 : Int64) T12_310.root T18_310.root (0 : Int32) (0 : Int64)  _) (cb_of (n := 5) hn mw_2044 mw_23 mw_2042 mhX14_init ⟨(Nat.le_of_ble_eq_true rfl), (Nat.le_of_ble_eq_true rfl)⟩) hx hb hml hown hn hK hSK hZ hS mw_2043 rfl rfl hl.1 (Nat.le_of_ble_eq_true rfl) dX16_noFragment_22 ⟨(FF.out mc18_320), (FF.out mk18_321)⟩) hP hD hS hA rfl rfl (by decide) (by decide) (by decide) (Nat.le_refl _) (Nat.le_refl _) (fun u22_2 H locs hp22_3 hP hD hS => ?_)
  have hP : va_P D vwCl ([(q0_1, .inr (14, [.int 2, .long 5, .ref T12_310.root, .ref T18_310.root, .int 0]))] ++ (p18_322)) _ := hP
  have hD : va_D A ([(q0_1, .inr (14, [.int 2, .long 5, .ref T12_310.root, .ref T18_310.root, .int 0]))] ++ (p18_322)) := hD
  have hP : va_P D vwCl (([] ++ [(q0_1, ST.ent (ST.two q0_1 (5 : Int64) T12_310 T18_310))]) ++ (p18_322)) _ := hP
  have hD : va_D A (([] ++ [(q0_1, ST.ent (ST.two q0_1 (5 : Int64) T12_310 T18_310))]) ++ (p18_322)) := hD
  have hP := pool_in hP
  have hD := pool_inD hD
  obtain ⟨p22_4, ep22_4⟩ : ∃ p9 : va_W, p9 = (p18_322 ++ [(q0_1, ST.ent (ST.two q0_1 (5 : Int64) T12_310 T18_310))]) := ⟨_, rfl⟩
  rw [← ep22_4] at hP hD
  have hP : va_P D vwCl ([] ++ (p22_4)) _ := hP
  have hD : va_D A ([] ++ (p22_4)) := hD
  have hk22_5 : FF ((((ST.two q0_1 (5 : Int64) T12_310 T18_310).sz : Nat) : Int) = ((T12_310.sz : Nat) : Int) + ((T18_310.sz : Nat) : Int) + 1) := (FF.mk (by simp only [ST.sz_leaf, ST.sz_minus, ST.sz_group, ST.sz_acc, ST.sz_two, ST.dep_leaf, ST.dep_minus, ST.dep_group, ST.dep_acc, ST.dep_two, ST.c4_leaf, ST.c4_minus, ST.c4_group, ST.c4_acc, ST.c4_two, FT.sz_test, FT.sz_inv, FT.sz_two, FT.sz_pair, FT.dep_test, FT.dep_inv, FT.dep_two, FT.dep_pair, FT.c4_test, FT.c4_inv, FT.c4_two, FT.c4_pair]; first | omega | (rw [if_neg (by decide)]; omega) | (rw [if_pos (by decide)]; omega) | (split <;> omega) | skip))
  have hk22_6 : FF (((T12_310.dep : Nat) : Int) ≤ (((ST.two q0_1 (5 : Int64) T12_310 T18_310).dep : Nat) : Int)) := (FF.mk (by simp only [ST.sz_leaf, ST.sz_minus, ST.sz_group, ST.sz_acc, ST.sz_two, ST.dep_leaf, ST.dep_minus, ST.dep_group, ST.dep_acc, ST.dep_two, ST.c4_leaf, ST.c4_minus, ST.c4_group, ST.c4_acc, ST.c4_two, FT.sz_test, FT.sz_inv, FT.sz_two, FT.sz_pair, FT.dep_test, FT.dep_inv, FT.dep_two, FT.dep_pair, FT.c4_test, FT.c4_inv, FT.c4_two, FT.c4_pair]; first | omega | (rw [if_neg (by decide)]; omega) | (rw [if_pos (by decide)]; omega) | (split <;> omega) | skip))
  have hk22_7 : FF (((T18_310.dep : Nat) : Int) + 1 ≤ (((ST.two q0_1 (5 : Int64) T12_310 T18_310).dep : Nat) : Int)) := (FF.mk (by simp only [ST.sz_leaf, ST.sz_minus, ST.sz_group, ST.sz_acc, ST.sz_two, ST.dep_leaf, ST.dep_minus, ST.dep_group, ST.dep_acc, ST.dep_two, ST.c4_leaf, ST.c4_minus, ST.c4_group, ST.c4_acc, ST.c4_two, FT.sz_test, FT.sz_inv, FT.sz_two, FT.sz_pair, FT.dep_test, FT.dep_inv, FT.dep_two, FT.dep_pair, FT.c4_test, FT.c4_inv, FT.c4_two, FT.c4_pair]; first | omega | (rw [if_neg (by decide)]; omega) | (rw [if_pos (by decide)]; omega) | (split <;> omega) | skip))
  have hk22_8 : FF ((((ST.two q0_1 (5 : Int64) T12_310 T18_310).dep : Nat) : Int) ≤ ((T12_310.dep : Nat) : Int) ∨ (((ST.two q0_1 (5 : Int64) T12_310 T18_310).dep : Nat) : Int) ≤ ((T18_310.dep : Nat) : Int) + 1) := (FF.mk (by simp only [ST.sz_leaf, ST.sz_minus, ST.sz_group, ST.sz_acc, ST.sz_two, ST.dep_leaf, ST.dep_minus, ST.dep_group, ST.dep_acc, ST.dep_two, ST.c4_leaf, ST.c4_minus, ST.c4_group, ST.c4_acc, ST.c4_two, FT.sz_test, FT.sz_inv, FT.sz_two, FT.sz_pair, FT.dep_test, FT.dep_inv, FT.dep_two, FT.dep_pair, FT.c4_test, FT.c4_inv, FT.c4_two, FT.c4_pair]; first | omega | (rw [if_neg (by decide)]; omega) | (rw [if_pos (by decide)]; omega) | (split <;> omega) | skip))
  have hk22_9 : FF ((((ST.two q0_1 (5 : Int64) T12_310 T18_310).c4 : Nat) : Int) = ((T12_310.c4 : Nat) : Int) + ((T18_310.c4 : Nat) : Int)) := (FF.mk (by simp only [ST.sz_leaf, ST.sz_minus, ST.sz_group, ST.sz_acc, ST.sz_two, ST.dep_leaf, ST.dep_minus, ST.dep_group, ST.dep_acc, ST.dep_two, ST.c4_leaf, ST.c4_minus, ST.c4_group, ST.c4_acc, ST.c4_two, FT.sz_test, FT.sz_inv, FT.sz_two, FT.sz_pair, FT.dep_test, FT.dep_inv, FT.dep_two, FT.dep_pair, FT.c4_test, FT.c4_inv, FT.c4_two, FT.c4_pair]; first | omega | (rw [if_neg (by decide)]; omega) | (rw [if_pos (by decide)]; omega) | (split <;> omega) | skip))
  refine lv_lconst (v := 0) hx hb dX16_noFragment_25 (by decide) ?_
  obtain ⟨m26_1, gm26_1⟩ : ∃ m9 : Nat, m9 + c18_320 = MC := ⟨MC - c18_320, Nat.sub_add_cancel (FF.out mc18_320)⟩
  have em26_1 := FF.mk gm26_1
  obtain ⟨m26_2, gm26_2⟩ : ∃ m9 : Nat, m9 + k18_321 = MS := ⟨MS - k18_321, Nat.sub_add_cancel (FF.out mk18_321)⟩
  have em26_2 := FF.mk gm26_2
  refine gt_q (pl := (p22_4)) (wr := []) [] [] (rt_S (As := [.ref q0_1, .long 0]) (rest := []) (c_X16_test l hst D ct m26_1 m26_2 (ST.two q0_1 (5 : Int64) T12_310 T18_310) (0 : Int64) (ST.ok_two hp12_314 hp18_314) (show 2 ≤ ((m26_1 : Nat) : Int) by have q0 := FF.out hq0; have q1 := FF.out uc18_320; have q2 := FF.out em26_1; omega) (show 12 ≤ ((m26_2 : Nat) : Int) by have q0 := FF.out hq1; have q1 := FF.out uk18_321; have q2 := FF.out em26_2; omega) _) (cb_of (n := 2) hn mw_2139 mw_13 mw_2137 mhX16_test ⟨(Nat.le_of_ble_eq_true rfl), (Nat.le_of_ble_eq_true rfl)⟩) hx hb hml hown hn hK hSK hZ hS mw_2138 rfl hl.1 (Nat.le_of_ble_eq_true rfl) dX16_noFragment_26 ⟨(Nat.le_of_eq ((Nat.add_comm _ _).trans gm26_1)), (Nat.le_of_eq ((Nat.add_comm _ _).trans gm26_2))⟩) hP hD hS hA rfl rfl (by decide) (by decide) (by decide) (fun xq26_6 ux26_7 xfs26_8 H locs hpx26_9 hpexfs26_8 hP hD hS => ?_) (fun r26_3 u26_4 H locs hp26_5 hP hD hS => ?_)
  · exact hpx26_9.elim
  obtain ⟨T26_310, nw26_311, kc26_312, kn26_313⟩ := u26_4
  obtain ⟨hp26_314, hp26_315, hp26_316, hp26_317, hp26_318, hp26_319, hp26_320, hp26_321⟩ := hp26_5
  subst hp26_314
  replace hp26_317 : FF (((kc26_312 : Nat) : Int) ≤ 2) := hp26_317
  replace hp26_318 : FF (((kn26_313 : Nat) : Int) ≤ 12) := hp26_318
  replace hp26_319 : FF (((T26_310.dep : Nat) : Int) = (((ST.two q0_1 (5 : Int64) T12_310 T18_310).dep : Nat) : Int)) := hp26_319
  replace hp26_320 : FF (((T26_310.sz : Nat) : Int) ≤ (((ST.two q0_1 (5 : Int64) T12_310 T18_310).sz : Nat) : Int) + 2) := hp26_320
  replace hp26_321 : FF (((T26_310.c4 : Nat) : Int) = (((ST.two q0_1 (5 : Int64) T12_310 T18_310).c4 : Nat) : Int)) := hp26_321
  obtain ⟨c26_322, ec26_322⟩ : ∃ x9 : Nat, x9 = c18_320 + kc26_312 := ⟨_, rfl⟩
  have ec26_322 := FF.mk ec26_322
  have uc26_322 : FF (((c26_322 : Nat) : Int) ≤ 6) := FF.mk (show ((c26_322 : Nat) : Int) ≤ 6 by have q0 := FF.out uc18_320; have q1 := FF.out hp26_317; have q2 := FF.out ec26_322; omega)
  have mc26_322 : FF (c26_322 ≤ MC) := FF.mk (Int.ofNat_le.mp (show ((c26_322 : Nat) : Int) ≤ ((MC : Nat) : Int) by have q0 := FF.out hq0; have q1 := FF.out uc26_322; omega))
  obtain ⟨k26_323, ek26_323⟩ : ∃ x9 : Nat, x9 = k18_321 + kn26_313 := ⟨_, rfl⟩
  have ek26_323 := FF.mk ek26_323
  have uk26_323 : FF (((k26_323 : Nat) : Int) ≤ 32) := FF.mk (show ((k26_323 : Nat) : Int) ≤ 32 by have q0 := FF.out uk18_321; have q1 := FF.out hp26_318; have q2 := FF.out ek26_323; omega)
  have mk26_323 : FF (k26_323 ≤ MS) := FF.mk (Int.ofNat_le.mp (show ((k26_323 : Nat) : Int) ≤ ((MS : Nat) : Int) by have q0 := FF.out hq1; have q1 := FF.out uk26_323; omega))
  have hP : va_P D vwCl (([] ++ nw26_311) ++ (p22_4)) _ := hP
  have hD : va_D A (([] ++ nw26_311) ++ (p22_4)) := hD
  have hP := pool_in hP
  have hD := pool_inD hD
  obtain ⟨p26_324, ep26_324⟩ : ∃ p9 : va_W, p9 = (p22_4 ++ nw26_311) := ⟨_, rfl⟩
  rw [← ep26_324] at hP hD
  have hk26_325 : FF (0 ≤ ((T26_310.sz : Nat) : Int)) := Int.natCast_nonneg _
  have hk26_326 : FF (0 ≤ ((T26_310.dep : Nat) : Int)) := Int.natCast_nonneg _
  have hk26_327 : FF (0 ≤ ((T26_310.c4 : Nat) : Int)) := Int.natCast_nonneg _
  have hP : va_P D vwCl ([] ++ (p26_324)) _ := hP
  have hD : va_D A ([] ++ (p26_324)) := hD
  refine W.widen (k := c26_322) (n := k26_323) (Nat.le_of_eq (FF.out ec26_322).symm) (Nat.le_of_eq (FF.out ek26_323).symm) (W.eq (g2 := F0 m 29 ls [.ref T26_310.root]) rfl ?_)
  have hP : va_P D vwCl ([] ++ (T26_310.cells Z0)) _ := hP.perm (seg_perm (fun f => by have w0 := seg_sum (List.Perm.of_eq ep12_323) f; have w1 := seg_sum (List.Perm.of_eq ep18_322) f; have w2 := seg_sum (List.Perm.of_eq ep22_4) f; have w3 := seg_sum hp26_316 f; have w4 := seg_sum (List.Perm.of_eq ep26_324) f; simp only [ST.cells_leaf, ST.cells_minus, ST.cells_group, ST.cells_acc, ST.cells_two, FT.cells_two, FT.cells_inv, FT.cells_test, FT.cells_pair, List.map_append, List.sum_append, List.map_nil, List.sum_nil] at w0 w1 w2 w3 w4 ⊢ <;> omega))
  have hD : va_D A ([] ++ (T26_310.cells Z0)) := hD.perm (seg_perm (fun f => by have w0 := seg_sum (List.Perm.of_eq ep12_323) f; have w1 := seg_sum (List.Perm.of_eq ep18_322) f; have w2 := seg_sum (List.Perm.of_eq ep22_4) f; have w3 := seg_sum hp26_316 f; have w4 := seg_sum (List.Perm.of_eq ep26_324) f; simp only [ST.cells_leaf, ST.cells_minus, ST.cells_group, ST.cells_acc, ST.cells_two, FT.cells_two, FT.cells_inv, FT.cells_test, FT.cells_pair, List.map_append, List.sum_append, List.map_nil, List.sum_nil] at w0 w1 w2 w3 w4 ⊢ <;> omega))
  exact et_r (SX := Unit) hQ hx hb hr hlocks dX16_noFragment_29 (T26_310, c26_322, k26_323) ⟨rfl, hp26_315, (show ((c26_322 : Nat) : Int) ≤ 6 by have q0 := FF.out uc26_322; omega), (show ((k26_323 : Nat) : Int) ≤ 32 by have q0 := FF.out uk26_323; omega), (show ((T26_310.sz : Nat) : Int) ≤ 6 by have q0 := FF.out hp12_317; have q1 := FF.out hp18_317; have q2 := FF.out hk22_5; have q3 := FF.out hp26_320; omega), (show ((T26_310.dep : Nat) : Int) ≤ 1 by have q0 := FF.out hp12_318; have q1 := FF.out hp18_318; have q2 := FF.out hk22_8; have q3 := FF.out hp26_319; omega), (show ((T26_310.c4 : Nat) : Int) ≤ 0 by have q0 := FF.out hp12_320; have q1 := FF.out hp18_319; have q2 := FF.out hk22_9; have q3 := FF.out hp26_321; have q4 := (show (2 : Int32).toInt = 2 from by decide); omega)⟩ hP hD hS [] (by decide) rfl (Nat.le_refl _) (Nat.le_refl _) (FF.out mc26_322) (FF.out mk26_323)
set_option maxHeartbeats 2000000 in
theorem c_X16_transport (l : Launch) (hst : l.stackTraces = false) (D : va_G) (ct : Nat → ClassId) (MC : Nat) (MS : Nat) (v0 : Int32) (hq0 : 19 ≤ ((MC : Nat) : Int)) (hq1 : 109 ≤ ((MS : Nat) : Int)) : KT (V := Nat) (S := FT × Nat × Nat) (SX := Unit) l yX16_transport cX16_transport 1 (some (.object "FilterForgeModel$Filter")) 6 112 D ct [.int v0] [] MC MS (fun r : Nat => some (.ref r)) (fun (r : Nat) (u : FT × Nat × Nat) => match u with | (T, kc, kn) => r = T.root ∧ T.ok ∧ (((kc : Nat) : Int) ≤ 19) ∧ (((kn : Nat) : Int) ≤ 109) ∧ (((T.sz : Nat) : Int) ≤ 19) ∧ (((T.dep : Nat) : Int) ≤ 1) ∧ (((T.c4 : Nat) : Int) ≤ 0)) (fun (u : FT × Nat × Nat) => match u with | (T, kc, kn) => [] ++ (T.cells Z0)) (fun (u : FT × Nat × Nat) => match u with | (T, kc, kn) => kc) (fun (u : FT × Nat × Nat) => match u with | (T, kc, kn) => kn) 15 RX15 peW (fun _ => False) (fun _ => []) := by
  refine KT_of (by decide) (Nat.le_of_ble_eq_true rfl) (fun p e s m below meth c A Q C0 htab hA H locs hS hP hD hQ ls hl => ?_)
  obtain ⟨hx, hb, hr, hown, hin, hml, hlocks, hn, hK, hZ, hSK⟩ := C0
  have hl : lv_has ls 1 [(0, .int v0)] := hl
  have hP : va_P D vwCl ([] ++ (([] : va_W))) H := by rw [List.append_nil]; exact hP
  have hD : va_D A ([] ++ (([] : va_W))) := by rw [List.append_nil]; exact hD
  replace hq0 := FF.mk hq0
  replace hq1 := FF.mk hq1
  refine lv_ldc2 (v := 2048) hx hb hown (hn.get mw_2127 rfl) dX16_transport_0 ?_
  obtain ⟨m3_1, gm3_1⟩ : ∃ m9 : Nat, m9 + 0 = MC := ⟨MC - 0, Nat.sub_add_cancel (Nat.zero_le MC)⟩
  have em3_1 := FF.mk gm3_1
  obtain ⟨m3_2, gm3_2⟩ : ∃ m9 : Nat, m9 + 0 = MS := ⟨MS - 0, Nat.sub_add_cancel (Nat.zero_le MS)⟩
  have em3_2 := FF.mk gm3_2
  refine gt_q (pl := (([] : va_W))) (wr := []) [] [] (rt_S (As := [.long 2048]) (rest := []) (c_X16_ether l hst D ct m3_1 m3_2 (2048 : Int64) (show 4 ≤ ((m3_1 : Nat) : Int) by have q0 := FF.out hq0; have q1 := FF.out em3_1; omega) (show 22 ≤ ((m3_2 : Nat) : Int) by have q0 := FF.out hq1; have q1 := FF.out em3_2; omega) _) (cb_of (n := 1) hn mw_2132 mw_13 mw_2130 mhX16_ether ⟨(Nat.le_of_ble_eq_true rfl), (Nat.le_of_ble_eq_true rfl)⟩) hx hb hml hown hn hK hSK hZ hS mw_2131 rfl hl.1 (Nat.le_of_ble_eq_true rfl) dX16_transport_3 ⟨(Nat.le_of_eq ((Nat.add_comm _ _).trans gm3_1)), (Nat.le_of_eq ((Nat.add_comm _ _).trans gm3_2))⟩) hP hD hS hA rfl rfl (by decide) (by decide) (by decide) (fun xq3_6 ux3_7 xfs3_8 H locs hpx3_9 hpexfs3_8 hP hD hS => ?_) (fun r3_3 u3_4 H locs hp3_5 hP hD hS => ?_)
  · exact hpx3_9.elim
  obtain ⟨T3_310, kc3_311, kn3_312⟩ := u3_4
  obtain ⟨hp3_313, hp3_314, hp3_315, hp3_316, hp3_317, hp3_318, hp3_319⟩ := hp3_5
  subst hp3_313
  replace hp3_315 : FF (((kc3_311 : Nat) : Int) ≤ 4) := hp3_315
  replace hp3_316 : FF (((kn3_312 : Nat) : Int) ≤ 22) := hp3_316
  replace hp3_317 : FF (((T3_310.sz : Nat) : Int) ≤ 4) := hp3_317
  replace hp3_318 : FF (((T3_310.dep : Nat) : Int) ≤ 1) := hp3_318
  replace hp3_319 : FF (((T3_310.c4 : Nat) : Int) ≤ 0) := hp3_319
  obtain ⟨c3_320, ec3_320⟩ : ∃ x9 : Nat, x9 = 0 + kc3_311 := ⟨_, rfl⟩
  have ec3_320 := FF.mk ec3_320
  have uc3_320 : FF (((c3_320 : Nat) : Int) ≤ 4) := FF.mk (show ((c3_320 : Nat) : Int) ≤ 4 by have q0 := FF.out hp3_315; have q1 := FF.out ec3_320; omega)
  have mc3_320 : FF (c3_320 ≤ MC) := FF.mk (Int.ofNat_le.mp (show ((c3_320 : Nat) : Int) ≤ ((MC : Nat) : Int) by have q0 := FF.out hq0; have q1 := FF.out uc3_320; omega))
  obtain ⟨k3_321, ek3_321⟩ : ∃ x9 : Nat, x9 = 0 + kn3_312 := ⟨_, rfl⟩
  have ek3_321 := FF.mk ek3_321
  have uk3_321 : FF (((k3_321 : Nat) : Int) ≤ 22) := FF.mk (show ((k3_321 : Nat) : Int) ≤ 22 by have q0 := FF.out hp3_316; have q1 := FF.out ek3_321; omega)
  have mk3_321 : FF (k3_321 ≤ MS) := FF.mk (Int.ofNat_le.mp (show ((k3_321 : Nat) : Int) ≤ ((MS : Nat) : Int) by have q0 := FF.out hq1; have q1 := FF.out uk3_321; omega))
  have hP : va_P D vwCl (([] ++ (T3_310.cells Z0)) ++ (([] : va_W))) _ := hP
  have hD : va_D A (([] ++ (T3_310.cells Z0)) ++ (([] : va_W))) := hD
  have hP := pool_in hP
  have hD := pool_inD hD
  obtain ⟨p3_322, ep3_322⟩ : ∃ p9 : va_W, p9 = (([] : va_W) ++ (T3_310.cells Z0)) := ⟨_, rfl⟩
  rw [← ep3_322] at hP hD
  have hk3_323 : FF (0 ≤ ((T3_310.sz : Nat) : Int)) := Int.natCast_nonneg _
  have hk3_324 : FF (0 ≤ ((T3_310.dep : Nat) : Int)) := Int.natCast_nonneg _
  have hk3_325 : FF (0 ≤ ((T3_310.c4 : Nat) : Int)) := Int.natCast_nonneg _
  have hP : va_P D vwCl ([] ++ (p3_322)) _ := hP
  have hD : va_D A ([] ++ (p3_322)) := hD
  refine W.widen (k := c3_320) (n := k3_321) (Nat.le_of_eq (FF.out ec3_320).symm) (Nat.le_of_eq (FF.out ek3_321).symm) (W.eq (g2 := F0 m 6 ls [.ref T3_310.root]) rfl ?_)
  refine lv_ldc2 (v := 23) hx hb hown (hn.get mw_2140 rfl) dX16_transport_6 ?_
  refine lv_iload_n hx hb dX16_transport_9 rfl (lv_at hl 0 rfl) ?_
  refine lv_i2l hx hb dX16_transport_10 rfl ?_
  refine lv_topl (fun z10_1 ez10_1 => ?_)
  have r10_2 : rl z10_1 (-2147483648) 2147483647 := rl_i2l ez10_1 (rg_any v0)
  obtain ⟨m11_1, gm11_1⟩ : ∃ m9 : Nat, m9 + c3_320 = MC := ⟨MC - c3_320, Nat.sub_add_cancel (FF.out mc3_320)⟩
  have em11_1 := FF.mk gm11_1
  obtain ⟨m11_2, gm11_2⟩ : ∃ m9 : Nat, m9 + k3_321 = MS := ⟨MS - k3_321, Nat.sub_add_cancel (FF.out mk3_321)⟩
  have em11_2 := FF.mk gm11_2
  refine gt_q (pl := (p3_322)) (wr := []) [] [] (rt_S (As := [.long 23, .long z10_1]) (rest := [.ref T3_310.root]) (c_X16_byteIs l hst D ct m11_1 m11_2 (23 : Int64) z10_1 (show 4 ≤ ((m11_1 : Nat) : Int) by have q0 := FF.out hq0; have q1 := FF.out uc3_320; have q2 := FF.out em11_1; omega) (show 22 ≤ ((m11_2 : Nat) : Int) by have q0 := FF.out hq1; have q1 := FF.out uk3_321; have q2 := FF.out em11_2; omega) _) (cb_of (n := 2) hn mw_2145 mw_13 mw_2143 mhX16_byteIs ⟨(Nat.le_of_ble_eq_true rfl), (Nat.le_of_ble_eq_true rfl)⟩) hx hb hml hown hn hK hSK hZ hS mw_2144 rfl hl.1 (Nat.le_of_ble_eq_true rfl) dX16_transport_11 ⟨(Nat.le_of_eq ((Nat.add_comm _ _).trans gm11_1)), (Nat.le_of_eq ((Nat.add_comm _ _).trans gm11_2))⟩) hP hD hS hA rfl rfl (by decide) (by decide) (by decide) (fun xq11_6 ux11_7 xfs11_8 H locs hpx11_9 hpexfs11_8 hP hD hS => ?_) (fun r11_3 u11_4 H locs hp11_5 hP hD hS => ?_)
  · exact hpx11_9.elim
  obtain ⟨T11_310, kc11_311, kn11_312⟩ := u11_4
  obtain ⟨hp11_313, hp11_314, hp11_315, hp11_316, hp11_317, hp11_318, hp11_319⟩ := hp11_5
  subst hp11_313
  replace hp11_315 : FF (((kc11_311 : Nat) : Int) ≤ 4) := hp11_315
  replace hp11_316 : FF (((kn11_312 : Nat) : Int) ≤ 22) := hp11_316
  replace hp11_317 : FF (((T11_310.sz : Nat) : Int) ≤ 4) := hp11_317
  replace hp11_318 : FF (((T11_310.dep : Nat) : Int) ≤ 1) := hp11_318
  replace hp11_319 : FF (((T11_310.c4 : Nat) : Int) ≤ 0) := hp11_319
  obtain ⟨c11_320, ec11_320⟩ : ∃ x9 : Nat, x9 = c3_320 + kc11_311 := ⟨_, rfl⟩
  have ec11_320 := FF.mk ec11_320
  have uc11_320 : FF (((c11_320 : Nat) : Int) ≤ 8) := FF.mk (show ((c11_320 : Nat) : Int) ≤ 8 by have q0 := FF.out uc3_320; have q1 := FF.out hp11_315; have q2 := FF.out ec11_320; omega)
  have mc11_320 : FF (c11_320 ≤ MC) := FF.mk (Int.ofNat_le.mp (show ((c11_320 : Nat) : Int) ≤ ((MC : Nat) : Int) by have q0 := FF.out hq0; have q1 := FF.out uc11_320; omega))
  obtain ⟨k11_321, ek11_321⟩ : ∃ x9 : Nat, x9 = k3_321 + kn11_312 := ⟨_, rfl⟩
  have ek11_321 := FF.mk ek11_321
  have uk11_321 : FF (((k11_321 : Nat) : Int) ≤ 44) := FF.mk (show ((k11_321 : Nat) : Int) ≤ 44 by have q0 := FF.out uk3_321; have q1 := FF.out hp11_316; have q2 := FF.out ek11_321; omega)
  have mk11_321 : FF (k11_321 ≤ MS) := FF.mk (Int.ofNat_le.mp (show ((k11_321 : Nat) : Int) ≤ ((MS : Nat) : Int) by have q0 := FF.out hq1; have q1 := FF.out uk11_321; omega))
  have hP : va_P D vwCl (([] ++ (T11_310.cells Z0)) ++ (p3_322)) _ := hP
  have hD : va_D A (([] ++ (T11_310.cells Z0)) ++ (p3_322)) := hD
  have hP := pool_in hP
  have hD := pool_inD hD
  obtain ⟨p11_322, ep11_322⟩ : ∃ p9 : va_W, p9 = (p3_322 ++ (T11_310.cells Z0)) := ⟨_, rfl⟩
  rw [← ep11_322] at hP hD
  have hk11_323 : FF (0 ≤ ((T11_310.sz : Nat) : Int)) := Int.natCast_nonneg _
  have hk11_324 : FF (0 ≤ ((T11_310.dep : Nat) : Int)) := Int.natCast_nonneg _
  have hk11_325 : FF (0 ≤ ((T11_310.c4 : Nat) : Int)) := Int.natCast_nonneg _
  have hP : va_P D vwCl ([] ++ (p11_322)) _ := hP
  have hD : va_D A ([] ++ (p11_322)) := hD
  refine W.widen (k := c11_320) (n := k11_321) (Nat.le_of_eq (FF.out ec11_320).symm) (Nat.le_of_eq (FF.out ek11_321).symm) (W.eq (g2 := F0 m 14 ls [.ref T11_310.root, .ref T3_310.root]) rfl ?_)
  obtain ⟨m14_1, gm14_1⟩ : ∃ m9 : Nat, m9 + c11_320 = MC := ⟨MC - c11_320, Nat.sub_add_cancel (FF.out mc11_320)⟩
  have em14_1 := FF.mk gm14_1
  obtain ⟨m14_2, gm14_2⟩ : ∃ m9 : Nat, m9 + k11_321 = MS := ⟨MS - k11_321, Nat.sub_add_cancel (FF.out mk11_321)⟩
  have em14_2 := FF.mk gm14_2
  refine gt_q (pl := (p11_322)) (wr := []) [] [] (rt_S (As := [.ref T3_310.root, .ref T11_310.root]) (rest := []) (c_X16_and l hst D ct m14_1 m14_2 T3_310 T11_310 hp3_314 hp11_314 (show 1 ≤ ((m14_1 : Nat) : Int) by have q0 := FF.out hq0; have q1 := FF.out uc11_320; have q2 := FF.out em14_1; omega) (show 7 ≤ ((m14_2 : Nat) : Int) by have q0 := FF.out hq1; have q1 := FF.out uk11_321; have q2 := FF.out em14_2; omega) _) (cb_of (n := 2) hn mw_2154 mw_13 mw_2152 mhX16_and ⟨(Nat.le_of_ble_eq_true rfl), (Nat.le_of_ble_eq_true rfl)⟩) hx hb hml hown hn hK hSK hZ hS mw_2153 rfl hl.1 (Nat.le_of_ble_eq_true rfl) dX16_transport_14 ⟨(Nat.le_of_eq ((Nat.add_comm _ _).trans gm14_1)), (Nat.le_of_eq ((Nat.add_comm _ _).trans gm14_2))⟩) hP hD hS hA rfl rfl (by decide) (by decide) (by decide) (fun xq14_6 ux14_7 xfs14_8 H locs hpx14_9 hpexfs14_8 hP hD hS => ?_) (fun r14_3 u14_4 H locs hp14_5 hP hD hS => ?_)
  · exact hpx14_9.elim
  obtain ⟨q14_310, kc14_311, kn14_312⟩ := u14_4
  obtain ⟨hp14_313, hp14_314, hp14_315⟩ := hp14_5
  replace hp14_314 : FF (((kc14_311 : Nat) : Int) ≤ 1) := hp14_314
  replace hp14_315 : FF (((kn14_312 : Nat) : Int) ≤ 7) := hp14_315
  obtain ⟨c14_316, ec14_316⟩ : ∃ x9 : Nat, x9 = c11_320 + kc14_311 := ⟨_, rfl⟩
  have ec14_316 := FF.mk ec14_316
  have uc14_316 : FF (((c14_316 : Nat) : Int) ≤ 9) := FF.mk (show ((c14_316 : Nat) : Int) ≤ 9 by have q0 := FF.out uc11_320; have q1 := FF.out hp14_314; have q2 := FF.out ec14_316; omega)
  have mc14_316 : FF (c14_316 ≤ MC) := FF.mk (Int.ofNat_le.mp (show ((c14_316 : Nat) : Int) ≤ ((MC : Nat) : Int) by have q0 := FF.out hq0; have q1 := FF.out uc14_316; omega))
  obtain ⟨k14_317, ek14_317⟩ : ∃ x9 : Nat, x9 = k11_321 + kn14_312 := ⟨_, rfl⟩
  have ek14_317 := FF.mk ek14_317
  have uk14_317 : FF (((k14_317 : Nat) : Int) ≤ 51) := FF.mk (show ((k14_317 : Nat) : Int) ≤ 51 by have q0 := FF.out uk11_321; have q1 := FF.out hp14_315; have q2 := FF.out ek14_317; omega)
  have mk14_317 : FF (k14_317 ≤ MS) := FF.mk (Int.ofNat_le.mp (show ((k14_317 : Nat) : Int) ≤ ((MS : Nat) : Int) by have q0 := FF.out hq1; have q1 := FF.out uk14_317; omega))
  subst hp14_313
  have hP : va_P D vwCl (([] ++ [(r14_3, FT.ent (FT.two r14_3 false T3_310 T11_310) (Z0 r14_3))]) ++ (p11_322)) _ := hP
  have hD : va_D A (([] ++ [(r14_3, FT.ent (FT.two r14_3 false T3_310 T11_310) (Z0 r14_3))]) ++ (p11_322)) := hD
  have hP := pool_in hP
  have hD := pool_inD hD
  obtain ⟨p14_318, ep14_318⟩ : ∃ p9 : va_W, p9 = (p11_322 ++ [(r14_3, FT.ent (FT.two r14_3 false T3_310 T11_310) (Z0 r14_3))]) := ⟨_, rfl⟩
  rw [← ep14_318] at hP hD
  have hP : va_P D vwCl ([] ++ (p14_318)) _ := hP
  have hD : va_D A ([] ++ (p14_318)) := hD
  have hk14_319 : FF ((((FT.two r14_3 false T3_310 T11_310).sz : Nat) : Int) = ((T3_310.sz : Nat) : Int) + ((T11_310.sz : Nat) : Int) + 1) := (FF.mk (by simp only [ST.sz_leaf, ST.sz_minus, ST.sz_group, ST.sz_acc, ST.sz_two, ST.dep_leaf, ST.dep_minus, ST.dep_group, ST.dep_acc, ST.dep_two, ST.c4_leaf, ST.c4_minus, ST.c4_group, ST.c4_acc, ST.c4_two, FT.sz_test, FT.sz_inv, FT.sz_two, FT.sz_pair, FT.dep_test, FT.dep_inv, FT.dep_two, FT.dep_pair, FT.c4_test, FT.c4_inv, FT.c4_two, FT.c4_pair]; first | omega | (rw [if_neg (by decide)]; omega) | (rw [if_pos (by decide)]; omega) | (split <;> omega) | skip))
  have hk14_320 : FF (((T3_310.dep : Nat) : Int) ≤ (((FT.two r14_3 false T3_310 T11_310).dep : Nat) : Int)) := (FF.mk (by simp only [ST.sz_leaf, ST.sz_minus, ST.sz_group, ST.sz_acc, ST.sz_two, ST.dep_leaf, ST.dep_minus, ST.dep_group, ST.dep_acc, ST.dep_two, ST.c4_leaf, ST.c4_minus, ST.c4_group, ST.c4_acc, ST.c4_two, FT.sz_test, FT.sz_inv, FT.sz_two, FT.sz_pair, FT.dep_test, FT.dep_inv, FT.dep_two, FT.dep_pair, FT.c4_test, FT.c4_inv, FT.c4_two, FT.c4_pair]; first | omega | (rw [if_neg (by decide)]; omega) | (rw [if_pos (by decide)]; omega) | (split <;> omega) | skip))
  have hk14_321 : FF (((T11_310.dep : Nat) : Int) ≤ (((FT.two r14_3 false T3_310 T11_310).dep : Nat) : Int)) := (FF.mk (by simp only [ST.sz_leaf, ST.sz_minus, ST.sz_group, ST.sz_acc, ST.sz_two, ST.dep_leaf, ST.dep_minus, ST.dep_group, ST.dep_acc, ST.dep_two, ST.c4_leaf, ST.c4_minus, ST.c4_group, ST.c4_acc, ST.c4_two, FT.sz_test, FT.sz_inv, FT.sz_two, FT.sz_pair, FT.dep_test, FT.dep_inv, FT.dep_two, FT.dep_pair, FT.c4_test, FT.c4_inv, FT.c4_two, FT.c4_pair]; first | omega | (rw [if_neg (by decide)]; omega) | (rw [if_pos (by decide)]; omega) | (split <;> omega) | skip))
  have hk14_322 : FF ((((FT.two r14_3 false T3_310 T11_310).dep : Nat) : Int) ≤ ((T3_310.dep : Nat) : Int) ∨ (((FT.two r14_3 false T3_310 T11_310).dep : Nat) : Int) ≤ ((T11_310.dep : Nat) : Int)) := (FF.mk (by simp only [ST.sz_leaf, ST.sz_minus, ST.sz_group, ST.sz_acc, ST.sz_two, ST.dep_leaf, ST.dep_minus, ST.dep_group, ST.dep_acc, ST.dep_two, ST.c4_leaf, ST.c4_minus, ST.c4_group, ST.c4_acc, ST.c4_two, FT.sz_test, FT.sz_inv, FT.sz_two, FT.sz_pair, FT.dep_test, FT.dep_inv, FT.dep_two, FT.dep_pair, FT.c4_test, FT.c4_inv, FT.c4_two, FT.c4_pair]; first | omega | (rw [if_neg (by decide)]; omega) | (rw [if_pos (by decide)]; omega) | (split <;> omega) | skip))
  have hk14_323 : FF ((((FT.two r14_3 false T3_310 T11_310).c4 : Nat) : Int) = ((T3_310.c4 : Nat) : Int) + ((T11_310.c4 : Nat) : Int)) := (FF.mk (by simp only [ST.sz_leaf, ST.sz_minus, ST.sz_group, ST.sz_acc, ST.sz_two, ST.dep_leaf, ST.dep_minus, ST.dep_group, ST.dep_acc, ST.dep_two, ST.c4_leaf, ST.c4_minus, ST.c4_group, ST.c4_acc, ST.c4_two, FT.sz_test, FT.sz_inv, FT.sz_two, FT.sz_pair, FT.dep_test, FT.dep_inv, FT.dep_two, FT.dep_pair, FT.c4_test, FT.c4_inv, FT.c4_two, FT.c4_pair]; first | omega | (rw [if_neg (by decide)]; omega) | (rw [if_pos (by decide)]; omega) | (split <;> omega) | skip))
  have hP : va_P D vwCl ([] ++ (p14_318)) _ := hP
  have hD : va_D A ([] ++ (p14_318)) := hD
  refine W.widen (k := c14_316) (n := k14_317) (Nat.le_of_eq (FF.out ec14_316).symm) (Nat.le_of_eq (FF.out ek14_317).symm) (W.eq (g2 := F0 m 17 ls [.ref r14_3]) rfl ?_)
  refine lv_ldc2 (v := 34525) hx hb hown (hn.get mw_2128 rfl) dX16_transport_17 ?_
  obtain ⟨m20_1, gm20_1⟩ : ∃ m9 : Nat, m9 + c14_316 = MC := ⟨MC - c14_316, Nat.sub_add_cancel (FF.out mc14_316)⟩
  have em20_1 := FF.mk gm20_1
  obtain ⟨m20_2, gm20_2⟩ : ∃ m9 : Nat, m9 + k14_317 = MS := ⟨MS - k14_317, Nat.sub_add_cancel (FF.out mk14_317)⟩
  have em20_2 := FF.mk gm20_2
  refine gt_q (pl := (p14_318)) (wr := []) [] [] (rt_S (As := [.long 34525]) (rest := [.ref r14_3]) (c_X16_ether l hst D ct m20_1 m20_2 (34525 : Int64) (show 4 ≤ ((m20_1 : Nat) : Int) by have q0 := FF.out hq0; have q1 := FF.out uc14_316; have q2 := FF.out em20_1; omega) (show 22 ≤ ((m20_2 : Nat) : Int) by have q0 := FF.out hq1; have q1 := FF.out uk14_317; have q2 := FF.out em20_2; omega) _) (cb_of (n := 1) hn mw_2132 mw_13 mw_2130 mhX16_ether ⟨(Nat.le_of_ble_eq_true rfl), (Nat.le_of_ble_eq_true rfl)⟩) hx hb hml hown hn hK hSK hZ hS mw_2131 rfl hl.1 (Nat.le_of_ble_eq_true rfl) dX16_transport_20 ⟨(Nat.le_of_eq ((Nat.add_comm _ _).trans gm20_1)), (Nat.le_of_eq ((Nat.add_comm _ _).trans gm20_2))⟩) hP hD hS hA rfl rfl (by decide) (by decide) (by decide) (fun xq20_6 ux20_7 xfs20_8 H locs hpx20_9 hpexfs20_8 hP hD hS => ?_) (fun r20_3 u20_4 H locs hp20_5 hP hD hS => ?_)
  · exact hpx20_9.elim
  obtain ⟨T20_310, kc20_311, kn20_312⟩ := u20_4
  obtain ⟨hp20_313, hp20_314, hp20_315, hp20_316, hp20_317, hp20_318, hp20_319⟩ := hp20_5
  subst hp20_313
  replace hp20_315 : FF (((kc20_311 : Nat) : Int) ≤ 4) := hp20_315
  replace hp20_316 : FF (((kn20_312 : Nat) : Int) ≤ 22) := hp20_316
  replace hp20_317 : FF (((T20_310.sz : Nat) : Int) ≤ 4) := hp20_317
  replace hp20_318 : FF (((T20_310.dep : Nat) : Int) ≤ 1) := hp20_318
  replace hp20_319 : FF (((T20_310.c4 : Nat) : Int) ≤ 0) := hp20_319
  obtain ⟨c20_320, ec20_320⟩ : ∃ x9 : Nat, x9 = c14_316 + kc20_311 := ⟨_, rfl⟩
  have ec20_320 := FF.mk ec20_320
  have uc20_320 : FF (((c20_320 : Nat) : Int) ≤ 13) := FF.mk (show ((c20_320 : Nat) : Int) ≤ 13 by have q0 := FF.out uc14_316; have q1 := FF.out hp20_315; have q2 := FF.out ec20_320; omega)
  have mc20_320 : FF (c20_320 ≤ MC) := FF.mk (Int.ofNat_le.mp (show ((c20_320 : Nat) : Int) ≤ ((MC : Nat) : Int) by have q0 := FF.out hq0; have q1 := FF.out uc20_320; omega))
  obtain ⟨k20_321, ek20_321⟩ : ∃ x9 : Nat, x9 = k14_317 + kn20_312 := ⟨_, rfl⟩
  have ek20_321 := FF.mk ek20_321
  have uk20_321 : FF (((k20_321 : Nat) : Int) ≤ 73) := FF.mk (show ((k20_321 : Nat) : Int) ≤ 73 by have q0 := FF.out uk14_317; have q1 := FF.out hp20_316; have q2 := FF.out ek20_321; omega)
  have mk20_321 : FF (k20_321 ≤ MS) := FF.mk (Int.ofNat_le.mp (show ((k20_321 : Nat) : Int) ≤ ((MS : Nat) : Int) by have q0 := FF.out hq1; have q1 := FF.out uk20_321; omega))
  have hP : va_P D vwCl (([] ++ (T20_310.cells Z0)) ++ (p14_318)) _ := hP
  have hD : va_D A (([] ++ (T20_310.cells Z0)) ++ (p14_318)) := hD
  have hP := pool_in hP
  have hD := pool_inD hD
  obtain ⟨p20_322, ep20_322⟩ : ∃ p9 : va_W, p9 = (p14_318 ++ (T20_310.cells Z0)) := ⟨_, rfl⟩
  rw [← ep20_322] at hP hD
  have hk20_323 : FF (0 ≤ ((T20_310.sz : Nat) : Int)) := Int.natCast_nonneg _
  have hk20_324 : FF (0 ≤ ((T20_310.dep : Nat) : Int)) := Int.natCast_nonneg _
  have hk20_325 : FF (0 ≤ ((T20_310.c4 : Nat) : Int)) := Int.natCast_nonneg _
  have hP : va_P D vwCl ([] ++ (p20_322)) _ := hP
  have hD : va_D A ([] ++ (p20_322)) := hD
  refine W.widen (k := c20_320) (n := k20_321) (Nat.le_of_eq (FF.out ec20_320).symm) (Nat.le_of_eq (FF.out ek20_321).symm) (W.eq (g2 := F0 m 23 ls [.ref T20_310.root, .ref r14_3]) rfl ?_)
  refine lv_ldc2 (v := 20) hx hb hown (hn.get mw_2150 rfl) dX16_transport_23 ?_
  refine lv_iload_n hx hb dX16_transport_26 rfl (lv_at hl 0 rfl) ?_
  refine lv_i2l hx hb dX16_transport_27 rfl ?_
  refine lv_topl (fun z27_1 ez27_1 => ?_)
  have r27_2 : rl z27_1 (-2147483648) 2147483647 := rl_i2l ez27_1 (rg_any v0)
  obtain ⟨m28_1, gm28_1⟩ : ∃ m9 : Nat, m9 + c20_320 = MC := ⟨MC - c20_320, Nat.sub_add_cancel (FF.out mc20_320)⟩
  have em28_1 := FF.mk gm28_1
  obtain ⟨m28_2, gm28_2⟩ : ∃ m9 : Nat, m9 + k20_321 = MS := ⟨MS - k20_321, Nat.sub_add_cancel (FF.out mk20_321)⟩
  have em28_2 := FF.mk gm28_2
  refine gt_q (pl := (p20_322)) (wr := []) [] [] (rt_S (As := [.long 20, .long z27_1]) (rest := [.ref T20_310.root, .ref r14_3]) (c_X16_byteIs l hst D ct m28_1 m28_2 (20 : Int64) z27_1 (show 4 ≤ ((m28_1 : Nat) : Int) by have q0 := FF.out hq0; have q1 := FF.out uc20_320; have q2 := FF.out em28_1; omega) (show 22 ≤ ((m28_2 : Nat) : Int) by have q0 := FF.out hq1; have q1 := FF.out uk20_321; have q2 := FF.out em28_2; omega) _) (cb_of (n := 2) hn mw_2145 mw_13 mw_2143 mhX16_byteIs ⟨(Nat.le_of_ble_eq_true rfl), (Nat.le_of_ble_eq_true rfl)⟩) hx hb hml hown hn hK hSK hZ hS mw_2144 rfl hl.1 (Nat.le_of_ble_eq_true rfl) dX16_transport_28 ⟨(Nat.le_of_eq ((Nat.add_comm _ _).trans gm28_1)), (Nat.le_of_eq ((Nat.add_comm _ _).trans gm28_2))⟩) hP hD hS hA rfl rfl (by decide) (by decide) (by decide) (fun xq28_6 ux28_7 xfs28_8 H locs hpx28_9 hpexfs28_8 hP hD hS => ?_) (fun r28_3 u28_4 H locs hp28_5 hP hD hS => ?_)
  · exact hpx28_9.elim
  obtain ⟨T28_310, kc28_311, kn28_312⟩ := u28_4
  obtain ⟨hp28_313, hp28_314, hp28_315, hp28_316, hp28_317, hp28_318, hp28_319⟩ := hp28_5
  subst hp28_313
  replace hp28_315 : FF (((kc28_311 : Nat) : Int) ≤ 4) := hp28_315
  replace hp28_316 : FF (((kn28_312 : Nat) : Int) ≤ 22) := hp28_316
  replace hp28_317 : FF (((T28_310.sz : Nat) : Int) ≤ 4) := hp28_317
  replace hp28_318 : FF (((T28_310.dep : Nat) : Int) ≤ 1) := hp28_318
  replace hp28_319 : FF (((T28_310.c4 : Nat) : Int) ≤ 0) := hp28_319
  obtain ⟨c28_320, ec28_320⟩ : ∃ x9 : Nat, x9 = c20_320 + kc28_311 := ⟨_, rfl⟩
  have ec28_320 := FF.mk ec28_320
  have uc28_320 : FF (((c28_320 : Nat) : Int) ≤ 17) := FF.mk (show ((c28_320 : Nat) : Int) ≤ 17 by have q0 := FF.out uc20_320; have q1 := FF.out hp28_315; have q2 := FF.out ec28_320; omega)
  have mc28_320 : FF (c28_320 ≤ MC) := FF.mk (Int.ofNat_le.mp (show ((c28_320 : Nat) : Int) ≤ ((MC : Nat) : Int) by have q0 := FF.out hq0; have q1 := FF.out uc28_320; omega))
  obtain ⟨k28_321, ek28_321⟩ : ∃ x9 : Nat, x9 = k20_321 + kn28_312 := ⟨_, rfl⟩
  have ek28_321 := FF.mk ek28_321
  have uk28_321 : FF (((k28_321 : Nat) : Int) ≤ 95) := FF.mk (show ((k28_321 : Nat) : Int) ≤ 95 by have q0 := FF.out uk20_321; have q1 := FF.out hp28_316; have q2 := FF.out ek28_321; omega)
  have mk28_321 : FF (k28_321 ≤ MS) := FF.mk (Int.ofNat_le.mp (show ((k28_321 : Nat) : Int) ≤ ((MS : Nat) : Int) by have q0 := FF.out hq1; have q1 := FF.out uk28_321; omega))
  have hP : va_P D vwCl (([] ++ (T28_310.cells Z0)) ++ (p20_322)) _ := hP
  have hD : va_D A (([] ++ (T28_310.cells Z0)) ++ (p20_322)) := hD
  have hP := pool_in hP
  have hD := pool_inD hD
  obtain ⟨p28_322, ep28_322⟩ : ∃ p9 : va_W, p9 = (p20_322 ++ (T28_310.cells Z0)) := ⟨_, rfl⟩
  rw [← ep28_322] at hP hD
  have hk28_323 : FF (0 ≤ ((T28_310.sz : Nat) : Int)) := Int.natCast_nonneg _
  have hk28_324 : FF (0 ≤ ((T28_310.dep : Nat) : Int)) := Int.natCast_nonneg _
  have hk28_325 : FF (0 ≤ ((T28_310.c4 : Nat) : Int)) := Int.natCast_nonneg _
  have hP : va_P D vwCl ([] ++ (p28_322)) _ := hP
  have hD : va_D A ([] ++ (p28_322)) := hD
  refine W.widen (k := c28_320) (n := k28_321) (Nat.le_of_eq (FF.out ec28_320).symm) (Nat.le_of_eq (FF.out ek28_321).symm) (W.eq (g2 := F0 m 31 ls [.ref T28_310.root, .ref T20_310.root, .ref r14_3]) rfl ?_)
  obtain ⟨m31_1, gm31_1⟩ : ∃ m9 : Nat, m9 + c28_320 = MC := ⟨MC - c28_320, Nat.sub_add_cancel (FF.out mc28_320)⟩
  have em31_1 := FF.mk gm31_1
  obtain ⟨m31_2, gm31_2⟩ : ∃ m9 : Nat, m9 + k28_321 = MS := ⟨MS - k28_321, Nat.sub_add_cancel (FF.out mk28_321)⟩
  have em31_2 := FF.mk gm31_2
  refine gt_q (pl := (p28_322)) (wr := []) [] [] (rt_S (As := [.ref T20_310.root, .ref T28_310.root]) (rest := [.ref r14_3]) (c_X16_and l hst D ct m31_1 m31_2 T20_310 T28_310 hp20_314 hp28_314 (show 1 ≤ ((m31_1 : Nat) : Int) by have q0 := FF.out hq0; have q1 := FF.out uc28_320; have q2 := FF.out em31_1; omega) (show 7 ≤ ((m31_2 : Nat) : Int) by have q0 := FF.out hq1; have q1 := FF.out uk28_321; have q2 := FF.out em31_2; omega) _) (cb_of (n := 2) hn mw_2154 mw_13 mw_2152 mhX16_and ⟨(Nat.le_of_ble_eq_true rfl), (Nat.le_of_ble_eq_true rfl)⟩) hx hb hml hown hn hK hSK hZ hS mw_2153 rfl hl.1 (Nat.le_of_ble_eq_true rfl) dX16_transport_31 ⟨(Nat.le_of_eq ((Nat.add_comm _ _).trans gm31_1)), (Nat.le_of_eq ((Nat.add_comm _ _).trans gm31_2))⟩) hP hD hS hA rfl rfl (by decide) (by decide) (by decide) (fun xq31_6 ux31_7 xfs31_8 H locs hpx31_9 hpexfs31_8 hP hD hS => ?_) (fun r31_3 u31_4 H locs hp31_5 hP hD hS => ?_)
  · exact hpx31_9.elim
  obtain ⟨q31_310, kc31_311, kn31_312⟩ := u31_4
  obtain ⟨hp31_313, hp31_314, hp31_315⟩ := hp31_5
  replace hp31_314 : FF (((kc31_311 : Nat) : Int) ≤ 1) := hp31_314
  replace hp31_315 : FF (((kn31_312 : Nat) : Int) ≤ 7) := hp31_315
  obtain ⟨c31_316, ec31_316⟩ : ∃ x9 : Nat, x9 = c28_320 + kc31_311 := ⟨_, rfl⟩
  have ec31_316 := FF.mk ec31_316
  have uc31_316 : FF (((c31_316 : Nat) : Int) ≤ 18) := FF.mk (show ((c31_316 : Nat) : Int) ≤ 18 by have q0 := FF.out uc28_320; have q1 := FF.out hp31_314; have q2 := FF.out ec31_316; omega)
  have mc31_316 : FF (c31_316 ≤ MC) := FF.mk (Int.ofNat_le.mp (show ((c31_316 : Nat) : Int) ≤ ((MC : Nat) : Int) by have q0 := FF.out hq0; have q1 := FF.out uc31_316; omega))
  obtain ⟨k31_317, ek31_317⟩ : ∃ x9 : Nat, x9 = k28_321 + kn31_312 := ⟨_, rfl⟩
  have ek31_317 := FF.mk ek31_317
  have uk31_317 : FF (((k31_317 : Nat) : Int) ≤ 102) := FF.mk (show ((k31_317 : Nat) : Int) ≤ 102 by have q0 := FF.out uk28_321; have q1 := FF.out hp31_315; have q2 := FF.out ek31_317; omega)
  have mk31_317 : FF (k31_317 ≤ MS) := FF.mk (Int.ofNat_le.mp (show ((k31_317 : Nat) : Int) ≤ ((MS : Nat) : Int) by have q0 := FF.out hq1; have q1 := FF.out uk31_317; omega))
  subst hp31_313
  have hP : va_P D vwCl (([] ++ [(r31_3, FT.ent (FT.two r31_3 false T20_310 T28_310) (Z0 r31_3))]) ++ (p28_322)) _ := hP
  have hD : va_D A (([] ++ [(r31_3, FT.ent (FT.two r31_3 false T20_310 T28_310) (Z0 r31_3))]) ++ (p28_322)) := hD
  have hP := pool_in hP
  have hD := pool_inD hD
  obtain ⟨p31_318, ep31_318⟩ : ∃ p9 : va_W, p9 = (p28_322 ++ [(r31_3, FT.ent (FT.two r31_3 false T20_310 T28_310) (Z0 r31_3))]) := ⟨_, rfl⟩
  rw [← ep31_318] at hP hD
  have hP : va_P D vwCl ([] ++ (p31_318)) _ := hP
  have hD : va_D A ([] ++ (p31_318)) := hD
  have hk31_319 : FF ((((FT.two r31_3 false T20_310 T28_310).sz : Nat) : Int) = ((T20_310.sz : Nat) : Int) + ((T28_310.sz : Nat) : Int) + 1) := (FF.mk (by simp only [ST.sz_leaf, ST.sz_minus, ST.sz_group, ST.sz_acc, ST.sz_two, ST.dep_leaf, ST.dep_minus, ST.dep_group, ST.dep_acc, ST.dep_two, ST.c4_leaf, ST.c4_minus, ST.c4_group, ST.c4_acc, ST.c4_two, FT.sz_test, FT.sz_inv, FT.sz_two, FT.sz_pair, FT.dep_test, FT.dep_inv, FT.dep_two, FT.dep_pair, FT.c4_test, FT.c4_inv, FT.c4_two, FT.c4_pair]; first | omega | (rw [if_neg (by decide)]; omega) | (rw [if_pos (by decide)]; omega) | (split <;> omega) | skip))
  have hk31_320 : FF (((T20_310.dep : Nat) : Int) ≤ (((FT.two r31_3 false T20_310 T28_310).dep : Nat) : Int)) := (FF.mk (by simp only [ST.sz_leaf, ST.sz_minus, ST.sz_group, ST.sz_acc, ST.sz_two, ST.dep_leaf, ST.dep_minus, ST.dep_group, ST.dep_acc, ST.dep_two, ST.c4_leaf, ST.c4_minus, ST.c4_group, ST.c4_acc, ST.c4_two, FT.sz_test, FT.sz_inv, FT.sz_two, FT.sz_pair, FT.dep_test, FT.dep_inv, FT.dep_two, FT.dep_pair, FT.c4_test, FT.c4_inv, FT.c4_two, FT.c4_pair]; first | omega | (rw [if_neg (by decide)]; omega) | (rw [if_pos (by decide)]; omega) | (split <;> omega) | skip))
  have hk31_321 : FF (((T28_310.dep : Nat) : Int) ≤ (((FT.two r31_3 false T20_310 T28_310).dep : Nat) : Int)) := (FF.mk (by simp only [ST.sz_leaf, ST.sz_minus, ST.sz_group, ST.sz_acc, ST.sz_two, ST.dep_leaf, ST.dep_minus, ST.dep_group, ST.dep_acc, ST.dep_two, ST.c4_leaf, ST.c4_minus, ST.c4_group, ST.c4_acc, ST.c4_two, FT.sz_test, FT.sz_inv, FT.sz_two, FT.sz_pair, FT.dep_test, FT.dep_inv, FT.dep_two, FT.dep_pair, FT.c4_test, FT.c4_inv, FT.c4_two, FT.c4_pair]; first | omega | (rw [if_neg (by decide)]; omega) | (rw [if_pos (by decide)]; omega) | (split <;> omega) | skip))
  have hk31_322 : FF ((((FT.two r31_3 false T20_310 T28_310).dep : Nat) : Int) ≤ ((T20_310.dep : Nat) : Int) ∨ (((FT.two r31_3 false T20_310 T28_310).dep : Nat) : Int) ≤ ((T28_310.dep : Nat) : Int)) := (FF.mk (by simp only [ST.sz_leaf, ST.sz_minus, ST.sz_group, ST.sz_acc, ST.sz_two, ST.dep_leaf, ST.dep_minus, ST.dep_group, ST.dep_acc, ST.dep_two, ST.c4_leaf, ST.c4_minus, ST.c4_group, ST.c4_acc, ST.c4_two, FT.sz_test, FT.sz_inv, FT.sz_two, FT.sz_pair, FT.dep_test, FT.dep_inv, FT.dep_two, FT.dep_pair, FT.c4_test, FT.c4_inv, FT.c4_two, FT.c4_pair]; first | omega | (rw [if_neg (by decide)]; omega) | (rw [if_pos (by decide)]; omega) | (split <;> omega) | skip))
  have hk31_323 : FF ((((FT.two r31_3 false T20_310 T28_310).c4 : Nat) : Int) = ((T20_310.c4 : Nat) : Int) + ((T28_310.c4 : Nat) : Int)) := (FF.mk (by simp only [ST.sz_leaf, ST.sz_minus, ST.sz_group, ST.sz_acc, ST.sz_two, ST.dep_leaf, ST.dep_minus, ST.dep_group, ST.dep_acc, ST.dep_two, ST.c4_leaf, ST.c4_minus, ST.c4_group, ST.c4_acc, ST.c4_two, FT.sz_test, FT.sz_inv, FT.sz_two, FT.sz_pair, FT.dep_test, FT.dep_inv, FT.dep_two, FT.dep_pair, FT.c4_test, FT.c4_inv, FT.c4_two, FT.c4_pair]; first | omega | (rw [if_neg (by decide)]; omega) | (rw [if_pos (by decide)]; omega) | (split <;> omega) | skip))
  have hP : va_P D vwCl ([] ++ (p31_318)) _ := hP
  have hD : va_D A ([] ++ (p31_318)) := hD
  refine W.widen (k := c31_316) (n := k31_317) (Nat.le_of_eq (FF.out ec31_316).symm) (Nat.le_of_eq (FF.out ek31_317).symm) (W.eq (g2 := F0 m 34 ls [.ref r31_3, .ref r14_3]) rfl ?_)
  obtain ⟨m34_1, gm34_1⟩ : ∃ m9 : Nat, m9 + c31_316 = MC := ⟨MC - c31_316, Nat.sub_add_cancel (FF.out mc31_316)⟩
  have em34_1 := FF.mk gm34_1
  obtain ⟨m34_2, gm34_2⟩ : ∃ m9 : Nat, m9 + k31_317 = MS := ⟨MS - k31_317, Nat.sub_add_cancel (FF.out mk31_317)⟩
  have em34_2 := FF.mk gm34_2
  refine gt_q (pl := (p31_318)) (wr := []) [] [] (rt_S (As := [.ref r14_3, .ref r31_3]) (rest := []) (c_X16_or l hst D ct m34_1 m34_2 (FT.two r14_3 false T3_310 T11_310) (FT.two r31_3 false T20_310 T28_310) (FT.ok_two hp3_314 hp11_314) (FT.ok_two hp20_314 hp28_314) (show 1 ≤ ((m34_1 : Nat) : Int) by have q0 := FF.out hq0; have q1 := FF.out uc31_316; have q2 := FF.out em34_1; omega) (show 7 ≤ ((m34_2 : Nat) : Int) by have q0 := FF.out hq1; have q1 := FF.out uk31_317; have q2 := FF.out em34_2; omega) _) (cb_of (n := 2) hn mw_2163 mw_13 mw_2161 mhX16_or ⟨(Nat.le_of_ble_eq_true rfl), (Nat.le_of_ble_eq_true rfl)⟩) hx hb hml hown hn hK hSK hZ hS mw_2162 rfl hl.1 (Nat.le_of_ble_eq_true rfl) dX16_transport_34 ⟨(Nat.le_of_eq ((Nat.add_comm _ _).trans gm34_1)), (Nat.le_of_eq ((Nat.add_comm _ _).trans gm34_2))⟩) hP hD hS hA rfl rfl (by decide) (by decide) (by decide) (fun xq34_6 ux34_7 xfs34_8 H locs hpx34_9 hpexfs34_8 hP hD hS => ?_) (fun r34_3 u34_4 H locs hp34_5 hP hD hS => ?_)
  · exact hpx34_9.elim
  obtain ⟨q34_310, kc34_311, kn34_312⟩ := u34_4
  obtain ⟨hp34_313, hp34_314, hp34_315⟩ := hp34_5
  replace hp34_314 : FF (((kc34_311 : Nat) : Int) ≤ 1) := hp34_314
  replace hp34_315 : FF (((kn34_312 : Nat) : Int) ≤ 7) := hp34_315
  obtain ⟨c34_316, ec34_316⟩ : ∃ x9 : Nat, x9 = c31_316 + kc34_311 := ⟨_, rfl⟩
  have ec34_316 := FF.mk ec34_316
  have uc34_316 : FF (((c34_316 : Nat) : Int) ≤ 19) := FF.mk (show ((c34_316 : Nat) : Int) ≤ 19 by have q0 := FF.out uc31_316; have q1 := FF.out hp34_314; have q2 := FF.out ec34_316; omega)
  have mc34_316 : FF (c34_316 ≤ MC) := FF.mk (Int.ofNat_le.mp (show ((c34_316 : Nat) : Int) ≤ ((MC : Nat) : Int) by have q0 := FF.out hq0; have q1 := FF.out uc34_316; omega))
  obtain ⟨k34_317, ek34_317⟩ : ∃ x9 : Nat, x9 = k31_317 + kn34_312 := ⟨_, rfl⟩
  have ek34_317 := FF.mk ek34_317
  have uk34_317 : FF (((k34_317 : Nat) : Int) ≤ 109) := FF.mk (show ((k34_317 : Nat) : Int) ≤ 109 by have q0 := FF.out uk31_317; have q1 := FF.out hp34_315; have q2 := FF.out ek34_317; omega)
  have mk34_317 : FF (k34_317 ≤ MS) := FF.mk (Int.ofNat_le.mp (show ((k34_317 : Nat) : Int) ≤ ((MS : Nat) : Int) by have q0 := FF.out hq1; have q1 := FF.out uk34_317; omega))
  subst hp34_313
  have hP : va_P D vwCl (([] ++ [(r34_3, FT.ent (FT.two r34_3 true (FT.two r14_3 false T3_310 T11_310) (FT.two r31_3 false T20_310 T28_310)) (Z0 r34_3))]) ++ (p31_318)) _ := hP
  have hD : va_D A (([] ++ [(r34_3, FT.ent (FT.two r34_3 true (FT.two r14_3 false T3_310 T11_310) (FT.two r31_3 false T20_310 T28_310)) (Z0 r34_3))]) ++ (p31_318)) := hD
  have hP := pool_in hP
  have hD := pool_inD hD
  obtain ⟨p34_318, ep34_318⟩ : ∃ p9 : va_W, p9 = (p31_318 ++ [(r34_3, FT.ent (FT.two r34_3 true (FT.two r14_3 false T3_310 T11_310) (FT.two r31_3 false T20_310 T28_310)) (Z0 r34_3))]) := ⟨_, rfl⟩
  rw [← ep34_318] at hP hD
  have hP : va_P D vwCl ([] ++ (p34_318)) _ := hP
  have hD : va_D A ([] ++ (p34_318)) := hD
  have hk34_319 : FF ((((FT.two r34_3 true (FT.two r14_3 false T3_310 T11_310) (FT.two r31_3 false T20_310 T28_310)).sz : Nat) : Int) = (((FT.two r14_3 false T3_310 T11_310).sz : Nat) : Int) + (((FT.two r31_3 false T20_310 T28_310).sz : Nat) : Int) + 1) := (FF.mk (by simp only [ST.sz_leaf, ST.sz_minus, ST.sz_group, ST.sz_acc, ST.sz_two, ST.dep_leaf, ST.dep_minus, ST.dep_group, ST.dep_acc, ST.dep_two, ST.c4_leaf, ST.c4_minus, ST.c4_group, ST.c4_acc, ST.c4_two, FT.sz_test, FT.sz_inv, FT.sz_two, FT.sz_pair, FT.dep_test, FT.dep_inv, FT.dep_two, FT.dep_pair, FT.c4_test, FT.c4_inv, FT.c4_two, FT.c4_pair]; first | omega | (rw [if_neg (by decide)]; omega) | (rw [if_pos (by decide)]; omega) | (split <;> omega) | skip))
  have hk34_320 : FF ((((FT.two r14_3 false T3_310 T11_310).dep : Nat) : Int) ≤ (((FT.two r34_3 true (FT.two r14_3 false T3_310 T11_310) (FT.two r31_3 false T20_310 T28_310)).dep : Nat) : Int)) := (FF.mk (by simp only [ST.sz_leaf, ST.sz_minus, ST.sz_group, ST.sz_acc, ST.sz_two, ST.dep_leaf, ST.dep_minus, ST.dep_group, ST.dep_acc, ST.dep_two, ST.c4_leaf, ST.c4_minus, ST.c4_group, ST.c4_acc, ST.c4_two, FT.sz_test, FT.sz_inv, FT.sz_two, FT.sz_pair, FT.dep_test, FT.dep_inv, FT.dep_two, FT.dep_pair, FT.c4_test, FT.c4_inv, FT.c4_two, FT.c4_pair]; first | omega | (rw [if_neg (by decide)]; omega) | (rw [if_pos (by decide)]; omega) | (split <;> omega) | skip))
  have hk34_321 : FF ((((FT.two r31_3 false T20_310 T28_310).dep : Nat) : Int) ≤ (((FT.two r34_3 true (FT.two r14_3 false T3_310 T11_310) (FT.two r31_3 false T20_310 T28_310)).dep : Nat) : Int)) := (FF.mk (by simp only [ST.sz_leaf, ST.sz_minus, ST.sz_group, ST.sz_acc, ST.sz_two, ST.dep_leaf, ST.dep_minus, ST.dep_group, ST.dep_acc, ST.dep_two, ST.c4_leaf, ST.c4_minus, ST.c4_group, ST.c4_acc, ST.c4_two, FT.sz_test, FT.sz_inv, FT.sz_two, FT.sz_pair, FT.dep_test, FT.dep_inv, FT.dep_two, FT.dep_pair, FT.c4_test, FT.c4_inv, FT.c4_two, FT.c4_pair]; first | omega | (rw [if_neg (by decide)]; omega) | (rw [if_pos (by decide)]; omega) | (split <;> omega) | skip))
  have hk34_322 : FF ((((FT.two r34_3 true (FT.two r14_3 false T3_310 T11_310) (FT.two r31_3 false T20_310 T28_310)).dep : Nat) : Int) ≤ (((FT.two r14_3 false T3_310 T11_310).dep : Nat) : Int) ∨ (((FT.two r34_3 true (FT.two r14_3 false T3_310 T11_310) (FT.two r31_3 false T20_310 T28_310)).dep : Nat) : Int) ≤ (((FT.two r31_3 false T20_310 T28_310).dep : Nat) : Int)) := (FF.mk (by simp only [ST.sz_leaf, ST.sz_minus, ST.sz_group, ST.sz_acc, ST.sz_two, ST.dep_leaf, ST.dep_minus, ST.dep_group, ST.dep_acc, ST.dep_two, ST.c4_leaf, ST.c4_minus, ST.c4_group, ST.c4_acc, ST.c4_two, FT.sz_test, FT.sz_inv, FT.sz_two, FT.sz_pair, FT.dep_test, FT.dep_inv, FT.dep_two, FT.dep_pair, FT.c4_test, FT.c4_inv, FT.c4_two, FT.c4_pair]; first | omega | (rw [if_neg (by decide)]; omega) | (rw [if_pos (by decide)]; omega) | (split <;> omega) | skip))
  have hk34_323 : FF ((((FT.two r34_3 true (FT.two r14_3 false T3_310 T11_310) (FT.two r31_3 false T20_310 T28_310)).c4 : Nat) : Int) = (((FT.two r14_3 false T3_310 T11_310).c4 : Nat) : Int) + (((FT.two r31_3 false T20_310 T28_310).c4 : Nat) : Int)) := (FF.mk (by simp only [ST.sz_leaf, ST.sz_minus, ST.sz_group, ST.sz_acc, ST.sz_two, ST.dep_leaf, ST.dep_minus, ST.dep_group, ST.dep_acc, ST.dep_two, ST.c4_leaf, ST.c4_minus, ST.c4_group, ST.c4_acc, ST.c4_two, FT.sz_test, FT.sz_inv, FT.sz_two, FT.sz_pair, FT.dep_test, FT.dep_inv, FT.dep_two, FT.dep_pair, FT.c4_test, FT.c4_inv, FT.c4_two, FT.c4_pair]; first | omega | (rw [if_neg (by decide)]; omega) | (rw [if_pos (by decide)]; omega) | (split <;> omega) | skip))
  have hP : va_P D vwCl ([] ++ (p34_318)) _ := hP
  have hD : va_D A ([] ++ (p34_318)) := hD
  refine W.widen (k := c34_316) (n := k34_317) (Nat.le_of_eq (FF.out ec34_316).symm) (Nat.le_of_eq (FF.out ek34_317).symm) (W.eq (g2 := F0 m 37 ls [.ref r34_3]) rfl ?_)
  have hP : va_P D vwCl ([] ++ ((FT.two r34_3 true (FT.two r14_3 false T3_310 T11_310) (FT.two r31_3 false T20_310 T28_310)).cells Z0)) _ := hP.perm (seg_perm (fun f => by have w0 := seg_sum (List.Perm.of_eq ep3_322) f; have w1 := seg_sum (List.Perm.of_eq ep11_322) f; have w2 := seg_sum (List.Perm.of_eq ep14_318) f; have w3 := seg_sum (List.Perm.of_eq ep20_322) f; have w4 := seg_sum (List.Perm.of_eq ep28_322) f; have w5 := seg_sum (List.Perm.of_eq ep31_318) f; have w6 := seg_sum (List.Perm.of_eq ep34_318) f; simp only [ST.cells_leaf, ST.cells_minus, ST.cells_group, ST.cells_acc, ST.cells_two, FT.cells_two, FT.cells_inv, FT.cells_test, FT.cells_pair, List.map_append, List.sum_append, List.map_nil, List.sum_nil] at w0 w1 w2 w3 w4 w5 w6 ⊢ <;> omega))
  have hD : va_D A ([] ++ ((FT.two r34_3 true (FT.two r14_3 false T3_310 T11_310) (FT.two r31_3 false T20_310 T28_310)).cells Z0)) := hD.perm (seg_perm (fun f => by have w0 := seg_sum (List.Perm.of_eq ep3_322) f; have w1 := seg_sum (List.Perm.of_eq ep11_322) f; have w2 := seg_sum (List.Perm.of_eq ep14_318) f; have w3 := seg_sum (List.Perm.of_eq ep20_322) f; have w4 := seg_sum (List.Perm.of_eq ep28_322) f; have w5 := seg_sum (List.Perm.of_eq ep31_318) f; have w6 := seg_sum (List.Perm.of_eq ep34_318) f; simp only [ST.cells_leaf, ST.cells_minus, ST.cells_group, ST.cells_acc, ST.cells_two, FT.cells_two, FT.cells_inv, FT.cells_test, FT.cells_pair, List.map_append, List.sum_append, List.map_nil, List.sum_nil] at w0 w1 w2 w3 w4 w5 w6 ⊢ <;> omega))
  exact et_r (SX := Unit) hQ hx hb hr hlocks dX16_transport_37 ((FT.two r34_3 true (FT.two r14_3 false T3_310 T11_310) (FT.two r31_3 false T20_310 T28_310)), c34_316, k34_317) ⟨rfl, (FT.ok_two (FT.ok_two hp3_314 hp11_314) (FT.ok_two hp20_314 hp28_314)), (show ((c34_316 : Nat) : Int) ≤ 19 by have q0 := FF.out uc34_316; omega), (show ((k34_317 : Nat) : Int) ≤ 109 by have q0 := FF.out uk34_317; omega), (show (((FT.two r34_3 true (FT.two r14_3 false T3_310 T11_310) (FT.two r31_3 false T20_310 T28_310)).sz : Nat) : Int) ≤ 19 by have q0 := FF.out hp3_317; have q1 := FF.out hp11_317; have q2 := FF.out hk14_319; have q3 := FF.out hp20_317; have q4 := FF.out hp28_317; have q5 := FF.out hk31_319; have q6 := FF.out hk34_319; omega), (show (((FT.two r34_3 true (FT.two r14_3 false T3_310 T11_310) (FT.two r31_3 false T20_310 T28_310)).dep : Nat) : Int) ≤ 1 by have q0 := FF.out hp3_318; have q1 := FF.out hp11_318; have q2 := FF.out hk14_322; have q3 := FF.out hp20_318; have q4 := FF.out hp28_318; have q5 := FF.out hk31_322; have q6 := FF.out hk34_322; omega), (show (((FT.two r34_3 true (FT.two r14_3 false T3_310 T11_310) (FT.two r31_3 false T20_310 T28_310)).c4 : Nat) : Int) ≤ 0 by have q0 := FF.out hp3_319; have q1 := FF.out hp11_319; have q2 := FF.out hk14_323; have q3 := FF.out hp20_319; have q4 := FF.out hp28_319; have q5 := FF.out hk31_323; have q6 := FF.out hk34_323; omega)⟩ hP hD hS [] (by decide) rfl (Nat.le_refl _) (Nat.le_refl _) (FF.out mc34_316) (FF.out mk34_317)
set_option maxHeartbeats 2000000 in
theorem c_X16_host (l : Launch) (hst : l.stackTraces = false) (D : va_G) (ct : Nat → ClassId) (MC : Nat) (MS : Nat) (x : ST) (v1 : Int64) (v2 : Int64) (v3 : Int32) (ok_x : x.ok) (h_v3 : rg v3 0 1) (hq0 : 4 ≤ ((MC : Nat) : Int)) (hq1 : 24 ≤ ((MS : Nat) : Int)) : KT (V := Nat) (S := FT × va_W × Nat × Nat) (SX := Unit) l yX16_host cX16_host 6 (some (.object "FilterForgeModel$Filter")) 5 89 D ct [.ref x.root, .long v1, .long v2, .int v3] [] MC MS (fun r : Nat => some (.ref r)) (fun (r : Nat) (u : FT × va_W × Nat × Nat) => match u with | (T, nw, kc, kn) => r = T.root ∧ T.ok ∧ ((x.cells) ++ nw).Perm (T.cells Z0) ∧ (((kc : Nat) : Int) ≤ 4) ∧ (((kn : Nat) : Int) ≤ 24) ∧ (((T.dep : Nat) : Int) ≤ ((x.dep : Nat) : Int) ∨ ((T.dep : Nat) : Int) ≤ 1) ∧ (((T.sz : Nat) : Int) ≤ ((x.sz : Nat) : Int) + 4) ∧ (((T.c4 : Nat) : Int) ≤ ((x.c4 : Nat) : Int))) (fun (u : FT × va_W × Nat × Nat) => match u with | (T, nw, kc, kn) => [] ++ nw) (fun (u : FT × va_W × Nat × Nat) => match u with | (T, nw, kc, kn) => kc) (fun (u : FT × va_W × Nat × Nat) => match u with | (T, nw, kc, kn) => kn) 15 RX15 peW (fun _ => False) (fun _ => []) := by
  refine KT_of (by decide) (Nat.le_of_ble_eq_true rfl) (fun p e s m below meth c A Q C0 htab hA H locs hS hP hD hQ ls hl => ?_)
  obtain ⟨hx, hb, hr, hown, hin, hml, hlocks, hn, hK, hZ, hSK⟩ := C0
  have hl : lv_has ls 6 [(0, .ref x.root), (1, .long v1), (3, .long v2), (5, .int v3)] := hl
  have hP : va_P D vwCl ([] ++ (([] : va_W))) H := by rw [List.append_nil]; exact hP
  have hD : va_D A ([] ++ (([] : va_W))) := by rw [List.append_nil]; exact hD
  replace hq0 := FF.mk hq0
  replace hq1 := FF.mk hq1
  refine lv_iload hx hb dX16_host_0 (lv_at hl 3 rfl) ?_
  refine lv_if_eq (tgt := 25) hx hb dX16_host_2 (by decide) (fun c2_1 => ?_) (fun c2_1 => ?_)
  · have t2_2 := FF.mk (i_eq c2_1)
    have r2_3 : rg v3 0 0 := rg_eqA t2_2 h_v3 (show rg (0 : Int32) 0 0 from rg_l (by decide)) (by decide)
    refine lv_aload_n hx hb dX16_host_25 rfl (lv_at hl 0 rfl) ?_
    refine lv_lload_n hx hb dX16_host_26 rfl (lv_at hl 2 rfl) ?_
    obtain ⟨m27_1, gm27_1⟩ : ∃ m9 : Nat, m9 + 0 = MC := ⟨MC - 0, Nat.sub_add_cancel (Nat.zero_le MC)⟩
    have em27_1 := FF.mk gm27_1
    obtain ⟨m27_2, gm27_2⟩ : ∃ m9 : Nat, m9 + 0 = MS := ⟨MS - 0, Nat.sub_add_cancel (Nat.zero_le MS)⟩
    have em27_2 := FF.mk gm27_2
    refine gt_q (pl := (([] : va_W))) (wr := []) [] [] (rt_S (As := [.ref x.root, .long v2]) (rest := []) (c_X16_test l hst D ct m27_1 m27_2 x v2 ok_x (show 2 ≤ ((m27_1 : Nat) : Int) by have q0 := FF.out hq0; have q1 := FF.out em27_1; omega) (show 12 ≤ ((m27_2 : Nat) : Int) by have q0 := FF.out hq1; have q1 := FF.out em27_2; omega) _) (cb_of (n := 2) hn mw_2139 mw_13 mw_2137 mhX16_test ⟨(Nat.le_of_ble_eq_true rfl), (Nat.le_of_ble_eq_true rfl)⟩) hx hb hml hown hn hK hSK hZ hS mw_2138 rfl hl.1 (Nat.le_of_ble_eq_true rfl) dX16_host_27 ⟨(Nat.le_of_eq ((Nat.add_comm _ _).trans gm27_1)), (Nat.le_of_eq ((Nat.add_comm _ _).trans gm27_2))⟩) hP hD hS hA rfl rfl (by decide) (by decide) (by decide) (fun xq27_6 ux27_7 xfs27_8 H locs hpx27_9 hpexfs27_8 hP hD hS => ?_) (fun r27_3 u27_4 H locs hp27_5 hP hD hS => ?_)
    · exact hpx27_9.elim
    obtain ⟨T27_310, nw27_311, kc27_312, kn27_313⟩ := u27_4
    obtain ⟨hp27_314, hp27_315, hp27_316, hp27_317, hp27_318, hp27_319, hp27_320, hp27_321⟩ := hp27_5
    subst hp27_314
    replace hp27_317 : FF (((kc27_312 : Nat) : Int) ≤ 2) := hp27_317
    replace hp27_318 : FF (((kn27_313 : Nat) : Int) ≤ 12) := hp27_318
    replace hp27_319 : FF (((T27_310.dep : Nat) : Int) = ((x.dep : Nat) : Int)) := hp27_319
    replace hp27_320 : FF (((T27_310.sz : Nat) : Int) ≤ ((x.sz : Nat) : Int) + 2) := hp27_320
    replace hp27_321 : FF (((T27_310.c4 : Nat) : Int) = ((x.c4 : Nat) : Int)) := hp27_321
    obtain ⟨c27_322, ec27_322⟩ : ∃ x9 : Nat, x9 = 0 + kc27_312 := ⟨_, rfl⟩
    have ec27_322 := FF.mk ec27_322
    have uc27_322 : FF (((c27_322 : Nat) : Int) ≤ 2) := FF.mk (show ((c27_322 : Nat) : Int) ≤ 2 by have q0 := FF.out hp27_317; have q1 := FF.out ec27_322; omega)
    have mc27_322 : FF (c27_322 ≤ MC) := FF.mk (Int.ofNat_le.mp (show ((c27_322 : Nat) : Int) ≤ ((MC : Nat) : Int) by have q0 := FF.out hq0; have q1 := FF.out uc27_322; omega))
    obtain ⟨k27_323, ek27_323⟩ : ∃ x9 : Nat, x9 = 0 + kn27_313 := ⟨_, rfl⟩
    have ek27_323 := FF.mk ek27_323
    have uk27_323 : FF (((k27_323 : Nat) : Int) ≤ 12) := FF.mk (show ((k27_323 : Nat) : Int) ≤ 12 by have q0 := FF.out hp27_318; have q1 := FF.out ek27_323; omega)
    have mk27_323 : FF (k27_323 ≤ MS) := FF.mk (Int.ofNat_le.mp (show ((k27_323 : Nat) : Int) ≤ ((MS : Nat) : Int) by have q0 := FF.out hq1; have q1 := FF.out uk27_323; omega))
    have hP : va_P D vwCl (([] ++ nw27_311) ++ (([] : va_W))) _ := hP
    have hD : va_D A (([] ++ nw27_311) ++ (([] : va_W))) := hD
    have hP := pool_in hP
    have hD := pool_inD hD
    obtain ⟨p27_324, ep27_324⟩ : ∃ p9 : va_W, p9 = (([] : va_W) ++ nw27_311) := ⟨_, rfl⟩
    rw [← ep27_324] at hP hD
    have hk27_325 : FF (0 ≤ ((T27_310.sz : Nat) : Int)) := Int.natCast_nonneg _
    have hk27_326 : FF (0 ≤ ((T27_310.dep : Nat) : Int)) := Int.natCast_nonneg _
    have hk27_327 : FF (0 ≤ ((T27_310.c4 : Nat) : Int)) := Int.natCast_nonneg _
    have hP : va_P D vwCl ([] ++ (p27_324)) _ := hP
    have hD : va_D A ([] ++ (p27_324)) := hD
    refine W.widen (k := c27_322) (n := k27_323) (Nat.le_of_eq (FF.out ec27_322).symm) (Nat.le_of_eq (FF.out ek27_323).symm) (W.eq (g2 := F0 m 30 ls [.ref T27_310.root]) rfl ?_)
    exact et_r (SX := Unit) hQ hx hb hr hlocks dX16_host_30 (T27_310, (p27_324), c27_322, k27_323) ⟨rfl, hp27_315, (seg_perm (fun f => by have w0 := seg_sum hp27_316 f; have w1 := seg_sum (List.Perm.of_eq ep27_324) f; simp only [ST.cells_leaf, ST.cells_minus, ST.cells_group, ST.cells_acc, ST.cells_two, FT.cells_two, FT.cells_inv, FT.cells_test, FT.cells_pair, List.map_append, List.sum_append, List.map_nil, List.sum_nil] at w0 w1 ⊢ <;> omega)), (show ((c27_322 : Nat) : Int) ≤ 4 by have q0 := FF.out uc27_322; omega), (show ((k27_323 : Nat) : Int) ≤ 24 by have q0 := FF.out uk27_323; omega), (show ((T27_310.dep : Nat) : Int) ≤ ((x.dep : Nat) : Int) ∨ ((T27_310.dep : Nat) : Int) ≤ 1 by have q0 := FF.out hp27_319; omega), (show ((T27_310.sz : Nat) : Int) ≤ ((x.sz : Nat) : Int) + 4 by have q0 := FF.out hp27_320; omega), (show ((T27_310.c4 : Nat) : Int) ≤ ((x.c4 : Nat) : Int) by have q0 := FF.out hp27_321; omega)⟩ hP hD hS [] (by decide) rfl (Nat.le_refl _) (Nat.le_refl _) (FF.out mc27_322) (FF.out mk27_323)
  · have t2_2 := FF.mk (i_ne c2_1)
    have r2_3 : rg v3 1 1 := rg_neAl t2_2 h_v3 (show rg (0 : Int32) 0 0 from rg_l (by decide)) (by decide)
    obtain ⟨c5_2, ec5_2⟩ : ∃ x9 : Nat, x9 = 0 + 1 := ⟨_, rfl⟩
    have ec5_2 := FF.mk ec5_2
    have uc5_2 : FF (((c5_2 : Nat) : Int) ≤ 1) := FF.mk (show ((c5_2 : Nat) : Int) ≤ 1 by have q0 := FF.out ec5_2; omega)
    have mc5_2 : FF (c5_2 ≤ MC) := FF.mk (Int.ofNat_le.mp (show ((c5_2 : Nat) : Int) ≤ ((MC : Nat) : Int) by have q0 := FF.out hq0; have q1 := FF.out uc5_2; omega))
    obtain ⟨k5_3, ek5_3⟩ : ∃ x9 : Nat, x9 = 0 + 5 := ⟨_, rfl⟩
    have ek5_3 := FF.mk ek5_3
    have uk5_3 : FF (((k5_3 : Nat) : Int) ≤ 5) := FF.mk (show ((k5_3 : Nat) : Int) ≤ 5 by have q0 := FF.out ek5_3; omega)
    have mk5_3 : FF (k5_3 ≤ MS) := FF.mk (Int.ofNat_le.mp (show ((k5_3 : Nat) : Int) ≤ ((MS : Nat) : Int) by have q0 := FF.out hq1; have q1 := FF.out uk5_3; omega))
    refine nw_O (k1 := c5_2) (n1 := k5_3) (ci := 14) hx hb (htX14 hn) (fun _ h => h) tyX14 tyX14_ok hown (hn.get mw_1535 rfl) (hn.get mw_2041 rfl) (hn.get mw_23 rfl) hK hP hD hS hA rfl dfX14 (Nat.le_of_eq (FF.out ec5_2).symm) (Nat.le_of_eq (FF.out ek5_3).symm) (FF.out mc5_2) (FF.out mk5_3) dX16_host_5 (fun q5_1 H hP hD hS => ?_)
    have hP : va_P D vwCl ([(q5_1, .inr (14, [.int 0, .long 0, .null, .null, .int 0]))] ++ (([] : va_W))) _ := hP
    have hD : va_D A ([(q5_1, .inr (14, [.int 0, .long 0, .null, .null, .int 0]))] ++ (([] : va_W))) := hD
    refine lv_dup hx hb dX16_host_8 rfl ?_
    refine lv_iconst (v := 2) hx hb dX16_host_9 (by decide) ?_
    refine lv_ldc2 (v := 5) hx hb hown (hn.get mw_2149 rfl) dX16_host_10 ?_
    refine lv_aload_n hx hb dX16_host_13 rfl (lv_at hl 0 rfl) ?_
    refine lv_lload_n hx hb dX16_host_14 rfl (lv_at hl 1 rfl) ?_
    obtain ⟨m15_1, gm15_1⟩ : ∃ m9 : Nat, m9 + c5_2 = MC := ⟨MC - c5_2, Nat.sub_add_cancel (FF.out mc5_2)⟩
    have em15_1 := FF.mk gm15_1
    obtain ⟨m15_2, gm15_2⟩ : ∃ m9 : Nat, m9 + k5_3 = MS := ⟨MS - k5_3, Nat.sub_add_cancel (FF.out mk5_3)⟩
    have em15_2 := FF.mk gm15_2
    refine gt_q (pl := (([] : va_W))) (wr := [(q5_1, .inr (14, [.int 0, .long 0, .null, .null, .int 0]))]) [] [0] (rt_S (As := [.long v1]) (rest := [.ref x.root, .long 5, .int 2, .ref q5_1, .ref q5_1]) (c_X16_n l hst D ct m15_1 m15_2 v1 (show 1 ≤ ((m15_1 : Nat) : Int) by have q0 := FF.out hq0; have q1 := FF.out uc5_2; have q2 := FF.out em15_1; omega) (show 5 ≤ ((m15_2 : Nat) : Int) by have q0 := FF.out hq1; have q1 := FF.out uk5_3; have q2 := FF.out em15_2; omega) _) (cb_of (n := 1) hn mw_2090 mw_13 mw_2088 mhX16_n ⟨(Nat.le_of_ble_eq_true rfl), (Nat.le_of_ble_eq_true rfl)⟩) hx hb hml hown hn hK hSK hZ hS mw_2089 rfl hl.1 (Nat.le_of_ble_eq_true rfl) dX16_host_15 ⟨(Nat.le_of_eq ((Nat.add_comm _ _).trans gm15_1)), (Nat.le_of_eq ((Nat.add_comm _ _).trans gm15_2))⟩) hP hD hS hA rfl rfl (by decide) (by decide) (by decide) (fun xq15_6 ux15_7 xfs15_8 H locs hpx15_9 hpexfs15_8 hP hD hS => ?_) (fun r15_3 u15_4 H locs hp15_5 hP hD hS => ?_)
    · exact hpx15_9.elim
    obtain ⟨T15_310, kc15_311, kn15_312⟩ := u15_4
    obtain ⟨hp15_313, hp15_314, hp15_315, hp15_316, hp15_317, hp15_318, hp15_319⟩ := hp15_5
    subst hp15_313
    replace hp15_315 : FF (((kc15_311 : Nat) : Int) ≤ 1) := hp15_315
    replace hp15_316 : FF (((kn15_312 : Nat) : Int) ≤ 5) := hp15_316
    replace hp15_317 : FF (((T15_310.sz : Nat) : Int) ≤ 1) := hp15_317
    replace hp15_318 : FF (((T15_310.dep : Nat) : Int) ≤ 0) := hp15_318
    replace hp15_319 : FF (((T15_310.c4 : Nat) : Int) ≤ 0) := hp15_319
    obtain ⟨c15_320, ec15_320⟩ : ∃ x9 : Nat, x9 = c5_2 + kc15_311 := ⟨_, rfl⟩
    have ec15_320 := FF.mk ec15_320
    have uc15_320 : FF (((c15_320 : Nat) : Int) ≤ 2) := FF.mk (show ((c15_320 : Nat) : Int) ≤ 2 by have q0 := FF.out uc5_2; have q1 := FF.out hp15_315; have q2 := FF.out ec15_320; omega)
    have mc15_320 : FF (c15_320 ≤ MC) := FF.mk (Int.ofNat_le.mp (show ((c15_320 : Nat) : Int) ≤ ((MC : Nat) : Int) by have q0 := FF.out hq0; have q1 := FF.out uc15_320; omega))
    obtain ⟨k15_321, ek15_321⟩ : ∃ x9 : Nat, x9 = k5_3 + kn15_312 := ⟨_, rfl⟩
    have ek15_321 := FF.mk ek15_321
    have uk15_321 : FF (((k15_321 : Nat) : Int) ≤ 10) := FF.mk (show ((k15_321 : Nat) : Int) ≤ 10 by have q0 := FF.out uk5_3; have q1 := FF.out hp15_316; have q2 := FF.out ek15_321; omega)
    have mk15_321 : FF (k15_321 ≤ MS) := FF.mk (Int.ofNat_le.mp (show ((k15_321 : Nat) : Int) ≤ ((MS : Nat) : Int) by have q0 := FF.out hq1; have q1 := FF.out uk15_321; omega))
    have hP : va_P D vwCl (([(q5_1, .inr (14, [.int 0, .long 0, .null, .null, .int 0]))] ++ (T15_310.cells)) ++ (([] : va_W))) _ := hP
    have hD : va_D A (([(q5_1, .inr (14, [.int 0, .long 0, .null, .null, .int 0]))] ++ (T15_310.cells)) ++ (([] : va_W))) := hD
    have hP := pool_in hP
    have hD := pool_inD hD
    obtain ⟨p15_322, ep15_322⟩ : ∃ p9 : va_W, p9 = (([] : va_W) ++ (T15_310.cells)) := ⟨_, rfl⟩
    rw [← ep15_322] at hP hD
    have hk15_323 : FF (0 ≤ ((T15_310.sz : Nat) : Int)) := Int.natCast_nonneg _
    have hk15_324 : FF (0 ≤ ((T15_310.dep : Nat) : Int)) := Int.natCast_nonneg _
    have hk15_325 : FF (0 ≤ ((T15_310.c4 : Nat) : Int)) := Int.natCast_nonneg _
    have hP : va_P D vwCl ([(q5_1, .inr (14, [.int 0, .long 0, .null, .null, .int 0]))] ++ (p15_322)) _ := hP
    have hD : va_D A ([(q5_1, .inr (14, [.int 0, .long 0, .null, .null, .int 0]))] ++ (p15_322)) := hD
    refine W.widen (k := c15_320) (n := k15_321) (Nat.le_of_eq (FF.out ec15_320).symm) (Nat.le_of_eq (FF.out ek15_321).symm) (W.eq (g2 := F0 m 18 ls [.ref T15_310.root, .ref x.root, .long 5, .int 2, .ref q5_1, .ref q5_1]) rfl ?_)
    refine lv_iconst (v := 0) hx hb dX16_host_18 (by decide) ?_
    refine gq_v (k1 := c15_320) (n1 := k15_321) (wr := []) [0] [] (rn_I (As := [.int 2, .long 5, .ref x.root, .ref T15_310.root, .int 0]) (rest := [.ref q5_1]) (c_X14_init_rr l D ct q5_1 (2 : Int32) (5 : Int64) x.root T15_310.root (0 : Int32) (0 : Int64)  _) (cb_of (n := 5) hn mw_2044 mw_23 mw_2042 mhX14_init ⟨(Nat.le_of_ble_eq_true rfl), (Nat.le_of_ble_eq_true rfl)⟩) hx hb hml hown hn hK hSK hZ hS mw_2043 rfl rfl hl.1 (Nat.le_of_ble_eq_true rfl) dX16_host_19 ⟨(FF.out mc15_320), (FF.out mk15_321)⟩) hP hD hS hA rfl rfl (by decide) (by decide) (by decide) (Nat.le_refl _) (Nat.le_refl _) (fun u19_2 H locs hp19_3 hP hD hS => ?_)
    have hP : va_P D vwCl ([(q5_1, .inr (14, [.int 2, .long 5, .ref x.root, .ref T15_310.root, .int 0]))] ++ (p15_322)) _ := hP
    have hD : va_D A ([(q5_1, .inr (14, [.int 2, .long 5, .ref x.root, .ref T15_310.root, .int 0]))] ++ (p15_322)) := hD
    have hP : va_P D vwCl (([] ++ [(q5_1, ST.ent (ST.two q5_1 (5 : Int64) x T15_310))]) ++ (p15_322)) _ := hP
    have hD : va_D A (([] ++ [(q5_1, ST.ent (ST.two q5_1 (5 : Int64) x T15_310))]) ++ (p15_322)) := hD
    have hP := pool_in hP
    have hD := pool_inD hD
    obtain ⟨p19_4, ep19_4⟩ : ∃ p9 : va_W, p9 = (p15_322 ++ [(q5_1, ST.ent (ST.two q5_1 (5 : Int64) x T15_310))]) := ⟨_, rfl⟩
    rw [← ep19_4] at hP hD
    have hP : va_P D vwCl ([] ++ (p19_4)) _ := hP
    have hD : va_D A ([] ++ (p19_4)) := hD
    have hk19_5 : FF ((((ST.two q5_1 (5 : Int64) x T15_310).sz : Nat) : Int) = ((x.sz : Nat) : Int) + ((T15_310.sz : Nat) : Int) + 1) := (FF.mk (by simp only [ST.sz_leaf, ST.sz_minus, ST.sz_group, ST.sz_acc, ST.sz_two, ST.dep_leaf, ST.dep_minus, ST.dep_group, ST.dep_acc, ST.dep_two, ST.c4_leaf, ST.c4_minus, ST.c4_group, ST.c4_acc, ST.c4_two, FT.sz_test, FT.sz_inv, FT.sz_two, FT.sz_pair, FT.dep_test, FT.dep_inv, FT.dep_two, FT.dep_pair, FT.c4_test, FT.c4_inv, FT.c4_two, FT.c4_pair]; first | omega | (rw [if_neg (by decide)]; omega) | (rw [if_pos (by decide)]; omega) | (split <;> omega) | skip))
    have hk19_6 : FF (((x.dep : Nat) : Int) ≤ (((ST.two q5_1 (5 : Int64) x T15_310).dep : Nat) : Int)) := (FF.mk (by simp only [ST.sz_leaf, ST.sz_minus, ST.sz_group, ST.sz_acc, ST.sz_two, ST.dep_leaf, ST.dep_minus, ST.dep_group, ST.dep_acc, ST.dep_two, ST.c4_leaf, ST.c4_minus, ST.c4_group, ST.c4_acc, ST.c4_two, FT.sz_test, FT.sz_inv, FT.sz_two, FT.sz_pair, FT.dep_test, FT.dep_inv, FT.dep_two, FT.dep_pair, FT.c4_test, FT.c4_inv, FT.c4_two, FT.c4_pair]; first | omega | (rw [if_neg (by decide)]; omega) | (rw [if_pos (by decide)]; omega) | (split <;> omega) | skip))
    have hk19_7 : FF (((T15_310.dep : Nat) : Int) + 1 ≤ (((ST.two q5_1 (5 : Int64) x T15_310).dep : Nat) : Int)) := (FF.mk (by simp only [ST.sz_leaf, ST.sz_minus, ST.sz_group, ST.sz_acc, ST.sz_two, ST.dep_leaf, ST.dep_minus, ST.dep_group, ST.dep_acc, ST.dep_two, ST.c4_leaf, ST.c4_minus, ST.c4_group, ST.c4_acc, ST.c4_two, FT.sz_test, FT.sz_inv, FT.sz_two, FT.sz_pair, FT.dep_test, FT.dep_inv, FT.dep_two, FT.dep_pair, FT.c4_test, FT.c4_inv, FT.c4_two, FT.c4_pair]; first | omega | (rw [if_neg (by decide)]; omega) | (rw [if_pos (by decide)]; omega) | (split <;> omega) | skip))
    have hk19_8 : FF ((((ST.two q5_1 (5 : Int64) x T15_310).dep : Nat) : Int) ≤ ((x.dep : Nat) : Int) ∨ (((ST.two q5_1 (5 : Int64) x T15_310).dep : Nat) : Int) ≤ ((T15_310.dep : Nat) : Int) + 1) := (FF.mk (by simp only [ST.sz_leaf, ST.sz_minus, ST.sz_group, ST.sz_acc, ST.sz_two, ST.dep_leaf, ST.dep_minus, ST.dep_group, ST.dep_acc, ST.dep_two, ST.c4_leaf, ST.c4_minus, ST.c4_group, ST.c4_acc, ST.c4_two, FT.sz_test, FT.sz_inv, FT.sz_two, FT.sz_pair, FT.dep_test, FT.dep_inv, FT.dep_two, FT.dep_pair, FT.c4_test, FT.c4_inv, FT.c4_two, FT.c4_pair]; first | omega | (rw [if_neg (by decide)]; omega) | (rw [if_pos (by decide)]; omega) | (split <;> omega) | skip))
    have hk19_9 : FF ((((ST.two q5_1 (5 : Int64) x T15_310).c4 : Nat) : Int) = ((x.c4 : Nat) : Int) + ((T15_310.c4 : Nat) : Int)) := (FF.mk (by simp only [ST.sz_leaf, ST.sz_minus, ST.sz_group, ST.sz_acc, ST.sz_two, ST.dep_leaf, ST.dep_minus, ST.dep_group, ST.dep_acc, ST.dep_two, ST.c4_leaf, ST.c4_minus, ST.c4_group, ST.c4_acc, ST.c4_two, FT.sz_test, FT.sz_inv, FT.sz_two, FT.sz_pair, FT.dep_test, FT.dep_inv, FT.dep_two, FT.dep_pair, FT.c4_test, FT.c4_inv, FT.c4_two, FT.c4_pair]; first | omega | (rw [if_neg (by decide)]; omega) | (rw [if_pos (by decide)]; omega) | (split <;> omega) | skip))
    refine lv_goto (tgt := 26) hx hb dX16_host_22 (by decide) ?_
    refine lv_lload_n hx hb dX16_host_26 rfl (lv_at hl 2 rfl) ?_
    obtain ⟨m27_1, gm27_1⟩ : ∃ m9 : Nat, m9 + c15_320 = MC := ⟨MC - c15_320, Nat.sub_add_cancel (FF.out mc15_320)⟩
    have em27_1 := FF.mk gm27_1
    obtain ⟨m27_2, gm27_2⟩ : ∃ m9 : Nat, m9 + k15_321 = MS := ⟨MS - k15_321, Nat.sub_add_cancel (FF.out mk15_321)⟩
    have em27_2 := FF.mk gm27_2
    refine gt_q (pl := (p19_4)) (wr := []) [] [] (rt_S (As := [.ref q5_1, .long v2]) (rest := []) (c_X16_test l hst D ct m27_1 m27_2 (ST.two q5_1 (5 : Int64) x T15_310) v2 (ST.ok_two ok_x hp15_314) (show 2 ≤ ((m27_1 : Nat) : Int) by have q0 := FF.out hq0; have q1 := FF.out uc15_320; have q2 := FF.out em27_1; omega) (show 12 ≤ ((m27_2 : Nat) : Int) by have q0 := FF.out hq1; have q1 := FF.out uk15_321; have q2 := FF.out em27_2; omega) _) (cb_of (n := 2) hn mw_2139 mw_13 mw_2137 mhX16_test ⟨(Nat.le_of_ble_eq_true rfl), (Nat.le_of_ble_eq_true rfl)⟩) hx hb hml hown hn hK hSK hZ hS mw_2138 rfl hl.1 (Nat.le_of_ble_eq_true rfl) dX16_host_27 ⟨(Nat.le_of_eq ((Nat.add_comm _ _).trans gm27_1)), (Nat.le_of_eq ((Nat.add_comm _ _).trans gm27_2))⟩) hP hD hS hA rfl rfl (by decide) (by decide) (by decide) (fun xq27_6 ux27_7 xfs27_8 H locs hpx27_9 hpexfs27_8 hP hD hS => ?_) (fun r27_3 u27_4 H locs hp27_5 hP hD hS => ?_)
    · exact hpx27_9.elim
    obtain ⟨T27_310, nw27_311, kc27_312, kn27_313⟩ := u27_4
    obtain ⟨hp27_314, hp27_315, hp27_316, hp27_317, hp27_318, hp27_319, hp27_320, hp27_321⟩ := hp27_5
    subst hp27_314
    replace hp27_317 : FF (((kc27_312 : Nat) : Int) ≤ 2) := hp27_317
    replace hp27_318 : FF (((kn27_313 : Nat) : Int) ≤ 12) := hp27_318
    replace hp27_319 : FF (((T27_310.dep : Nat) : Int) = (((ST.two q5_1 (5 : Int64) x T15_310).dep : Nat) : Int)) := hp27_319
    replace hp27_320 : FF (((T27_310.sz : Nat) : Int) ≤ (((ST.two q5_1 (5 : Int64) x T15_310).sz : Nat) : Int) + 2) := hp27_320
    replace hp27_321 : FF (((T27_310.c4 : Nat) : Int) = (((ST.two q5_1 (5 : Int64) x T15_310).c4 : Nat) : Int)) := hp27_321
    obtain ⟨c27_322, ec27_322⟩ : ∃ x9 : Nat, x9 = c15_320 + kc27_312 := ⟨_, rfl⟩
    have ec27_322 := FF.mk ec27_322
    have uc27_322 : FF (((c27_322 : Nat) : Int) ≤ 4) := FF.mk (show ((c27_322 : Nat) : Int) ≤ 4 by have q0 := FF.out uc15_320; have q1 := FF.out hp27_317; have q2 := FF.out ec27_322; omega)
    have mc27_322 : FF (c27_322 ≤ MC) := FF.mk (Int.ofNat_le.mp (show ((c27_322 : Nat) : Int) ≤ ((MC : Nat) : Int) by have q0 := FF.out hq0; have q1 := FF.out uc27_322; omega))
    obtain ⟨k27_323, ek27_323⟩ : ∃ x9 : Nat, x9 = k15_321 + kn27_313 := ⟨_, rfl⟩
    have ek27_323 := FF.mk ek27_323
    have uk27_323 : FF (((k27_323 : Nat) : Int) ≤ 22) := FF.mk (show ((k27_323 : Nat) : Int) ≤ 22 by have q0 := FF.out uk15_321; have q1 := FF.out hp27_318; have q2 := FF.out ek27_323; omega)
    have mk27_323 : FF (k27_323 ≤ MS) := FF.mk (Int.ofNat_le.mp (show ((k27_323 : Nat) : Int) ≤ ((MS : Nat) : Int) by have q0 := FF.out hq1; have q1 := FF.out uk27_323; omega))
    have hP : va_P D vwCl (([] ++ nw27_311) ++ (p19_4)) _ := hP
    have hD : va_D A (([] ++ nw27_311) ++ (p19_4)) := hD
    have hP := pool_in hP
    have hD := pool_inD hD
    obtain ⟨p27_324, ep27_324⟩ : ∃ p9 : va_W, p9 = (p19_4 ++ nw27_311) := ⟨_, rfl⟩
    rw [← ep27_324] at hP hD
    have hk27_325 : FF (0 ≤ ((T27_310.sz : Nat) : Int)) := Int.natCast_nonneg _
    have hk27_326 : FF (0 ≤ ((T27_310.dep : Nat) : Int)) := Int.natCast_nonneg _
    have hk27_327 : FF (0 ≤ ((T27_310.c4 : Nat) : Int)) := Int.natCast_nonneg _
    have hP : va_P D vwCl ([] ++ (p27_324)) _ := hP
    have hD : va_D A ([] ++ (p27_324)) := hD
    refine W.widen (k := c27_322) (n := k27_323) (Nat.le_of_eq (FF.out ec27_322).symm) (Nat.le_of_eq (FF.out ek27_323).symm) (W.eq (g2 := F0 m 30 ls [.ref T27_310.root]) rfl ?_)
    exact et_r (SX := Unit) hQ hx hb hr hlocks dX16_host_30 (T27_310, (p27_324), c27_322, k27_323) ⟨rfl, hp27_315, (seg_perm (fun f => by have w0 := seg_sum (List.Perm.of_eq ep15_322) f; have w1 := seg_sum (List.Perm.of_eq ep19_4) f; have w2 := seg_sum hp27_316 f; have w3 := seg_sum (List.Perm.of_eq ep27_324) f; simp only [ST.cells_leaf, ST.cells_minus, ST.cells_group, ST.cells_acc, ST.cells_two, FT.cells_two, FT.cells_inv, FT.cells_test, FT.cells_pair, List.map_append, List.sum_append, List.map_nil, List.sum_nil] at w0 w1 w2 w3 ⊢ <;> omega)), (show ((c27_322 : Nat) : Int) ≤ 4 by have q0 := FF.out uc27_322; omega), (show ((k27_323 : Nat) : Int) ≤ 24 by have q0 := FF.out uk27_323; omega), (show ((T27_310.dep : Nat) : Int) ≤ ((x.dep : Nat) : Int) ∨ ((T27_310.dep : Nat) : Int) ≤ 1 by have q0 := FF.out hp15_318; have q1 := FF.out hk19_8; have q2 := FF.out hp27_319; omega), (show ((T27_310.sz : Nat) : Int) ≤ ((x.sz : Nat) : Int) + 4 by have q0 := FF.out hp15_317; have q1 := FF.out hk19_5; have q2 := FF.out hp27_320; omega), (show ((T27_310.c4 : Nat) : Int) ≤ ((x.c4 : Nat) : Int) by have q0 := FF.out hp15_319; have q1 := FF.out hk19_9; have q2 := FF.out hp27_321; omega)⟩ hP hD hS [] (by decide) rfl (Nat.le_refl _) (Nat.le_refl _) (FF.out mc27_322) (FF.out mk27_323)
set_option maxHeartbeats 2000000 in
theorem c_X16_within (l : Launch) (hst : l.stackTraces = false) (D : va_G) (ct : Nat → ClassId) (MC : Nat) (MS : Nat) (x : ST) (v1 : Int64) (v2 : Int64) (v3 : Int32) (ok_x : x.ok) (h_v3 : rg v3 0 1) (hq0 : 5 ≤ ((MC : Nat) : Int)) (hq1 : 31 ≤ ((MS : Nat) : Int)) : KT (V := Nat) (S := FT × va_W × Nat × Nat) (SX := Unit) l yX16_within cX16_within 6 (some (.object "FilterForgeModel$Filter")) 5 89 D ct [.ref x.root, .long v1, .long v2, .int v3] [] MC MS (fun r : Nat => some (.ref r)) (fun (r : Nat) (u : FT × va_W × Nat × Nat) => match u with | (T, nw, kc, kn) => r = T.root ∧ T.ok ∧ ((x.cells) ++ nw).Perm (T.cells Z0) ∧ (((kc : Nat) : Int) ≤ 5) ∧ (((kn : Nat) : Int) ≤ 31) ∧ (((T.dep : Nat) : Int) ≤ ((x.dep : Nat) : Int)) ∧ (((T.sz : Nat) : Int) ≤ 2 * ((x.sz : Nat) : Int) + 5) ∧ (((T.c4 : Nat) : Int) ≤ 2 * ((x.c4 : Nat) : Int))) (fun (u : FT × va_W × Nat × Nat) => match u with | (T, nw, kc, kn) => [] ++ nw) (fun (u : FT × va_W × Nat × Nat) => match u with | (T, nw, kc, kn) => kc) (fun (u : FT × va_W × Nat × Nat) => match u with | (T, nw, kc, kn) => kn) 15 RX15 peW (fun _ => False) (fun _ => []) := by
  refine KT_of (by decide) (Nat.le_of_ble_eq_true rfl) (fun p e s m below meth c A Q C0 htab hA H locs hS hP hD hQ ls hl => ?_)
  obtain ⟨hx, hb, hr, hown, hin, hml, hlocks, hn, hK, hZ, hSK⟩ := C0
  have hl : lv_has ls 6 [(0, .ref x.root), (1, .long v1), (3, .long v2), (5, .int v3)] := hl
  have hP : va_P D vwCl ([] ++ (([] : va_W))) H := by rw [List.append_nil]; exact hP
  have hD : va_D A ([] ++ (([] : va_W))) := by rw [List.append_nil]; exact hD
  replace hq0 := FF.mk hq0
  replace hq1 := FF.mk hq1
  refine lv_iload hx hb dX16_within_0 (lv_at hl 3 rfl) ?_
  refine lv_if_eq (tgt := 38) hx hb dX16_within_2 (by decide) (fun c2_1 => ?_) (fun c2_1 => ?_)
  · have t2_2 := FF.mk (i_eq c2_1)
    have r2_3 : rg v3 0 0 := rg_eqA t2_2 h_v3 (show rg (0 : Int32) 0 0 from rg_l (by decide)) (by decide)
    refine lv_aload_n hx hb dX16_within_38 rfl (lv_at hl 0 rfl) ?_
    refine lv_lload_n hx hb dX16_within_39 rfl (lv_at hl 1 rfl) ?_
    obtain ⟨m40_1, gm40_1⟩ : ∃ m9 : Nat, m9 + 0 = MC := ⟨MC - 0, Nat.sub_add_cancel (Nat.zero_le MC)⟩
    have em40_1 := FF.mk gm40_1
    obtain ⟨m40_2, gm40_2⟩ : ∃ m9 : Nat, m9 + 0 = MS := ⟨MS - 0, Nat.sub_add_cancel (Nat.zero_le MS)⟩
    have em40_2 := FF.mk gm40_2
    refine gt_q (pl := (([] : va_W))) (wr := []) [] [] (rt_S (As := [.ref x.root, .long v1]) (rest := []) (c_X16_test l hst D ct m40_1 m40_2 x v1 ok_x (show 2 ≤ ((m40_1 : Nat) : Int) by have q0 := FF.out hq0; have q1 := FF.out em40_1; omega) (show 12 ≤ ((m40_2 : Nat) : Int) by have q0 := FF.out hq1; have q1 := FF.out em40_2; omega) _) (cb_of (n := 2) hn mw_2139 mw_13 mw_2137 mhX16_test ⟨(Nat.le_of_ble_eq_true rfl), (Nat.le_of_ble_eq_true rfl)⟩) hx hb hml hown hn hK hSK hZ hS mw_2138 rfl hl.1 (Nat.le_of_ble_eq_true rfl) dX16_within_40 ⟨(Nat.le_of_eq ((Nat.add_comm _ _).trans gm40_1)), (Nat.le_of_eq ((Nat.add_comm _ _).trans gm40_2))⟩) hP hD hS hA rfl rfl (by decide) (by decide) (by decide) (fun xq40_6 ux40_7 xfs40_8 H locs hpx40_9 hpexfs40_8 hP hD hS => ?_) (fun r40_3 u40_4 H locs hp40_5 hP hD hS => ?_)
    · exact hpx40_9.elim
    obtain ⟨T40_310, nw40_311, kc40_312, kn40_313⟩ := u40_4
    obtain ⟨hp40_314, hp40_315, hp40_316, hp40_317, hp40_318, hp40_319, hp40_320, hp40_321⟩ := hp40_5
    subst hp40_314
    replace hp40_317 : FF (((kc40_312 : Nat) : Int) ≤ 2) := hp40_317
    replace hp40_318 : FF (((kn40_313 : Nat) : Int) ≤ 12) := hp40_318
    replace hp40_319 : FF (((T40_310.dep : Nat) : Int) = ((x.dep : Nat) : Int)) := hp40_319
    replace hp40_320 : FF (((T40_310.sz : Nat) : Int) ≤ ((x.sz : Nat) : Int) + 2) := hp40_320
    replace hp40_321 : FF (((T40_310.c4 : Nat) : Int) = ((x.c4 : Nat) : Int)) := hp40_321
    obtain ⟨c40_322, ec40_322⟩ : ∃ x9 : Nat, x9 = 0 + kc40_312 := ⟨_, rfl⟩
    have ec40_322 := FF.mk ec40_322
    have uc40_322 : FF (((c40_322 : Nat) : Int) ≤ 2) := FF.mk (show ((c40_322 : Nat) : Int) ≤ 2 by have q0 := FF.out hp40_317; have q1 := FF.out ec40_322; omega)
    have mc40_322 : FF (c40_322 ≤ MC) := FF.mk (Int.ofNat_le.mp (show ((c40_322 : Nat) : Int) ≤ ((MC : Nat) : Int) by have q0 := FF.out hq0; have q1 := FF.out uc40_322; omega))
    obtain ⟨k40_323, ek40_323⟩ : ∃ x9 : Nat, x9 = 0 + kn40_313 := ⟨_, rfl⟩
    have ek40_323 := FF.mk ek40_323
    have uk40_323 : FF (((k40_323 : Nat) : Int) ≤ 12) := FF.mk (show ((k40_323 : Nat) : Int) ≤ 12 by have q0 := FF.out hp40_318; have q1 := FF.out ek40_323; omega)
    have mk40_323 : FF (k40_323 ≤ MS) := FF.mk (Int.ofNat_le.mp (show ((k40_323 : Nat) : Int) ≤ ((MS : Nat) : Int) by have q0 := FF.out hq1; have q1 := FF.out uk40_323; omega))
    have hP : va_P D vwCl (([] ++ nw40_311) ++ (([] : va_W))) _ := hP
    have hD : va_D A (([] ++ nw40_311) ++ (([] : va_W))) := hD
    have hP := pool_in hP
    have hD := pool_inD hD
    obtain ⟨p40_324, ep40_324⟩ : ∃ p9 : va_W, p9 = (([] : va_W) ++ nw40_311) := ⟨_, rfl⟩
    rw [← ep40_324] at hP hD
    have hk40_325 : FF (0 ≤ ((T40_310.sz : Nat) : Int)) := Int.natCast_nonneg _
    have hk40_326 : FF (0 ≤ ((T40_310.dep : Nat) : Int)) := Int.natCast_nonneg _
    have hk40_327 : FF (0 ≤ ((T40_310.c4 : Nat) : Int)) := Int.natCast_nonneg _
    have hP : va_P D vwCl ([] ++ (p40_324)) _ := hP
    have hD : va_D A ([] ++ (p40_324)) := hD
    refine W.widen (k := c40_322) (n := k40_323) (Nat.le_of_eq (FF.out ec40_322).symm) (Nat.le_of_eq (FF.out ek40_323).symm) (W.eq (g2 := F0 m 43 ls [.ref T40_310.root]) rfl ?_)
    exact et_r (SX := Unit) hQ hx hb hr hlocks dX16_within_43 (T40_310, (p40_324), c40_322, k40_323) ⟨rfl, hp40_315, (seg_perm (fun f => by have w0 := seg_sum hp40_316 f; have w1 := seg_sum (List.Perm.of_eq ep40_324) f; simp only [ST.cells_leaf, ST.cells_minus, ST.cells_group, ST.cells_acc, ST.cells_two, FT.cells_two, FT.cells_inv, FT.cells_test, FT.cells_pair, List.map_append, List.sum_append, List.map_nil, List.sum_nil] at w0 w1 ⊢ <;> omega)), (show ((c40_322 : Nat) : Int) ≤ 5 by have q0 := FF.out uc40_322; omega), (show ((k40_323 : Nat) : Int) ≤ 31 by have q0 := FF.out uk40_323; omega), (show ((T40_310.dep : Nat) : Int) ≤ ((x.dep : Nat) : Int) by have q0 := FF.out hp40_319; omega), (show ((T40_310.sz : Nat) : Int) ≤ 2 * ((x.sz : Nat) : Int) + 5 by have q0 := FF.out hp40_320; omega), (show ((T40_310.c4 : Nat) : Int) ≤ 2 * ((x.c4 : Nat) : Int) by have q0 := FF.out hp40_321; omega)⟩ hP hD hS [] (by decide) rfl (Nat.le_refl _) (Nat.le_refl _) (FF.out mc40_322) (FF.out mk40_323)
  · have t2_2 := FF.mk (i_ne c2_1)
    have r2_3 : rg v3 1 1 := rg_neAl t2_2 h_v3 (show rg (0 : Int32) 0 0 from rg_l (by decide)) (by decide)
    obtain ⟨c5_2, ec5_2⟩ : ∃ x9 : Nat, x9 = 0 + 1 := ⟨_, rfl⟩
    have ec5_2 := FF.mk ec5_2
    have uc5_2 : FF (((c5_2 : Nat) : Int) ≤ 1) := FF.mk (show ((c5_2 : Nat) : Int) ≤ 1 by have q0 := FF.out ec5_2; omega)
    have mc5_2 : FF (c5_2 ≤ MC) := FF.mk (Int.ofNat_le.mp (show ((c5_2 : Nat) : Int) ≤ ((MC : Nat) : Int) by have q0 := FF.out hq0; have q1 := FF.out uc5_2; omega))
    obtain ⟨k5_3, ek5_3⟩ : ∃ x9 : Nat, x9 = 0 + 7 := ⟨_, rfl⟩
    have ek5_3 := FF.mk ek5_3
    have uk5_3 : FF (((k5_3 : Nat) : Int) ≤ 7) := FF.mk (show ((k5_3 : Nat) : Int) ≤ 7 by have q0 := FF.out ek5_3; omega)
    have mk5_3 : FF (k5_3 ≤ MS) := FF.mk (Int.ofNat_le.mp (show ((k5_3 : Nat) : Int) ≤ ((MS : Nat) : Int) by have q0 := FF.out hq1; have q1 := FF.out uk5_3; omega))
    refine nw_O (k1 := c5_2) (n1 := k5_3) (ci := 12) hx hb (htX12 hn) (fun _ h => h) tyX12 tyX12_ok hown (hn.get mw_1533 rfl) (hn.get mw_1969 rfl) (hn.get mw_22 rfl) hK hP hD hS hA rfl dfX12 (Nat.le_of_eq (FF.out ec5_2).symm) (Nat.le_of_eq (FF.out ek5_3).symm) (FF.out mc5_2) (FF.out mk5_3) dX16_within_5 (fun q5_1 H hP hD hS => ?_)
    have hP : va_P D vwCl ([(q5_1, .inr (12, [.int 0, .null, .null, .null, .null, .int 0, .int 0]))] ++ (([] : va_W))) _ := hP
    have hD : va_D A ([(q5_1, .inr (12, [.int 0, .null, .null, .null, .null, .int 0, .int 0]))] ++ (([] : va_W))) := hD
    refine lv_dup hx hb dX16_within_8 rfl ?_
    refine lv_aload_n hx hb dX16_within_9 rfl (lv_at hl 0 rfl) ?_
    refine lv_iconst (v := 3) hx hb dX16_within_10 (by decide) ?_
    refine lv_lload_n hx hb dX16_within_11 rfl (lv_at hl 1 rfl) ?_
    obtain ⟨m12_1, gm12_1⟩ : ∃ m9 : Nat, m9 + c5_2 = MC := ⟨MC - c5_2, Nat.sub_add_cancel (FF.out mc5_2)⟩
    have em12_1 := FF.mk gm12_1
    obtain ⟨m12_2, gm12_2⟩ : ∃ m9 : Nat, m9 + k5_3 = MS := ⟨MS - k5_3, Nat.sub_add_cancel (FF.out mk5_3)⟩
    have em12_2 := FF.mk gm12_2
    refine gt_q (pl := (([] : va_W))) (wr := [(q5_1, .inr (12, [.int 0, .null, .null, .null, .null, .int 0, .int 0]))]) [] [0] (rt_S (As := [.long v1]) (rest := [.int 3, .ref x.root, .ref q5_1, .ref q5_1]) (c_X16_n l hst D ct m12_1 m12_2 v1 (show 1 ≤ ((m12_1 : Nat) : Int) by have q0 := FF.out hq0; have q1 := FF.out uc5_2; have q2 := FF.out em12_1; omega) (show 5 ≤ ((m12_2 : Nat) : Int) by have q0 := FF.out hq1; have q1 := FF.out uk5_3; have q2 := FF.out em12_2; omega) _) (cb_of (n := 1) hn mw_2090 mw_13 mw_2088 mhX16_n ⟨(Nat.le_of_ble_eq_true rfl), (Nat.le_of_ble_eq_true rfl)⟩) hx hb hml hown hn hK hSK hZ hS mw_2089 rfl hl.1 (Nat.le_of_ble_eq_true rfl) dX16_within_12 ⟨(Nat.le_of_eq ((Nat.add_comm _ _).trans gm12_1)), (Nat.le_of_eq ((Nat.add_comm _ _).trans gm12_2))⟩) hP hD hS hA rfl rfl (by decide) (by decide) (by decide) (fun xq12_6 ux12_7 xfs12_8 H locs hpx12_9 hpexfs12_8 hP hD hS => ?_) (fun r12_3 u12_4 H locs hp12_5 hP hD hS => ?_)
    · exact hpx12_9.elim
    obtain ⟨T12_310, kc12_311, kn12_312⟩ := u12_4
    obtain ⟨hp12_313, hp12_314, hp12_315, hp12_316, hp12_317, hp12_318, hp12_319⟩ := hp12_5
    subst hp12_313
    replace hp12_315 : FF (((kc12_311 : Nat) : Int) ≤ 1) := hp12_315
    replace hp12_316 : FF (((kn12_312 : Nat) : Int) ≤ 5) := hp12_316
    replace hp12_317 : FF (((T12_310.sz : Nat) : Int) ≤ 1) := hp12_317
    replace hp12_318 : FF (((T12_310.dep : Nat) : Int) ≤ 0) := hp12_318
    replace hp12_319 : FF (((T12_310.c4 : Nat) : Int) ≤ 0) := hp12_319
    obtain ⟨c12_320, ec12_320⟩ : ∃ x9 : Nat, x9 = c5_2 + kc12_311 := ⟨_, rfl⟩
    have ec12_320 := FF.mk ec12_320
    have uc12_320 : FF (((c12_320 : Nat) : Int) ≤ 2) := FF.mk (show ((c12_320 : Nat) : Int) ≤ 2 by have q0 := FF.out uc5_2; have q1 := FF.out hp12_315; have q2 := FF.out ec12_320; omega)
    have mc12_320 : FF (c12_320 ≤ MC) := FF.mk (Int.ofNat_le.mp (show ((c12_320 : Nat) : Int) ≤ ((MC : Nat) : Int) by have q0 := FF.out hq0; have q1 := FF.out uc12_320; omega))
    obtain ⟨k12_321, ek12_321⟩ : ∃ x9 : Nat, x9 = k5_3 + kn12_312 := ⟨_, rfl⟩
    have ek12_321 := FF.mk ek12_321
    have uk12_321 : FF (((k12_321 : Nat) : Int) ≤ 12) := FF.mk (show ((k12_321 : Nat) : Int) ≤ 12 by have q0 := FF.out uk5_3; have q1 := FF.out hp12_316; have q2 := FF.out ek12_321; omega)
    have mk12_321 : FF (k12_321 ≤ MS) := FF.mk (Int.ofNat_le.mp (show ((k12_321 : Nat) : Int) ≤ ((MS : Nat) : Int) by have q0 := FF.out hq1; have q1 := FF.out uk12_321; omega))
    have hP : va_P D vwCl (([(q5_1, .inr (12, [.int 0, .null, .null, .null, .null, .int 0, .int 0]))] ++ (T12_310.cells)) ++ (([] : va_W))) _ := hP
    have hD : va_D A (([(q5_1, .inr (12, [.int 0, .null, .null, .null, .null, .int 0, .int 0]))] ++ (T12_310.cells)) ++ (([] : va_W))) := hD
    have hP := pool_in hP
    have hD := pool_inD hD
    obtain ⟨p12_322, ep12_322⟩ : ∃ p9 : va_W, p9 = (([] : va_W) ++ (T12_310.cells)) := ⟨_, rfl⟩
    rw [← ep12_322] at hP hD
    have hk12_323 : FF (0 ≤ ((T12_310.sz : Nat) : Int)) := Int.natCast_nonneg _
    have hk12_324 : FF (0 ≤ ((T12_310.dep : Nat) : Int)) := Int.natCast_nonneg _
    have hk12_325 : FF (0 ≤ ((T12_310.c4 : Nat) : Int)) := Int.natCast_nonneg _
    have hP : va_P D vwCl ([(q5_1, .inr (12, [.int 0, .null, .null, .null, .null, .int 0, .int 0]))] ++ (p12_322)) _ := hP
    have hD : va_D A ([(q5_1, .inr (12, [.int 0, .null, .null, .null, .null, .int 0, .int 0]))] ++ (p12_322)) := hD
    refine W.widen (k := c12_320) (n := k12_321) (Nat.le_of_eq (FF.out ec12_320).symm) (Nat.le_of_eq (FF.out ek12_321).symm) (W.eq (g2 := F0 m 15 ls [.ref T12_310.root, .int 3, .ref x.root, .ref q5_1, .ref q5_1]) rfl ?_)
    refine gq_v (k1 := c12_320) (n1 := k12_321) (wr := []) [0] [] (rn_I (As := [.ref x.root, .int 3, .ref T12_310.root]) (rest := [.ref q5_1]) (c_X12_init__rr l D ct q5_1 x.root (3 : Int32) T12_310.root  _) (cb_of (n := 3) hn mw_2123 mw_22 mw_2121 mhX12_init_ ⟨(Nat.le_of_ble_eq_true rfl), (Nat.le_of_ble_eq_true rfl)⟩) hx hb hml hown hn hK hSK hZ hS mw_2122 rfl rfl hl.1 (Nat.le_of_ble_eq_true rfl) dX16_within_15 ⟨(FF.out mc12_320), (FF.out mk12_321)⟩) hP hD hS hA rfl rfl (by decide) (by decide) (by decide) (Nat.le_refl _) (Nat.le_refl _) (fun u15_2 H locs hp15_3 hP hD hS => ?_)
    have hP : va_P D vwCl ([(q5_1, .inr (12, [.int 0, .null, .null, .ref x.root, .ref T12_310.root, .int 3, .int 0]))] ++ (p12_322)) _ := hP
    have hD : va_D A ([(q5_1, .inr (12, [.int 0, .null, .null, .ref x.root, .ref T12_310.root, .int 3, .int 0]))] ++ (p12_322)) := hD
    have hP : va_P D vwCl (([] ++ [(q5_1, FT.ent (FT.test q5_1 x T12_310 (3 : Int32)) (Z0 q5_1))]) ++ (p12_322)) _ := hP
    have hD : va_D A (([] ++ [(q5_1, FT.ent (FT.test q5_1 x T12_310 (3 : Int32)) (Z0 q5_1))]) ++ (p12_322)) := hD
    have hP := pool_in hP
    have hD := pool_inD hD
    obtain ⟨p15_4, ep15_4⟩ : ∃ p9 : va_W, p9 = (p12_322 ++ [(q5_1, FT.ent (FT.test q5_1 x T12_310 (3 : Int32)) (Z0 q5_1))]) := ⟨_, rfl⟩
    rw [← ep15_4] at hP hD
    have hP : va_P D vwCl ([] ++ (p15_4)) _ := hP
    have hD : va_D A ([] ++ (p15_4)) := hD
    have hk15_5 : FF ((((FT.test q5_1 x T12_310 (3 : Int32)).sz : Nat) : Int) = ((x.sz : Nat) : Int) + ((T12_310.sz : Nat) : Int) + 1) := (FF.mk (by simp only [ST.sz_leaf, ST.sz_minus, ST.sz_group, ST.sz_acc, ST.sz_two, ST.dep_leaf, ST.dep_minus, ST.dep_group, ST.dep_acc, ST.dep_two, ST.c4_leaf, ST.c4_minus, ST.c4_group, ST.c4_acc, ST.c4_two, FT.sz_test, FT.sz_inv, FT.sz_two, FT.sz_pair, FT.dep_test, FT.dep_inv, FT.dep_two, FT.dep_pair, FT.c4_test, FT.c4_inv, FT.c4_two, FT.c4_pair]; first | omega | (rw [if_neg (by decide)]; omega) | (rw [if_pos (by decide)]; omega) | (split <;> omega) | skip))
    have hk15_6 : FF (((x.dep : Nat) : Int) ≤ (((FT.test q5_1 x T12_310 (3 : Int32)).dep : Nat) : Int)) := (FF.mk (by simp only [ST.sz_leaf, ST.sz_minus, ST.sz_group, ST.sz_acc, ST.sz_two, ST.dep_leaf, ST.dep_minus, ST.dep_group, ST.dep_acc, ST.dep_two, ST.c4_leaf, ST.c4_minus, ST.c4_group, ST.c4_acc, ST.c4_two, FT.sz_test, FT.sz_inv, FT.sz_two, FT.sz_pair, FT.dep_test, FT.dep_inv, FT.dep_two, FT.dep_pair, FT.c4_test, FT.c4_inv, FT.c4_two, FT.c4_pair]; first | omega | (rw [if_neg (by decide)]; omega) | (rw [if_pos (by decide)]; omega) | (split <;> omega) | skip))
    have hk15_7 : FF (((T12_310.dep : Nat) : Int) ≤ (((FT.test q5_1 x T12_310 (3 : Int32)).dep : Nat) : Int)) := (FF.mk (by simp only [ST.sz_leaf, ST.sz_minus, ST.sz_group, ST.sz_acc, ST.sz_two, ST.dep_leaf, ST.dep_minus, ST.dep_group, ST.dep_acc, ST.dep_two, ST.c4_leaf, ST.c4_minus, ST.c4_group, ST.c4_acc, ST.c4_two, FT.sz_test, FT.sz_inv, FT.sz_two, FT.sz_pair, FT.dep_test, FT.dep_inv, FT.dep_two, FT.dep_pair, FT.c4_test, FT.c4_inv, FT.c4_two, FT.c4_pair]; first | omega | (rw [if_neg (by decide)]; omega) | (rw [if_pos (by decide)]; omega) | (split <;> omega) | skip))
    have hk15_8 : FF ((((FT.test q5_1 x T12_310 (3 : Int32)).dep : Nat) : Int) ≤ ((x.dep : Nat) : Int) ∨ (((FT.test q5_1 x T12_310 (3 : Int32)).dep : Nat) : Int) ≤ ((T12_310.dep : Nat) : Int)) := (FF.mk (by simp only [ST.sz_leaf, ST.sz_minus, ST.sz_group, ST.sz_acc, ST.sz_two, ST.dep_leaf, ST.dep_minus, ST.dep_group, ST.dep_acc, ST.dep_two, ST.c4_leaf, ST.c4_minus, ST.c4_group, ST.c4_acc, ST.c4_two, FT.sz_test, FT.sz_inv, FT.sz_two, FT.sz_pair, FT.dep_test, FT.dep_inv, FT.dep_two, FT.dep_pair, FT.c4_test, FT.c4_inv, FT.c4_two, FT.c4_pair]; first | omega | (rw [if_neg (by decide)]; omega) | (rw [if_pos (by decide)]; omega) | (split <;> omega) | skip))
    have hk15_9 : FF ((((FT.test q5_1 x T12_310 (3 : Int32)).c4 : Nat) : Int) = ((x.c4 : Nat) : Int) + ((T12_310.c4 : Nat) : Int)) := (FF.mk (by simp only [ST.sz_leaf, ST.sz_minus, ST.sz_group, ST.sz_acc, ST.sz_two, ST.dep_leaf, ST.dep_minus, ST.dep_group, ST.dep_acc, ST.dep_two, ST.c4_leaf, ST.c4_minus, ST.c4_group, ST.c4_acc, ST.c4_two, FT.sz_test, FT.sz_inv, FT.sz_two, FT.sz_pair, FT.dep_test, FT.dep_inv, FT.dep_two, FT.dep_pair, FT.c4_test, FT.c4_inv, FT.c4_two, FT.c4_pair]; first | omega | (rw [if_neg (by decide)]; omega) | (rw [if_pos (by decide)]; omega) | (split <;> omega) | skip))
    obtain ⟨c18_2, ec18_2⟩ : ∃ x9 : Nat, x9 = c12_320 + 1 := ⟨_, rfl⟩
    have ec18_2 := FF.mk ec18_2
    have uc18_2 : FF (((c18_2 : Nat) : Int) ≤ 3) := FF.mk (show ((c18_2 : Nat) : Int) ≤ 3 by have q0 := FF.out uc12_320; have q1 := FF.out ec18_2; omega)
    have mc18_2 : FF (c18_2 ≤ MC) := FF.mk (Int.ofNat_le.mp (show ((c18_2 : Nat) : Int) ≤ ((MC : Nat) : Int) by have q0 := FF.out hq0; have q1 := FF.out uc18_2; omega))
    obtain ⟨k18_3, ek18_3⟩ : ∃ x9 : Nat, x9 = k12_321 + 7 := ⟨_, rfl⟩
    have ek18_3 := FF.mk ek18_3
    have uk18_3 : FF (((k18_3 : Nat) : Int) ≤ 19) := FF.mk (show ((k18_3 : Nat) : Int) ≤ 19 by have q0 := FF.out uk12_321; have q1 := FF.out ek18_3; omega)
    have mk18_3 : FF (k18_3 ≤ MS) := FF.mk (Int.ofNat_le.mp (show ((k18_3 : Nat) : Int) ≤ ((MS : Nat) : Int) by have q0 := FF.out hq1; have q1 := FF.out uk18_3; omega))
    refine nw_O (k1 := c18_2) (n1 := k18_3) (ci := 12) hx hb (htX12 hn) (fun _ h => h) tyX12 tyX12_ok hown (hn.get mw_1533 rfl) (hn.get mw_1969 rfl) (hn.get mw_22 rfl) hK hP hD hS hA rfl dfX12 (Nat.le_of_eq (FF.out ec18_2).symm) (Nat.le_of_eq (FF.out ek18_3).symm) (FF.out mc18_2) (FF.out mk18_3) dX16_within_18 (fun q18_1 H hP hD hS => ?_)
    have hP : va_P D vwCl ([(q18_1, .inr (12, [.int 0, .null, .null, .null, .null, .int 0, .int 0]))] ++ (p15_4)) _ := hP
    have hD : va_D A ([(q18_1, .inr (12, [.int 0, .null, .null, .null, .null, .int 0, .int 0]))] ++ (p15_4)) := hD
    refine lv_dup hx hb dX16_within_21 rfl ?_
    refine lv_aload_n hx hb dX16_within_22 rfl (lv_at hl 0 rfl) ?_
    refine lv_bipush (v := 11) hx hb dX16_within_23 (by decide) ?_
    refine lv_lload_n hx hb dX16_within_25 rfl (lv_at hl 2 rfl) ?_
    obtain ⟨m26_1, gm26_1⟩ : ∃ m9 : Nat, m9 + c18_2 = MC := ⟨MC - c18_2, Nat.sub_add_cancel (FF.out mc18_2)⟩
    have em26_1 := FF.mk gm26_1
    obtain ⟨m26_2, gm26_2⟩ : ∃ m9 : Nat, m9 + k18_3 = MS := ⟨MS - k18_3, Nat.sub_add_cancel (FF.out mk18_3)⟩
    have em26_2 := FF.mk gm26_2
    refine gt_q (pl := (p15_4)) (wr := [(q18_1, .inr (12, [.int 0, .null, .null, .null, .null, .int 0, .int 0]))]) [] [0] (rt_S (As := [.long v2]) (rest := [.int 11, .ref x.root, .ref q18_1, .ref q18_1, .ref q5_1]) (c_X16_n l hst D ct m26_1 m26_2 v2 (show 1 ≤ ((m26_1 : Nat) : Int) by have q0 := FF.out hq0; have q1 := FF.out uc18_2; have q2 := FF.out em26_1; omega) (show 5 ≤ ((m26_2 : Nat) : Int) by have q0 := FF.out hq1; have q1 := FF.out uk18_3; have q2 := FF.out em26_2; omega) _) (cb_of (n := 1) hn mw_2090 mw_13 mw_2088 mhX16_n ⟨(Nat.le_of_ble_eq_true rfl), (Nat.le_of_ble_eq_true rfl)⟩) hx hb hml hown hn hK hSK hZ hS mw_2089 rfl hl.1 (Nat.le_of_ble_eq_true rfl) dX16_within_26 ⟨(Nat.le_of_eq ((Nat.add_comm _ _).trans gm26_1)), (Nat.le_of_eq ((Nat.add_comm _ _).trans gm26_2))⟩) hP hD hS hA rfl rfl (by decide) (by decide) (by decide) (fun xq26_6 ux26_7 xfs26_8 H locs hpx26_9 hpexfs26_8 hP hD hS => ?_) (fun r26_3 u26_4 H locs hp26_5 hP hD hS => ?_)
    · exact hpx26_9.elim
    obtain ⟨T26_310, kc26_311, kn26_312⟩ := u26_4
    obtain ⟨hp26_313, hp26_314, hp26_315, hp26_316, hp26_317, hp26_318, hp26_319⟩ := hp26_5
    subst hp26_313
    replace hp26_315 : FF (((kc26_311 : Nat) : Int) ≤ 1) := hp26_315
    replace hp26_316 : FF (((kn26_312 : Nat) : Int) ≤ 5) := hp26_316
    replace hp26_317 : FF (((T26_310.sz : Nat) : Int) ≤ 1) := hp26_317
    replace hp26_318 : FF (((T26_310.dep : Nat) : Int) ≤ 0) := hp26_318
    replace hp26_319 : FF (((T26_310.c4 : Nat) : Int) ≤ 0) := hp26_319
    obtain ⟨c26_320, ec26_320⟩ : ∃ x9 : Nat, x9 = c18_2 + kc26_311 := ⟨_, rfl⟩
    have ec26_320 := FF.mk ec26_320
    have uc26_320 : FF (((c26_320 : Nat) : Int) ≤ 4) := FF.mk (show ((c26_320 : Nat) : Int) ≤ 4 by have q0 := FF.out uc18_2; have q1 := FF.out hp26_315; have q2 := FF.out ec26_320; omega)
    have mc26_320 : FF (c26_320 ≤ MC) := FF.mk (Int.ofNat_le.mp (show ((c26_320 : Nat) : Int) ≤ ((MC : Nat) : Int) by have q0 := FF.out hq0; have q1 := FF.out uc26_320; omega))
    obtain ⟨k26_321, ek26_321⟩ : ∃ x9 : Nat, x9 = k18_3 + kn26_312 := ⟨_, rfl⟩
    have ek26_321 := FF.mk ek26_321
    have uk26_321 : FF (((k26_321 : Nat) : Int) ≤ 24) := FF.mk (show ((k26_321 : Nat) : Int) ≤ 24 by have q0 := FF.out uk18_3; have q1 := FF.out hp26_316; have q2 := FF.out ek26_321; omega)
    have mk26_321 : FF (k26_321 ≤ MS) := FF.mk (Int.ofNat_le.mp (show ((k26_321 : Nat) : Int) ≤ ((MS : Nat) : Int) by have q0 := FF.out hq1; have q1 := FF.out uk26_321; omega))
    have hP : va_P D vwCl (([(q18_1, .inr (12, [.int 0, .null, .null, .null, .null, .int 0, .int 0]))] ++ (T26_310.cells)) ++ (p15_4)) _ := hP
    have hD : va_D A (([(q18_1, .inr (12, [.int 0, .null, .null, .null, .null, .int 0, .int 0]))] ++ (T26_310.cells)) ++ (p15_4)) := hD
    have hP := pool_in hP
    have hD := pool_inD hD
    obtain ⟨p26_322, ep26_322⟩ : ∃ p9 : va_W, p9 = (p15_4 ++ (T26_310.cells)) := ⟨_, rfl⟩
    rw [← ep26_322] at hP hD
    have hk26_323 : FF (0 ≤ ((T26_310.sz : Nat) : Int)) := Int.natCast_nonneg _
    have hk26_324 : FF (0 ≤ ((T26_310.dep : Nat) : Int)) := Int.natCast_nonneg _
    have hk26_325 : FF (0 ≤ ((T26_310.c4 : Nat) : Int)) := Int.natCast_nonneg _
    have hP : va_P D vwCl ([(q18_1, .inr (12, [.int 0, .null, .null, .null, .null, .int 0, .int 0]))] ++ (p26_322)) _ := hP
    have hD : va_D A ([(q18_1, .inr (12, [.int 0, .null, .null, .null, .null, .int 0, .int 0]))] ++ (p26_322)) := hD
    refine W.widen (k := c26_320) (n := k26_321) (Nat.le_of_eq (FF.out ec26_320).symm) (Nat.le_of_eq (FF.out ek26_321).symm) (W.eq (g2 := F0 m 29 ls [.ref T26_310.root, .int 11, .ref x.root, .ref q18_1, .ref q18_1, .ref q5_1]) rfl ?_)
    refine gq_v (k1 := c26_320) (n1 := k26_321) (wr := []) [0] [] (rn_I (As := [.ref x.root, .int 11, .ref T26_310.root]) (rest := [.ref q18_1, .ref q5_1]) (c_X12_init__rr l D ct q18_1 x.root (11 : Int32) T26_310.root  _) (cb_of (n := 3) hn mw_2123 mw_22 mw_2121 mhX12_init_ ⟨(Nat.le_of_ble_eq_true rfl), (Nat.le_of_ble_eq_true rfl)⟩) hx hb hml hown hn hK hSK hZ hS mw_2122 rfl rfl hl.1 (Nat.le_of_ble_eq_true rfl) dX16_within_29 ⟨(FF.out mc26_320), (FF.out mk26_321)⟩) hP hD hS hA rfl rfl (by decide) (by decide) (by decide) (Nat.le_refl _) (Nat.le_refl _) (fun u29_2 H locs hp29_3 hP hD hS => ?_)
    have hP : va_P D vwCl ([(q18_1, .inr (12, [.int 0, .null, .null, .ref x.root, .ref T26_310.root, .int 11, .int 0]))] ++ (p26_322)) _ := hP
    have hD : va_D A ([(q18_1, .inr (12, [.int 0, .null, .null, .ref x.root, .ref T26_310.root, .int 11, .int 0]))] ++ (p26_322)) := hD
    have hP : va_P D vwCl (([] ++ [(q18_1, FT.ent (FT.test q18_1 x T26_310 (11 : Int32)) (Z0 q18_1))]) ++ (p26_322)) _ := hP
    have hD : va_D A (([] ++ [(q18_1, FT.ent (FT.test q18_1 x T26_310 (11 : Int32)) (Z0 q18_1))]) ++ (p26_322)) := hD
    have hP := pool_in hP
    have hD := pool_inD hD
    obtain ⟨p29_4, ep29_4⟩ : ∃ p9 : va_W, p9 = (p26_322 ++ [(q18_1, FT.ent (FT.test q18_1 x T26_310 (11 : Int32)) (Z0 q18_1))]) := ⟨_, rfl⟩
    rw [← ep29_4] at hP hD
    have hP : va_P D vwCl ([] ++ (p29_4)) _ := hP
    have hD : va_D A ([] ++ (p29_4)) := hD
    have hk29_5 : FF ((((FT.test q18_1 x T26_310 (11 : Int32)).sz : Nat) : Int) = ((x.sz : Nat) : Int) + ((T26_310.sz : Nat) : Int) + 1) := (FF.mk (by simp only [ST.sz_leaf, ST.sz_minus, ST.sz_group, ST.sz_acc, ST.sz_two, ST.dep_leaf, ST.dep_minus, ST.dep_group, ST.dep_acc, ST.dep_two, ST.c4_leaf, ST.c4_minus, ST.c4_group, ST.c4_acc, ST.c4_two, FT.sz_test, FT.sz_inv, FT.sz_two, FT.sz_pair, FT.dep_test, FT.dep_inv, FT.dep_two, FT.dep_pair, FT.c4_test, FT.c4_inv, FT.c4_two, FT.c4_pair]; first | omega | (rw [if_neg (by decide)]; omega) | (rw [if_pos (by decide)]; omega) | (split <;> omega) | skip))
    have hk29_6 : FF (((x.dep : Nat) : Int) ≤ (((FT.test q18_1 x T26_310 (11 : Int32)).dep : Nat) : Int)) := (FF.mk (by simp only [ST.sz_leaf, ST.sz_minus, ST.sz_group, ST.sz_acc, ST.sz_two, ST.dep_leaf, ST.dep_minus, ST.dep_group, ST.dep_acc, ST.dep_two, ST.c4_leaf, ST.c4_minus, ST.c4_group, ST.c4_acc, ST.c4_two, FT.sz_test, FT.sz_inv, FT.sz_two, FT.sz_pair, FT.dep_test, FT.dep_inv, FT.dep_two, FT.dep_pair, FT.c4_test, FT.c4_inv, FT.c4_two, FT.c4_pair]; first | omega | (rw [if_neg (by decide)]; omega) | (rw [if_pos (by decide)]; omega) | (split <;> omega) | skip))
    have hk29_7 : FF (((T26_310.dep : Nat) : Int) ≤ (((FT.test q18_1 x T26_310 (11 : Int32)).dep : Nat) : Int)) := (FF.mk (by simp only [ST.sz_leaf, ST.sz_minus, ST.sz_group, ST.sz_acc, ST.sz_two, ST.dep_leaf, ST.dep_minus, ST.dep_group, ST.dep_acc, ST.dep_two, ST.c4_leaf, ST.c4_minus, ST.c4_group, ST.c4_acc, ST.c4_two, FT.sz_test, FT.sz_inv, FT.sz_two, FT.sz_pair, FT.dep_test, FT.dep_inv, FT.dep_two, FT.dep_pair, FT.c4_test, FT.c4_inv, FT.c4_two, FT.c4_pair]; first | omega | (rw [if_neg (by decide)]; omega) | (rw [if_pos (by decide)]; omega) | (split <;> omega) | skip))
    have hk29_8 : FF ((((FT.test q18_1 x T26_310 (11 : Int32)).dep : Nat) : Int) ≤ ((x.dep : Nat) : Int) ∨ (((FT.test q18_1 x T26_310 (11 : Int32)).dep : Nat) : Int) ≤ ((T26_310.dep : Nat) : Int)) := (FF.mk (by simp only [ST.sz_leaf, ST.sz_minus, ST.sz_group, ST.sz_acc, ST.sz_two, ST.dep_leaf, ST.dep_minus, ST.dep_group, ST.dep_acc, ST.dep_two, ST.c4_leaf, ST.c4_minus, ST.c4_group, ST.c4_acc, ST.c4_two, FT.sz_test, FT.sz_inv, FT.sz_two, FT.sz_pair, FT.dep_test, FT.dep_inv, FT.dep_two, FT.dep_pair, FT.c4_test, FT.c4_inv, FT.c4_two, FT.c4_pair]; first | omega | (rw [if_neg (by decide)]; omega) | (rw [if_pos (by decide)]; omega) | (split <;> omega) | skip))
    have hk29_9 : FF ((((FT.test q18_1 x T26_310 (11 : Int32)).c4 : Nat) : Int) = ((x.c4 : Nat) : Int) + ((T26_310.c4 : Nat) : Int)) := (FF.mk (by simp only [ST.sz_leaf, ST.sz_minus, ST.sz_group, ST.sz_acc, ST.sz_two, ST.dep_leaf, ST.dep_minus, ST.dep_group, ST.dep_acc, ST.dep_two, ST.c4_leaf, ST.c4_minus, ST.c4_group, ST.c4_acc, ST.c4_two, FT.sz_test, FT.sz_inv, FT.sz_two, FT.sz_pair, FT.dep_test, FT.dep_inv, FT.dep_two, FT.dep_pair, FT.c4_test, FT.c4_inv, FT.c4_two, FT.c4_pair]; first | omega | (rw [if_neg (by decide)]; omega) | (rw [if_pos (by decide)]; omega) | (split <;> omega) | skip))
    obtain ⟨m32_1, gm32_1⟩ : ∃ m9 : Nat, m9 + c26_320 = MC := ⟨MC - c26_320, Nat.sub_add_cancel (FF.out mc26_320)⟩
    have em32_1 := FF.mk gm32_1
    obtain ⟨m32_2, gm32_2⟩ : ∃ m9 : Nat, m9 + k26_321 = MS := ⟨MS - k26_321, Nat.sub_add_cancel (FF.out mk26_321)⟩
    have em32_2 := FF.mk gm32_2
    refine gt_q (pl := (p29_4)) (wr := []) [] [] (rt_S (As := [.ref q5_1, .ref q18_1]) (rest := []) (c_X16_and l hst D ct m32_1 m32_2 (FT.test q5_1 x T12_310 (3 : Int32)) (FT.test q18_1 x T26_310 (11 : Int32)) (FT.ok_test ok_x hp12_314) (FT.ok_test ok_x hp26_314) (show 1 ≤ ((m32_1 : Nat) : Int) by have q0 := FF.out hq0; have q1 := FF.out uc26_320; have q2 := FF.out em32_1; omega) (show 7 ≤ ((m32_2 : Nat) : Int) by have q0 := FF.out hq1; have q1 := FF.out uk26_321; have q2 := FF.out em32_2; omega) _) (cb_of (n := 2) hn mw_2154 mw_13 mw_2152 mhX16_and ⟨(Nat.le_of_ble_eq_true rfl), (Nat.le_of_ble_eq_true rfl)⟩) hx hb hml hown hn hK hSK hZ hS mw_2153 rfl hl.1 (Nat.le_of_ble_eq_true rfl) dX16_within_32 ⟨(Nat.le_of_eq ((Nat.add_comm _ _).trans gm32_1)), (Nat.le_of_eq ((Nat.add_comm _ _).trans gm32_2))⟩) hP hD hS hA rfl rfl (by decide) (by decide) (by decide) (fun xq32_6 ux32_7 xfs32_8 H locs hpx32_9 hpexfs32_8 hP hD hS => ?_) (fun r32_3 u32_4 H locs hp32_5 hP hD hS => ?_)
    · exact hpx32_9.elim
    obtain ⟨q32_310, kc32_311, kn32_312⟩ := u32_4
    obtain ⟨hp32_313, hp32_314, hp32_315⟩ := hp32_5
    replace hp32_314 : FF (((kc32_311 : Nat) : Int) ≤ 1) := hp32_314
    replace hp32_315 : FF (((kn32_312 : Nat) : Int) ≤ 7) := hp32_315
    obtain ⟨c32_316, ec32_316⟩ : ∃ x9 : Nat, x9 = c26_320 + kc32_311 := ⟨_, rfl⟩
    have ec32_316 := FF.mk ec32_316
    have uc32_316 : FF (((c32_316 : Nat) : Int) ≤ 5) := FF.mk (show ((c32_316 : Nat) : Int) ≤ 5 by have q0 := FF.out uc26_320; have q1 := FF.out hp32_314; have q2 := FF.out ec32_316; omega)
    have mc32_316 : FF (c32_316 ≤ MC) := FF.mk (Int.ofNat_le.mp (show ((c32_316 : Nat) : Int) ≤ ((MC : Nat) : Int) by have q0 := FF.out hq0; have q1 := FF.out uc32_316; omega))
    obtain ⟨k32_317, ek32_317⟩ : ∃ x9 : Nat, x9 = k26_321 + kn32_312 := ⟨_, rfl⟩
    have ek32_317 := FF.mk ek32_317
    have uk32_317 : FF (((k32_317 : Nat) : Int) ≤ 31) := FF.mk (show ((k32_317 : Nat) : Int) ≤ 31 by have q0 := FF.out uk26_321; have q1 := FF.out hp32_315; have q2 := FF.out ek32_317; omega)
    have mk32_317 : FF (k32_317 ≤ MS) := FF.mk (Int.ofNat_le.mp (show ((k32_317 : Nat) : Int) ≤ ((MS : Nat) : Int) by have q0 := FF.out hq1; have q1 := FF.out uk32_317; omega))
    subst hp32_313
    have hP : va_P D vwCl (([] ++ [(r32_3, FT.ent (FT.two r32_3 false (FT.test q5_1 x T12_310 (3 : Int32)) (FT.test q18_1 x T26_310 (11 : Int32))) (Z0 r32_3))]) ++ (p29_4)) _ := hP
    have hD : va_D A (([] ++ [(r32_3, FT.ent (FT.two r32_3 false (FT.test q5_1 x T12_310 (3 : Int32)) (FT.test q18_1 x T26_310 (11 : Int32))) (Z0 r32_3))]) ++ (p29_4)) := hD
    have hP := pool_in hP
    have hD := pool_inD hD
    obtain ⟨p32_318, ep32_318⟩ : ∃ p9 : va_W, p9 = (p29_4 ++ [(r32_3, FT.ent (FT.two r32_3 false (FT.test q5_1 x T12_310 (3 : Int32)) (FT.test q18_1 x T26_310 (11 : Int32))) (Z0 r32_3))]) := ⟨_, rfl⟩
    rw [← ep32_318] at hP hD
    have hP : va_P D vwCl ([] ++ (p32_318)) _ := hP
    have hD : va_D A ([] ++ (p32_318)) := hD
    have hk32_319 : FF ((((FT.two r32_3 false (FT.test q5_1 x T12_310 (3 : Int32)) (FT.test q18_1 x T26_310 (11 : Int32))).sz : Nat) : Int) = (((FT.test q5_1 x T12_310 (3 : Int32)).sz : Nat) : Int) + (((FT.test q18_1 x T26_310 (11 : Int32)).sz : Nat) : Int) + 1) := (FF.mk (by simp only [ST.sz_leaf, ST.sz_minus, ST.sz_group, ST.sz_acc, ST.sz_two, ST.dep_leaf, ST.dep_minus, ST.dep_group, ST.dep_acc, ST.dep_two, ST.c4_leaf, ST.c4_minus, ST.c4_group, ST.c4_acc, ST.c4_two, FT.sz_test, FT.sz_inv, FT.sz_two, FT.sz_pair, FT.dep_test, FT.dep_inv, FT.dep_two, FT.dep_pair, FT.c4_test, FT.c4_inv, FT.c4_two, FT.c4_pair]; first | omega | (rw [if_neg (by decide)]; omega) | (rw [if_pos (by decide)]; omega) | (split <;> omega) | skip))
    have hk32_320 : FF ((((FT.test q5_1 x T12_310 (3 : Int32)).dep : Nat) : Int) ≤ (((FT.two r32_3 false (FT.test q5_1 x T12_310 (3 : Int32)) (FT.test q18_1 x T26_310 (11 : Int32))).dep : Nat) : Int)) := (FF.mk (by simp only [ST.sz_leaf, ST.sz_minus, ST.sz_group, ST.sz_acc, ST.sz_two, ST.dep_leaf, ST.dep_minus, ST.dep_group, ST.dep_acc, ST.dep_two, ST.c4_leaf, ST.c4_minus, ST.c4_group, ST.c4_acc, ST.c4_two, FT.sz_test, FT.sz_inv, FT.sz_two, FT.sz_pair, FT.dep_test, FT.dep_inv, FT.dep_two, FT.dep_pair, FT.c4_test, FT.c4_inv, FT.c4_two, FT.c4_pair]; first | omega | (rw [if_neg (by decide)]; omega) | (rw [if_pos (by decide)]; omega) | (split <;> omega) | skip))
    have hk32_321 : FF ((((FT.test q18_1 x T26_310 (11 : Int32)).dep : Nat) : Int) ≤ (((FT.two r32_3 false (FT.test q5_1 x T12_310 (3 : Int32)) (FT.test q18_1 x T26_310 (11 : Int32))).dep : Nat) : Int)) := (FF.mk (by simp only [ST.sz_leaf, ST.sz_minus, ST.sz_group, ST.sz_acc, ST.sz_two, ST.dep_leaf, ST.dep_minus, ST.dep_group, ST.dep_acc, ST.dep_two, ST.c4_leaf, ST.c4_minus, ST.c4_group, ST.c4_acc, ST.c4_two, FT.sz_test, FT.sz_inv, FT.sz_two, FT.sz_pair, FT.dep_test, FT.dep_inv, FT.dep_two, FT.dep_pair, FT.c4_test, FT.c4_inv, FT.c4_two, FT.c4_pair]; first | omega | (rw [if_neg (by decide)]; omega) | (rw [if_pos (by decide)]; omega) | (split <;> omega) | skip))
    have hk32_322 : FF ((((FT.two r32_3 false (FT.test q5_1 x T12_310 (3 : Int32)) (FT.test q18_1 x T26_310 (11 : Int32))).dep : Nat) : Int) ≤ (((FT.test q5_1 x T12_310 (3 : Int32)).dep : Nat) : Int) ∨ (((FT.two r32_3 false (FT.test q5_1 x T12_310 (3 : Int32)) (FT.test q18_1 x T26_310 (11 : Int32))).dep : Nat) : Int) ≤ (((FT.test q18_1 x T26_310 (11 : Int32)).dep : Nat) : Int)) := (FF.mk (by simp only [ST.sz_leaf, ST.sz_minus, ST.sz_group, ST.sz_acc, ST.sz_two, ST.dep_leaf, ST.dep_minus, ST.dep_group, ST.dep_acc, ST.dep_two, ST.c4_leaf, ST.c4_minus, ST.c4_group, ST.c4_acc, ST.c4_two, FT.sz_test, FT.sz_inv, FT.sz_two, FT.sz_pair, FT.dep_test, FT.dep_inv, FT.dep_two, FT.dep_pair, FT.c4_test, FT.c4_inv, FT.c4_two, FT.c4_pair]; first | omega | (rw [if_neg (by decide)]; omega) | (rw [if_pos (by decide)]; omega) | (split <;> omega) | skip))
    have hk32_323 : FF ((((FT.two r32_3 false (FT.test q5_1 x T12_310 (3 : Int32)) (FT.test q18_1 x T26_310 (11 : Int32))).c4 : Nat) : Int) = (((FT.test q5_1 x T12_310 (3 : Int32)).c4 : Nat) : Int) + (((FT.test q18_1 x T26_310 (11 : Int32)).c4 : Nat) : Int)) := (FF.mk (by simp only [ST.sz_leaf, ST.sz_minus, ST.sz_group, ST.sz_acc, ST.sz_two, ST.dep_leaf, ST.dep_minus, ST.dep_group, ST.dep_acc, ST.dep_two, ST.c4_leaf, ST.c4_minus, ST.c4_group, ST.c4_acc, ST.c4_two, FT.sz_test, FT.sz_inv, FT.sz_two, FT.sz_pair, FT.dep_test, FT.dep_inv, FT.dep_two, FT.dep_pair, FT.c4_test, FT.c4_inv, FT.c4_two, FT.c4_pair]; first | omega | (rw [if_neg (by decide)]; omega) | (rw [if_pos (by decide)]; omega) | (split <;> omega) | skip))
    have hP : va_P D vwCl ([] ++ (p32_318)) _ := hP
    have hD : va_D A ([] ++ (p32_318)) := hD
    refine W.widen (k := c32_316) (n := k32_317) (Nat.le_of_eq (FF.out ec32_316).symm) (Nat.le_of_eq (FF.out ek32_317).symm) (W.eq (g2 := F0 m 35 ls [.ref r32_3]) rfl ?_)
    refine lv_goto (tgt := 43) hx hb dX16_within_35 (by decide) ?_
    have hk43_1 : FF ((((FT.pair r32_3 q5_1 q18_1 x T12_310 T26_310).sz : Nat) : Int) = 2 * ((x.sz : Nat) : Int) + ((T12_310.sz : Nat) : Int) + ((T26_310.sz : Nat) : Int) + 3) := (FF.mk (by simp only [FT.sz_pair, FT.dep_pair, FT.c4_pair]; omega))
    have hk43_2 : FF ((((FT.pair r32_3 q5_1 q18_1 x T12_310 T26_310).dep : Nat) : Int) ≤ ((x.dep : Nat) : Int) ∨ (((FT.pair r32_3 q5_1 q18_1 x T12_310 T26_310).dep : Nat) : Int) ≤ ((T12_310.dep : Nat) : Int) ∨ (((FT.pair r32_3 q5_1 q18_1 x T12_310 T26_310).dep : Nat) : Int) ≤ ((T26_310.dep : Nat) : Int)) := (FF.mk (by simp only [FT.sz_pair, FT.dep_pair, FT.c4_pair]; omega))
    have hk43_3 : FF ((((FT.pair r32_3 q5_1 q18_1 x T12_310 T26_310).c4 : Nat) : Int) = 2 * ((x.c4 : Nat) : Int) + ((T12_310.c4 : Nat) : Int) + ((T26_310.c4 : Nat) : Int)) := (FF.mk (by simp only [FT.sz_pair, FT.dep_pair, FT.c4_pair]; omega))
    exact et_r (SX := Unit) hQ hx hb hr hlocks dX16_within_43 ((FT.pair r32_3 q5_1 q18_1 x T12_310 T26_310), (p32_318), c32_316, k32_317) ⟨rfl, (FT.ok_pair ok_x hp12_314 hp26_314), (seg_perm (fun f => by have w0 := seg_sum (List.Perm.of_eq ep12_322) f; have w1 := seg_sum (List.Perm.of_eq ep15_4) f; have w2 := seg_sum (List.Perm.of_eq ep26_322) f; have w3 := seg_sum (List.Perm.of_eq ep29_4) f; have w4 := seg_sum (List.Perm.of_eq ep32_318) f; simp only [ST.cells_leaf, ST.cells_minus, ST.cells_group, ST.cells_acc, ST.cells_two, FT.cells_two, FT.cells_inv, FT.cells_test, FT.cells_pair, List.map_append, List.sum_append, List.map_nil, List.sum_nil] at w0 w1 w2 w3 w4 ⊢ <;> omega)), (show ((c32_316 : Nat) : Int) ≤ 5 by have q0 := FF.out uc32_316; omega), (show ((k32_317 : Nat) : Int) ≤ 31 by have q0 := FF.out uk32_317; omega), (show (((FT.pair r32_3 q5_1 q18_1 x T12_310 T26_310).dep : Nat) : Int) ≤ ((x.dep : Nat) : Int) by have q0 := FF.out hp12_318; have q1 := FF.out hp26_318; have q2 := FF.out hk43_2; omega), (show (((FT.pair r32_3 q5_1 q18_1 x T12_310 T26_310).sz : Nat) : Int) ≤ 2 * ((x.sz : Nat) : Int) + 5 by have q0 := FF.out hp12_317; have q1 := FF.out hp26_317; have q2 := FF.out hk43_1; omega), (show (((FT.pair r32_3 q5_1 q18_1 x T12_310 T26_310).c4 : Nat) : Int) ≤ 2 * ((x.c4 : Nat) : Int) by have q0 := FF.out hp12_319; have q1 := FF.out hp26_319; have q2 := FF.out hk43_3; omega)⟩ hP hD hS [] (by decide) rfl (Nat.le_refl _) (Nat.le_refl _) (FF.out mc32_316) (FF.out mk32_317)
set_option maxHeartbeats 2000000 in
theorem c_X16_onWay (l : Launch) (hst : l.stackTraces = false) (D : va_G) (ct : Nat → ClassId) (MC : Nat) (MS : Nat) (v0 : Int32) (x : FT) (y : FT) (ok_x : x.ok) (ok_y : y.ok) (hq0 : 1 ≤ ((MC : Nat) : Int)) (hq1 : 7 ≤ ((MS : Nat) : Int)) : KT (V := Nat) (S := FT × va_W × va_W × Nat × Nat) (SX := Unit) l yX16_onWay cX16_onWay 3 (some (.object "FilterForgeModel$Filter")) 4 64 D ct [.int v0, .ref x.root, .ref y.root] [] MC MS (fun r : Nat => some (.ref r)) (fun (r : Nat) (u : FT × va_W × va_W × Nat × Nat) => match u with | (T, nw, gb, kc, kn) => r = T.root ∧ T.ok ∧ ((x.cells Z0) ++ (y.cells Z0) ++ nw).Perm ((T.cells Z0) ++ gb) ∧ (((kc : Nat) : Int) ≤ 1) ∧ (((kn : Nat) : Int) ≤ 7) ∧ (((T.dep : Nat) : Int) ≤ ((x.dep : Nat) : Int) ∨ ((T.dep : Nat) : Int) ≤ ((y.dep : Nat) : Int)) ∧ (((T.sz : Nat) : Int) ≤ ((x.sz : Nat) : Int) + ((y.sz : Nat) : Int) + 1) ∧ (((T.c4 : Nat) : Int) ≤ ((x.c4 : Nat) : Int) + ((y.c4 : Nat) : Int))) (fun (u : FT × va_W × va_W × Nat × Nat) => match u with | (T, nw, gb, kc, kn) => [] ++ nw) (fun (u : FT × va_W × va_W × Nat × Nat) => match u with | (T, nw, gb, kc, kn) => kc) (fun (u : FT × va_W × va_W × Nat × Nat) => match u with | (T, nw, gb, kc, kn) => kn) 15 RX15 peW (fun _ => False) (fun _ => []) := by
  refine KT_of (by decide) (Nat.le_of_ble_eq_true rfl) (fun p e s m below meth c A Q C0 htab hA H locs hS hP hD hQ ls hl => ?_)
  obtain ⟨hx, hb, hr, hown, hin, hml, hlocks, hn, hK, hZ, hSK⟩ := C0
  have hl : lv_has ls 3 [(0, .int v0), (1, .ref x.root), (2, .ref y.root)] := hl
  have hP : va_P D vwCl ([] ++ (([] : va_W))) H := by rw [List.append_nil]; exact hP
  have hD : va_D A ([] ++ (([] : va_W))) := by rw [List.append_nil]; exact hD
  replace hq0 := FF.mk hq0
  replace hq1 := FF.mk hq1
  refine lv_iload_n hx hb dX16_onWay_0 rfl (lv_at hl 0 rfl) ?_
  refine lv_iconst (v := 1) hx hb dX16_onWay_1 (by decide) ?_
  refine lv_icmp_ne (tgt := 9) hx hb dX16_onWay_2 (by decide) (fun c2_1 => ?_) (fun c2_1 => ?_)
  · have t2_2 := FF.mk (i_ne c2_1)
    refine lv_iload_n hx hb dX16_onWay_9 rfl (lv_at hl 0 rfl) ?_
    refine lv_iconst (v := 2) hx hb dX16_onWay_10 (by decide) ?_
    refine lv_icmp_ne (tgt := 18) hx hb dX16_onWay_11 (by decide) (fun c11_1 => ?_) (fun c11_1 => ?_)
    · have t11_2 := FF.mk (i_ne c11_1)
      refine lv_aload_n hx hb dX16_onWay_18 rfl (lv_at hl 1 rfl) ?_
      refine lv_aload_n hx hb dX16_onWay_19 rfl (lv_at hl 2 rfl) ?_
      obtain ⟨m20_1, gm20_1⟩ : ∃ m9 : Nat, m9 + 0 = MC := ⟨MC - 0, Nat.sub_add_cancel (Nat.zero_le MC)⟩
      have em20_1 := FF.mk gm20_1
      obtain ⟨m20_2, gm20_2⟩ : ∃ m9 : Nat, m9 + 0 = MS := ⟨MS - 0, Nat.sub_add_cancel (Nat.zero_le MS)⟩
      have em20_2 := FF.mk gm20_2
      refine gt_q (pl := (([] : va_W))) (wr := []) [] [] (rt_S (As := [.ref x.root, .ref y.root]) (rest := []) (c_X16_or l hst D ct m20_1 m20_2 x y ok_x ok_y (show 1 ≤ ((m20_1 : Nat) : Int) by have q0 := FF.out hq0; have q1 := FF.out em20_1; omega) (show 7 ≤ ((m20_2 : Nat) : Int) by have q0 := FF.out hq1; have q1 := FF.out em20_2; omega) _) (cb_of (n := 2) hn mw_2163 mw_13 mw_2161 mhX16_or ⟨(Nat.le_of_ble_eq_true rfl), (Nat.le_of_ble_eq_true rfl)⟩) hx hb hml hown hn hK hSK hZ hS mw_2162 rfl hl.1 (Nat.le_of_ble_eq_true rfl) dX16_onWay_20 ⟨(Nat.le_of_eq ((Nat.add_comm _ _).trans gm20_1)), (Nat.le_of_eq ((Nat.add_comm _ _).trans gm20_2))⟩) hP hD hS hA rfl rfl (by decide) (by decide) (by decide) (fun xq20_6 ux20_7 xfs20_8 H locs hpx20_9 hpexfs20_8 hP hD hS => ?_) (fun r20_3 u20_4 H locs hp20_5 hP hD hS => ?_)
      · exact hpx20_9.elim
      obtain ⟨q20_310, kc20_311, kn20_312⟩ := u20_4
      obtain ⟨hp20_313, hp20_314, hp20_315⟩ := hp20_5
      replace hp20_314 : FF (((kc20_311 : Nat) : Int) ≤ 1) := hp20_314
      replace hp20_315 : FF (((kn20_312 : Nat) : Int) ≤ 7) := hp20_315
      obtain ⟨c20_316, ec20_316⟩ : ∃ x9 : Nat, x9 = 0 + kc20_311 := ⟨_, rfl⟩
      have ec20_316 := FF.mk ec20_316
      have uc20_316 : FF (((c20_316 : Nat) : Int) ≤ 1) := FF.mk (show ((c20_316 : Nat) : Int) ≤ 1 by have q0 := FF.out hp20_314; have q1 := FF.out ec20_316; omega)
      have mc20_316 : FF (c20_316 ≤ MC) := FF.mk (Int.ofNat_le.mp (show ((c20_316 : Nat) : Int) ≤ ((MC : Nat) : Int) by have q0 := FF.out hq0; have q1 := FF.out uc20_316; omega))
      obtain ⟨k20_317, ek20_317⟩ : ∃ x9 : Nat, x9 = 0 + kn20_312 := ⟨_, rfl⟩
      have ek20_317 := FF.mk ek20_317
      have uk20_317 : FF (((k20_317 : Nat) : Int) ≤ 7) := FF.mk (show ((k20_317 : Nat) : Int) ≤ 7 by have q0 := FF.out hp20_315; have q1 := FF.out ek20_317; omega)
      have mk20_317 : FF (k20_317 ≤ MS) := FF.mk (Int.ofNat_le.mp (show ((k20_317 : Nat) : Int) ≤ ((MS : Nat) : Int) by have q0 := FF.out hq1; have q1 := FF.out uk20_317; omega))
      subst hp20_313
      have hP : va_P D vwCl (([] ++ [(r20_3, FT.ent (FT.two r20_3 true x y) (Z0 r20_3))]) ++ (([] : va_W))) _ := hP
      have hD : va_D A (([] ++ [(r20_3, FT.ent (FT.two r20_3 true x y) (Z0 r20_3))]) ++ (([] : va_W))) := hD
      have hP := pool_in hP
      have hD := pool_inD hD
      obtain ⟨p20_318, ep20_318⟩ : ∃ p9 : va_W, p9 = (([] : va_W) ++ [(r20_3, FT.ent (FT.two r20_3 true x y) (Z0 r20_3))]) := ⟨_, rfl⟩
      rw [← ep20_318] at hP hD
      have hP : va_P D vwCl ([] ++ (p20_318)) _ := hP
      have hD : va_D A ([] ++ (p20_318)) := hD
      have hk20_319 : FF ((((FT.two r20_3 true x y).sz : Nat) : Int) = ((x.sz : Nat) : Int) + ((y.sz : Nat) : Int) + 1) := (FF.mk (by simp only [ST.sz_leaf, ST.sz_minus, ST.sz_group, ST.sz_acc, ST.sz_two, ST.dep_leaf, ST.dep_minus, ST.dep_group, ST.dep_acc, ST.dep_two, ST.c4_leaf, ST.c4_minus, ST.c4_group, ST.c4_acc, ST.c4_two, FT.sz_test, FT.sz_inv, FT.sz_two, FT.sz_pair, FT.dep_test, FT.dep_inv, FT.dep_two, FT.dep_pair, FT.c4_test, FT.c4_inv, FT.c4_two, FT.c4_pair]; first | omega | (rw [if_neg (by decide)]; omega) | (rw [if_pos (by decide)]; omega) | (split <;> omega) | skip))
      have hk20_320 : FF (((x.dep : Nat) : Int) ≤ (((FT.two r20_3 true x y).dep : Nat) : Int)) := (FF.mk (by simp only [ST.sz_leaf, ST.sz_minus, ST.sz_group, ST.sz_acc, ST.sz_two, ST.dep_leaf, ST.dep_minus, ST.dep_group, ST.dep_acc, ST.dep_two, ST.c4_leaf, ST.c4_minus, ST.c4_group, ST.c4_acc, ST.c4_two, FT.sz_test, FT.sz_inv, FT.sz_two, FT.sz_pair, FT.dep_test, FT.dep_inv, FT.dep_two, FT.dep_pair, FT.c4_test, FT.c4_inv, FT.c4_two, FT.c4_pair]; first | omega | (rw [if_neg (by decide)]; omega) | (rw [if_pos (by decide)]; omega) | (split <;> omega) | skip))
      have hk20_321 : FF (((y.dep : Nat) : Int) ≤ (((FT.two r20_3 true x y).dep : Nat) : Int)) := (FF.mk (by simp only [ST.sz_leaf, ST.sz_minus, ST.sz_group, ST.sz_acc, ST.sz_two, ST.dep_leaf, ST.dep_minus, ST.dep_group, ST.dep_acc, ST.dep_two, ST.c4_leaf, ST.c4_minus, ST.c4_group, ST.c4_acc, ST.c4_two, FT.sz_test, FT.sz_inv, FT.sz_two, FT.sz_pair, FT.dep_test, FT.dep_inv, FT.dep_two, FT.dep_pair, FT.c4_test, FT.c4_inv, FT.c4_two, FT.c4_pair]; first | omega | (rw [if_neg (by decide)]; omega) | (rw [if_pos (by decide)]; omega) | (split <;> omega) | skip))
      have hk20_322 : FF ((((FT.two r20_3 true x y).dep : Nat) : Int) ≤ ((x.dep : Nat) : Int) ∨ (((FT.two r20_3 true x y).dep : Nat) : Int) ≤ ((y.dep : Nat) : Int)) := (FF.mk (by simp only [ST.sz_leaf, ST.sz_minus, ST.sz_group, ST.sz_acc, ST.sz_two, ST.dep_leaf, ST.dep_minus, ST.dep_group, ST.dep_acc, ST.dep_two, ST.c4_leaf, ST.c4_minus, ST.c4_group, ST.c4_acc, ST.c4_two, FT.sz_test, FT.sz_inv, FT.sz_two, FT.sz_pair, FT.dep_test, FT.dep_inv, FT.dep_two, FT.dep_pair, FT.c4_test, FT.c4_inv, FT.c4_two, FT.c4_pair]; first | omega | (rw [if_neg (by decide)]; omega) | (rw [if_pos (by decide)]; omega) | (split <;> omega) | skip))
      have hk20_323 : FF ((((FT.two r20_3 true x y).c4 : Nat) : Int) = ((x.c4 : Nat) : Int) + ((y.c4 : Nat) : Int)) := (FF.mk (by simp only [ST.sz_leaf, ST.sz_minus, ST.sz_group, ST.sz_acc, ST.sz_two, ST.dep_leaf, ST.dep_minus, ST.dep_group, ST.dep_acc, ST.dep_two, ST.c4_leaf, ST.c4_minus, ST.c4_group, ST.c4_acc, ST.c4_two, FT.sz_test, FT.sz_inv, FT.sz_two, FT.sz_pair, FT.dep_test, FT.dep_inv, FT.dep_two, FT.dep_pair, FT.c4_test, FT.c4_inv, FT.c4_two, FT.c4_pair]; first | omega | (rw [if_neg (by decide)]; omega) | (rw [if_pos (by decide)]; omega) | (split <;> omega) | skip))
      have hP : va_P D vwCl ([] ++ (p20_318)) _ := hP
      have hD : va_D A ([] ++ (p20_318)) := hD
      refine W.widen (k := c20_316) (n := k20_317) (Nat.le_of_eq (FF.out ec20_316).symm) (Nat.le_of_eq (FF.out ek20_317).symm) (W.eq (g2 := F0 m 23 ls [.ref r20_3]) rfl ?_)
      exact et_r (SX := Unit) hQ hx hb hr hlocks dX16_onWay_23 ((FT.two r20_3 true x y), (p20_318), ([] : va_W), c20_316, k20_317) ⟨rfl, (FT.ok_two ok_x ok_y), (seg_perm (fun f => by have w0 := seg_sum (List.Perm.of_eq ep20_318) f; simp only [ST.cells_leaf, ST.cells_minus, ST.cells_group, ST.cells_acc, ST.cells_two, FT.cells_two, FT.cells_inv, FT.cells_test, FT.cells_pair, List.map_append, List.sum_append, List.map_nil, List.sum_nil] at w0 ⊢ <;> omega)), (show ((c20_316 : Nat) : Int) ≤ 1 by have q0 := FF.out uc20_316; omega), (show ((k20_317 : Nat) : Int) ≤ 7 by have q0 := FF.out uk20_317; omega), (show (((FT.two r20_3 true x y).dep : Nat) : Int) ≤ ((x.dep : Nat) : Int) ∨ (((FT.two r20_3 true x y).dep : Nat) : Int) ≤ ((y.dep : Nat) : Int) by have q0 := FF.out hk20_322; omega), (show (((FT.two r20_3 true x y).sz : Nat) : Int) ≤ ((x.sz : Nat) : Int) + ((y.sz : Nat) : Int) + 1 by have q0 := FF.out hk20_319; omega), (show (((FT.two r20_3 true x y).c4 : Nat) : Int) ≤ ((x.c4 : Nat) : Int) + ((y.c4 : Nat) : Int) by have q0 := FF.out hk20_323; omega)⟩ hP hD hS [] (by decide) rfl (Nat.le_refl _) (Nat.le_refl _) (FF.out mc20_316) (FF.out mk20_317)
    · have t11_2 := FF.mk (i_eq c11_1)
      have r11_3 : rg v0 2 2 := rg_eqA t11_2 (rg_any v0) (show rg (2 : Int32) 2 2 from rg_l (by decide)) (by decide)
      refine lv_aload_n hx hb dX16_onWay_14 rfl (lv_at hl 2 rfl) ?_
      refine lv_goto (tgt := 23) hx hb dX16_onWay_15 (by decide) ?_
      exact et_r (SX := Unit) hQ hx hb hr hlocks dX16_onWay_23 (y, (([] : va_W)), ((x.cells Z0)), 0, 0) ⟨rfl, ok_y, (seg_perm (fun f => by simp only [ST.cells_leaf, ST.cells_minus, ST.cells_group, ST.cells_acc, ST.cells_two, FT.cells_two, FT.cells_inv, FT.cells_test, FT.cells_pair, List.map_append, List.sum_append, List.map_nil, List.sum_nil] <;> omega)), (show ((0 : Nat) : Int) ≤ 1 by omega), (show ((0 : Nat) : Int) ≤ 7 by omega), (show ((y.dep : Nat) : Int) ≤ ((x.dep : Nat) : Int) ∨ ((y.dep : Nat) : Int) ≤ ((y.dep : Nat) : Int) by omega), (show ((y.sz : Nat) : Int) ≤ ((x.sz : Nat) : Int) + ((y.sz : Nat) : Int) + 1 by omega), (show ((y.c4 : Nat) : Int) ≤ ((x.c4 : Nat) : Int) + ((y.c4 : Nat) : Int) by omega)⟩ hP hD hS [] (by decide) rfl (Nat.le_refl _) (Nat.le_refl _) (Nat.zero_le MC) (Nat.zero_le MS)
  · have t2_2 := FF.mk (i_eq c2_1)
    have r2_3 : rg v0 1 1 := rg_eqA t2_2 (rg_any v0) (show rg (1 : Int32) 1 1 from rg_l (by decide)) (by decide)
    refine lv_aload_n hx hb dX16_onWay_5 rfl (lv_at hl 1 rfl) ?_
    refine lv_goto (tgt := 23) hx hb dX16_onWay_6 (by decide) ?_
    exact et_r (SX := Unit) hQ hx hb hr hlocks dX16_onWay_23 (x, (([] : va_W)), ((y.cells Z0)), 0, 0) ⟨rfl, ok_x, (seg_perm (fun f => by simp only [ST.cells_leaf, ST.cells_minus, ST.cells_group, ST.cells_acc, ST.cells_two, FT.cells_two, FT.cells_inv, FT.cells_test, FT.cells_pair, List.map_append, List.sum_append, List.map_nil, List.sum_nil] <;> omega)), (show ((0 : Nat) : Int) ≤ 1 by omega), (show ((0 : Nat) : Int) ≤ 7 by omega), (show ((x.dep : Nat) : Int) ≤ ((x.dep : Nat) : Int) ∨ ((x.dep : Nat) : Int) ≤ ((y.dep : Nat) : Int) by omega), (show ((x.sz : Nat) : Int) ≤ ((x.sz : Nat) : Int) + ((y.sz : Nat) : Int) + 1 by omega), (show ((x.c4 : Nat) : Int) ≤ ((x.c4 : Nat) : Int) + ((y.c4 : Nat) : Int) by omega)⟩ hP hD hS [] (by decide) rfl (Nat.le_refl _) (Nat.le_refl _) (Nat.zero_le MC) (Nat.zero_le MS)
set_option maxHeartbeats 2000000 in
theorem c_X16_and_e (l : Launch) (hst : l.stackTraces = false) (D : va_G) (ct : Nat → ClassId) (MC : Nat) (MS : Nat) (x : FT) (y : FT) (ok_x : x.ok) (ok_y : y.ok) (hq0 : 1 ≤ ((MC : Nat) : Int)) (hq1 : 7 ≤ ((MS : Nat) : Int)) : KT (V := Nat) (S := FT × va_W × Nat × Nat) (SX := Unit) l yX16_and cX16_and 2 (some (.object "FilterForgeModel$Filter")) 3 43 D ct [.ref x.root, .ref y.root] [] MC MS (fun r : Nat => some (.ref r)) (fun (r : Nat) (u : FT × va_W × Nat × Nat) => match u with | (T, nw, kc, kn) => r = T.root ∧ T.ok ∧ ((x.cells Z0) ++ (y.cells Z0) ++ nw).Perm (T.cells Z0) ∧ (((kc : Nat) : Int) ≤ 1) ∧ (((kn : Nat) : Int) ≤ 7) ∧ (((T.dep : Nat) : Int) ≤ ((x.dep : Nat) : Int) ∨ ((T.dep : Nat) : Int) ≤ ((y.dep : Nat) : Int)) ∧ (((T.sz : Nat) : Int) = ((x.sz : Nat) : Int) + ((y.sz : Nat) : Int) + 1) ∧ (((T.c4 : Nat) : Int) = ((x.c4 : Nat) : Int) + ((y.c4 : Nat) : Int))) (fun (u : FT × va_W × Nat × Nat) => match u with | (T, nw, kc, kn) => [] ++ nw) (fun (u : FT × va_W × Nat × Nat) => match u with | (T, nw, kc, kn) => kc) (fun (u : FT × va_W × Nat × Nat) => match u with | (T, nw, kc, kn) => kn) 15 RX15 peW (fun _ => False) (fun _ => []) := by
  refine KT_of (by decide) (Nat.le_of_ble_eq_true rfl) (fun p e s m below meth c A Q C0 htab hA H locs hS hP hD hQ ls hl => ?_)
  obtain ⟨hx, hb, hr, hown, hin, hml, hlocks, hn, hK, hZ, hSK⟩ := C0
  have hl : lv_has ls 2 [(0, .ref x.root), (1, .ref y.root)] := hl
  have hP : va_P D vwCl ([] ++ (([] : va_W))) H := by rw [List.append_nil]; exact hP
  have hD : va_D A ([] ++ (([] : va_W))) := by rw [List.append_nil]; exact hD
  replace hq0 := FF.mk hq0
  replace hq1 := FF.mk hq1
  obtain ⟨c0_2, ec0_2⟩ : ∃ x9 : Nat, x9 = 0 + 1 := ⟨_, rfl⟩
  have ec0_2 := FF.mk ec0_2
  have uc0_2 : FF (((c0_2 : Nat) : Int) ≤ 1) := FF.mk (show ((c0_2 : Nat) : Int) ≤ 1 by have q0 := FF.out ec0_2; omega)
  have mc0_2 : FF (c0_2 ≤ MC) := FF.mk (Int.ofNat_le.mp (show ((c0_2 : Nat) : Int) ≤ ((MC : Nat) : Int) by have q0 := FF.out hq0; have q1 := FF.out uc0_2; omega))
  obtain ⟨k0_3, ek0_3⟩ : ∃ x9 : Nat, x9 = 0 + 7 := ⟨_, rfl⟩
  have ek0_3 := FF.mk ek0_3
  have uk0_3 : FF (((k0_3 : Nat) : Int) ≤ 7) := FF.mk (show ((k0_3 : Nat) : Int) ≤ 7 by have q0 := FF.out ek0_3; omega)
  have mk0_3 : FF (k0_3 ≤ MS) := FF.mk (Int.ofNat_le.mp (show ((k0_3 : Nat) : Int) ≤ ((MS : Nat) : Int) by have q0 := FF.out hq1; have q1 := FF.out uk0_3; omega))
  refine nw_O (k1 := c0_2) (n1 := k0_3) (ci := 12) hx hb (htX12 hn) (fun _ h => h) tyX12 tyX12_ok hown (hn.get mw_1533 rfl) (hn.get mw_1969 rfl) (hn.get mw_22 rfl) hK hP hD hS hA rfl dfX12 (Nat.le_of_eq (FF.out ec0_2).symm) (Nat.le_of_eq (FF.out ek0_3).symm) (FF.out mc0_2) (FF.out mk0_3) dX16_and_0 (fun q0_1 H hP hD hS => ?_)
  have hP : va_P D vwCl ([(q0_1, .inr (12, [.int 0, .null, .null, .null, .null, .int 0, .int 0]))] ++ (([] : va_W))) _ := hP
  have hD : va_D A ([(q0_1, .inr (12, [.int 0, .null, .null, .null, .null, .int 0, .int 0]))] ++ (([] : va_W))) := hD
  refine lv_dup hx hb dX16_and_3 rfl ?_
  refine lv_iconst (v := 1) hx hb dX16_and_4 (by decide) ?_
  refine lv_aload_n hx hb dX16_and_5 rfl (lv_at hl 0 rfl) ?_
  refine lv_aload_n hx hb dX16_and_6 rfl (lv_at hl 1 rfl) ?_
  refine gq_v (k1 := c0_2) (n1 := k0_3) (wr := []) [0] [] (rn_I (As := [.int 1, .ref x.root, .ref y.root]) (rest := [.ref q0_1]) (c_X12_init_rr l D ct q0_1 (1 : Int32) x.root y.root  _) (cb_of (n := 3) hn mw_1972 mw_22 mw_1970 mhX12_init ⟨(Nat.le_of_ble_eq_true rfl), (Nat.le_of_ble_eq_true rfl)⟩) hx hb hml hown hn hK hSK hZ hS mw_1971 rfl rfl hl.1 (Nat.le_of_ble_eq_true rfl) dX16_and_7 ⟨(FF.out mc0_2), (FF.out mk0_3)⟩) hP hD hS hA rfl rfl (by decide) (by decide) (by decide) (Nat.le_refl _) (Nat.le_refl _) (fun u7_2 H locs hp7_3 hP hD hS => ?_)
  have hP : va_P D vwCl ([(q0_1, .inr (12, [.int 1, .ref x.root, .ref y.root, .null, .null, .int 0, .int 0]))] ++ (([] : va_W))) _ := hP
  have hD : va_D A ([(q0_1, .inr (12, [.int 1, .ref x.root, .ref y.root, .null, .null, .int 0, .int 0]))] ++ (([] : va_W))) := hD
  have hP : va_P D vwCl (([] ++ [(q0_1, FT.ent (FT.two q0_1 false x y) (Z0 q0_1))]) ++ (([] : va_W))) _ := hP
  have hD : va_D A (([] ++ [(q0_1, FT.ent (FT.two q0_1 false x y) (Z0 q0_1))]) ++ (([] : va_W))) := hD
  have hP := pool_in hP
  have hD := pool_inD hD
  obtain ⟨p7_4, ep7_4⟩ : ∃ p9 : va_W, p9 = (([] : va_W) ++ [(q0_1, FT.ent (FT.two q0_1 false x y) (Z0 q0_1))]) := ⟨_, rfl⟩
  rw [← ep7_4] at hP hD
  have hP : va_P D vwCl ([] ++ (p7_4)) _ := hP
  have hD : va_D A ([] ++ (p7_4)) := hD
  have hk7_5 : FF ((((FT.two q0_1 false x y).sz : Nat) : Int) = ((x.sz : Nat) : Int) + ((y.sz : Nat) : Int) + 1) := (FF.mk (by simp only [ST.sz_leaf, ST.sz_minus, ST.sz_group, ST.sz_acc, ST.sz_two, ST.dep_leaf, ST.dep_minus, ST.dep_group, ST.dep_acc, ST.dep_two, ST.c4_leaf, ST.c4_minus, ST.c4_group, ST.c4_acc, ST.c4_two, FT.sz_test, FT.sz_inv, FT.sz_two, FT.sz_pair, FT.dep_test, FT.dep_inv, FT.dep_two, FT.dep_pair, FT.c4_test, FT.c4_inv, FT.c4_two, FT.c4_pair]; first | omega | (rw [if_neg (by decide)]; omega) | (rw [if_pos (by decide)]; omega) | (split <;> omega) | skip))
  have hk7_6 : FF (((x.dep : Nat) : Int) ≤ (((FT.two q0_1 false x y).dep : Nat) : Int)) := (FF.mk (by simp only [ST.sz_leaf, ST.sz_minus, ST.sz_group, ST.sz_acc, ST.sz_two, ST.dep_leaf, ST.dep_minus, ST.dep_group, ST.dep_acc, ST.dep_two, ST.c4_leaf, ST.c4_minus, ST.c4_group, ST.c4_acc, ST.c4_two, FT.sz_test, FT.sz_inv, FT.sz_two, FT.sz_pair, FT.dep_test, FT.dep_inv, FT.dep_two, FT.dep_pair, FT.c4_test, FT.c4_inv, FT.c4_two, FT.c4_pair]; first | omega | (rw [if_neg (by decide)]; omega) | (rw [if_pos (by decide)]; omega) | (split <;> omega) | skip))
  have hk7_7 : FF (((y.dep : Nat) : Int) ≤ (((FT.two q0_1 false x y).dep : Nat) : Int)) := (FF.mk (by simp only [ST.sz_leaf, ST.sz_minus, ST.sz_group, ST.sz_acc, ST.sz_two, ST.dep_leaf, ST.dep_minus, ST.dep_group, ST.dep_acc, ST.dep_two, ST.c4_leaf, ST.c4_minus, ST.c4_group, ST.c4_acc, ST.c4_two, FT.sz_test, FT.sz_inv, FT.sz_two, FT.sz_pair, FT.dep_test, FT.dep_inv, FT.dep_two, FT.dep_pair, FT.c4_test, FT.c4_inv, FT.c4_two, FT.c4_pair]; first | omega | (rw [if_neg (by decide)]; omega) | (rw [if_pos (by decide)]; omega) | (split <;> omega) | skip))
  have hk7_8 : FF ((((FT.two q0_1 false x y).dep : Nat) : Int) ≤ ((x.dep : Nat) : Int) ∨ (((FT.two q0_1 false x y).dep : Nat) : Int) ≤ ((y.dep : Nat) : Int)) := (FF.mk (by simp only [ST.sz_leaf, ST.sz_minus, ST.sz_group, ST.sz_acc, ST.sz_two, ST.dep_leaf, ST.dep_minus, ST.dep_group, ST.dep_acc, ST.dep_two, ST.c4_leaf, ST.c4_minus, ST.c4_group, ST.c4_acc, ST.c4_two, FT.sz_test, FT.sz_inv, FT.sz_two, FT.sz_pair, FT.dep_test, FT.dep_inv, FT.dep_two, FT.dep_pair, FT.c4_test, FT.c4_inv, FT.c4_two, FT.c4_pair]; first | omega | (rw [if_neg (by decide)]; omega) | (rw [if_pos (by decide)]; omega) | (split <;> omega) | skip))
  have hk7_9 : FF ((((FT.two q0_1 false x y).c4 : Nat) : Int) = ((x.c4 : Nat) : Int) + ((y.c4 : Nat) : Int)) := (FF.mk (by simp only [ST.sz_leaf, ST.sz_minus, ST.sz_group, ST.sz_acc, ST.sz_two, ST.dep_leaf, ST.dep_minus, ST.dep_group, ST.dep_acc, ST.dep_two, ST.c4_leaf, ST.c4_minus, ST.c4_group, ST.c4_acc, ST.c4_two, FT.sz_test, FT.sz_inv, FT.sz_two, FT.sz_pair, FT.dep_test, FT.dep_inv, FT.dep_two, FT.dep_pair, FT.c4_test, FT.c4_inv, FT.c4_two, FT.c4_pair]; first | omega | (rw [if_neg (by decide)]; omega) | (rw [if_pos (by decide)]; omega) | (split <;> omega) | skip))
  exact et_r (SX := Unit) hQ hx hb hr hlocks dX16_and_10 ((FT.two q0_1 false x y), (p7_4), c0_2, k0_3) ⟨rfl, (FT.ok_two ok_x ok_y), (seg_perm (fun f => by have w0 := seg_sum (List.Perm.of_eq ep7_4) f; simp only [ST.cells_leaf, ST.cells_minus, ST.cells_group, ST.cells_acc, ST.cells_two, FT.cells_two, FT.cells_inv, FT.cells_test, FT.cells_pair, List.map_append, List.sum_append, List.map_nil, List.sum_nil] at w0 ⊢ <;> omega)), (show ((c0_2 : Nat) : Int) ≤ 1 by have q0 := FF.out uc0_2; omega), (show ((k0_3 : Nat) : Int) ≤ 7 by have q0 := FF.out uk0_3; omega), (show (((FT.two q0_1 false x y).dep : Nat) : Int) ≤ ((x.dep : Nat) : Int) ∨ (((FT.two q0_1 false x y).dep : Nat) : Int) ≤ ((y.dep : Nat) : Int) by have q0 := FF.out hk7_8; omega), (show (((FT.two q0_1 false x y).sz : Nat) : Int) = ((x.sz : Nat) : Int) + ((y.sz : Nat) : Int) + 1 by have q0 := FF.out hk7_5; omega), (show (((FT.two q0_1 false x y).c4 : Nat) : Int) = ((x.c4 : Nat) : Int) + ((y.c4 : Nat) : Int) by have q0 := FF.out hk7_9; omega)⟩ hP hD hS [] (by decide) rfl (Nat.le_refl _) (Nat.le_refl _) (FF.out mc0_2) (FF.out mk0_3)
set_option maxHeartbeats 2000000 in
theorem c_X16_or_e (l : Launch) (hst : l.stackTraces = false) (D : va_G) (ct : Nat → ClassId) (MC : Nat) (MS : Nat) (x : FT) (y : FT) (ok_x : x.ok) (ok_y : y.ok) (hq0 : 1 ≤ ((MC : Nat) : Int)) (hq1 : 7 ≤ ((MS : Nat) : Int)) : KT (V := Nat) (S := FT × va_W × Nat × Nat) (SX := Unit) l yX16_or cX16_or 2 (some (.object "FilterForgeModel$Filter")) 3 43 D ct [.ref x.root, .ref y.root] [] MC MS (fun r : Nat => some (.ref r)) (fun (r : Nat) (u : FT × va_W × Nat × Nat) => match u with | (T, nw, kc, kn) => r = T.root ∧ T.ok ∧ ((x.cells Z0) ++ (y.cells Z0) ++ nw).Perm (T.cells Z0) ∧ (((kc : Nat) : Int) ≤ 1) ∧ (((kn : Nat) : Int) ≤ 7) ∧ (((T.dep : Nat) : Int) ≤ ((x.dep : Nat) : Int) ∨ ((T.dep : Nat) : Int) ≤ ((y.dep : Nat) : Int)) ∧ (((T.sz : Nat) : Int) = ((x.sz : Nat) : Int) + ((y.sz : Nat) : Int) + 1) ∧ (((T.c4 : Nat) : Int) = ((x.c4 : Nat) : Int) + ((y.c4 : Nat) : Int))) (fun (u : FT × va_W × Nat × Nat) => match u with | (T, nw, kc, kn) => [] ++ nw) (fun (u : FT × va_W × Nat × Nat) => match u with | (T, nw, kc, kn) => kc) (fun (u : FT × va_W × Nat × Nat) => match u with | (T, nw, kc, kn) => kn) 15 RX15 peW (fun _ => False) (fun _ => []) := by
  refine KT_of (by decide) (Nat.le_of_ble_eq_true rfl) (fun p e s m below meth c A Q C0 htab hA H locs hS hP hD hQ ls hl => ?_)
  obtain ⟨hx, hb, hr, hown, hin, hml, hlocks, hn, hK, hZ, hSK⟩ := C0
  have hl : lv_has ls 2 [(0, .ref x.root), (1, .ref y.root)] := hl
  have hP : va_P D vwCl ([] ++ (([] : va_W))) H := by rw [List.append_nil]; exact hP
  have hD : va_D A ([] ++ (([] : va_W))) := by rw [List.append_nil]; exact hD
  replace hq0 := FF.mk hq0
  replace hq1 := FF.mk hq1
  obtain ⟨c0_2, ec0_2⟩ : ∃ x9 : Nat, x9 = 0 + 1 := ⟨_, rfl⟩
  have ec0_2 := FF.mk ec0_2
  have uc0_2 : FF (((c0_2 : Nat) : Int) ≤ 1) := FF.mk (show ((c0_2 : Nat) : Int) ≤ 1 by have q0 := FF.out ec0_2; omega)
  have mc0_2 : FF (c0_2 ≤ MC) := FF.mk (Int.ofNat_le.mp (show ((c0_2 : Nat) : Int) ≤ ((MC : Nat) : Int) by have q0 := FF.out hq0; have q1 := FF.out uc0_2; omega))
  obtain ⟨k0_3, ek0_3⟩ : ∃ x9 : Nat, x9 = 0 + 7 := ⟨_, rfl⟩
  have ek0_3 := FF.mk ek0_3
  have uk0_3 : FF (((k0_3 : Nat) : Int) ≤ 7) := FF.mk (show ((k0_3 : Nat) : Int) ≤ 7 by have q0 := FF.out ek0_3; omega)
  have mk0_3 : FF (k0_3 ≤ MS) := FF.mk (Int.ofNat_le.mp (show ((k0_3 : Nat) : Int) ≤ ((MS : Nat) : Int) by have q0 := FF.out hq1; have q1 := FF.out uk0_3; omega))
  refine nw_O (k1 := c0_2) (n1 := k0_3) (ci := 12) hx hb (htX12 hn) (fun _ h => h) tyX12 tyX12_ok hown (hn.get mw_1533 rfl) (hn.get mw_1969 rfl) (hn.get mw_22 rfl) hK hP hD hS hA rfl dfX12 (Nat.le_of_eq (FF.out ec0_2).symm) (Nat.le_of_eq (FF.out ek0_3).symm) (FF.out mc0_2) (FF.out mk0_3) dX16_or_0 (fun q0_1 H hP hD hS => ?_)
  have hP : va_P D vwCl ([(q0_1, .inr (12, [.int 0, .null, .null, .null, .null, .int 0, .int 0]))] ++ (([] : va_W))) _ := hP
  have hD : va_D A ([(q0_1, .inr (12, [.int 0, .null, .null, .null, .null, .int 0, .int 0]))] ++ (([] : va_W))) := hD
  refine lv_dup hx hb dX16_or_3 rfl ?_
  refine lv_iconst (v := 2) hx hb dX16_or_4 (by decide) ?_
  refine lv_aload_n hx hb dX16_or_5 rfl (lv_at hl 0 rfl) ?_
  refine lv_aload_n hx hb dX16_or_6 rfl (lv_at hl 1 rfl) ?_
  refine gq_v (k1 := c0_2) (n1 := k0_3) (wr := []) [0] [] (rn_I (As := [.int 2, .ref x.root, .ref y.root]) (rest := [.ref q0_1]) (c_X12_init_rr l D ct q0_1 (2 : Int32) x.root y.root  _) (cb_of (n := 3) hn mw_1972 mw_22 mw_1970 mhX12_init ⟨(Nat.le_of_ble_eq_true rfl), (Nat.le_of_ble_eq_true rfl)⟩) hx hb hml hown hn hK hSK hZ hS mw_1971 rfl rfl hl.1 (Nat.le_of_ble_eq_true rfl) dX16_or_7 ⟨(FF.out mc0_2), (FF.out mk0_3)⟩) hP hD hS hA rfl rfl (by decide) (by decide) (by decide) (Nat.le_refl _) (Nat.le_refl _) (fun u7_2 H locs hp7_3 hP hD hS => ?_)
  have hP : va_P D vwCl ([(q0_1, .inr (12, [.int 2, .ref x.root, .ref y.root, .null, .null, .int 0, .int 0]))] ++ (([] : va_W))) _ := hP
  have hD : va_D A ([(q0_1, .inr (12, [.int 2, .ref x.root, .ref y.root, .null, .null, .int 0, .int 0]))] ++ (([] : va_W))) := hD
  have hP : va_P D vwCl (([] ++ [(q0_1, FT.ent (FT.two q0_1 true x y) (Z0 q0_1))]) ++ (([] : va_W))) _ := hP
  have hD : va_D A (([] ++ [(q0_1, FT.ent (FT.two q0_1 true x y) (Z0 q0_1))]) ++ (([] : va_W))) := hD
  have hP := pool_in hP
  have hD := pool_inD hD
  obtain ⟨p7_4, ep7_4⟩ : ∃ p9 : va_W, p9 = (([] : va_W) ++ [(q0_1, FT.ent (FT.two q0_1 true x y) (Z0 q0_1))]) := ⟨_, rfl⟩
  rw [← ep7_4] at hP hD
  have hP : va_P D vwCl ([] ++ (p7_4)) _ := hP
  have hD : va_D A ([] ++ (p7_4)) := hD
  have hk7_5 : FF ((((FT.two q0_1 true x y).sz : Nat) : Int) = ((x.sz : Nat) : Int) + ((y.sz : Nat) : Int) + 1) := (FF.mk (by simp only [ST.sz_leaf, ST.sz_minus, ST.sz_group, ST.sz_acc, ST.sz_two, ST.dep_leaf, ST.dep_minus, ST.dep_group, ST.dep_acc, ST.dep_two, ST.c4_leaf, ST.c4_minus, ST.c4_group, ST.c4_acc, ST.c4_two, FT.sz_test, FT.sz_inv, FT.sz_two, FT.sz_pair, FT.dep_test, FT.dep_inv, FT.dep_two, FT.dep_pair, FT.c4_test, FT.c4_inv, FT.c4_two, FT.c4_pair]; first | omega | (rw [if_neg (by decide)]; omega) | (rw [if_pos (by decide)]; omega) | (split <;> omega) | skip))
  have hk7_6 : FF (((x.dep : Nat) : Int) ≤ (((FT.two q0_1 true x y).dep : Nat) : Int)) := (FF.mk (by simp only [ST.sz_leaf, ST.sz_minus, ST.sz_group, ST.sz_acc, ST.sz_two, ST.dep_leaf, ST.dep_minus, ST.dep_group, ST.dep_acc, ST.dep_two, ST.c4_leaf, ST.c4_minus, ST.c4_group, ST.c4_acc, ST.c4_two, FT.sz_test, FT.sz_inv, FT.sz_two, FT.sz_pair, FT.dep_test, FT.dep_inv, FT.dep_two, FT.dep_pair, FT.c4_test, FT.c4_inv, FT.c4_two, FT.c4_pair]; first | omega | (rw [if_neg (by decide)]; omega) | (rw [if_pos (by decide)]; omega) | (split <;> omega) | skip))
  have hk7_7 : FF (((y.dep : Nat) : Int) ≤ (((FT.two q0_1 true x y).dep : Nat) : Int)) := (FF.mk (by simp only [ST.sz_leaf, ST.sz_minus, ST.sz_group, ST.sz_acc, ST.sz_two, ST.dep_leaf, ST.dep_minus, ST.dep_group, ST.dep_acc, ST.dep_two, ST.c4_leaf, ST.c4_minus, ST.c4_group, ST.c4_acc, ST.c4_two, FT.sz_test, FT.sz_inv, FT.sz_two, FT.sz_pair, FT.dep_test, FT.dep_inv, FT.dep_two, FT.dep_pair, FT.c4_test, FT.c4_inv, FT.c4_two, FT.c4_pair]; first | omega | (rw [if_neg (by decide)]; omega) | (rw [if_pos (by decide)]; omega) | (split <;> omega) | skip))
  have hk7_8 : FF ((((FT.two q0_1 true x y).dep : Nat) : Int) ≤ ((x.dep : Nat) : Int) ∨ (((FT.two q0_1 true x y).dep : Nat) : Int) ≤ ((y.dep : Nat) : Int)) := (FF.mk (by simp only [ST.sz_leaf, ST.sz_minus, ST.sz_group, ST.sz_acc, ST.sz_two, ST.dep_leaf, ST.dep_minus, ST.dep_group, ST.dep_acc, ST.dep_two, ST.c4_leaf, ST.c4_minus, ST.c4_group, ST.c4_acc, ST.c4_two, FT.sz_test, FT.sz_inv, FT.sz_two, FT.sz_pair, FT.dep_test, FT.dep_inv, FT.dep_two, FT.dep_pair, FT.c4_test, FT.c4_inv, FT.c4_two, FT.c4_pair]; first | omega | (rw [if_neg (by decide)]; omega) | (rw [if_pos (by decide)]; omega) | (split <;> omega) | skip))
  have hk7_9 : FF ((((FT.two q0_1 true x y).c4 : Nat) : Int) = ((x.c4 : Nat) : Int) + ((y.c4 : Nat) : Int)) := (FF.mk (by simp only [ST.sz_leaf, ST.sz_minus, ST.sz_group, ST.sz_acc, ST.sz_two, ST.dep_leaf, ST.dep_minus, ST.dep_group, ST.dep_acc, ST.dep_two, ST.c4_leaf, ST.c4_minus, ST.c4_group, ST.c4_acc, ST.c4_two, FT.sz_test, FT.sz_inv, FT.sz_two, FT.sz_pair, FT.dep_test, FT.dep_inv, FT.dep_two, FT.dep_pair, FT.c4_test, FT.c4_inv, FT.c4_two, FT.c4_pair]; first | omega | (rw [if_neg (by decide)]; omega) | (rw [if_pos (by decide)]; omega) | (split <;> omega) | skip))
  exact et_r (SX := Unit) hQ hx hb hr hlocks dX16_or_10 ((FT.two q0_1 true x y), (p7_4), c0_2, k0_3) ⟨rfl, (FT.ok_two ok_x ok_y), (seg_perm (fun f => by have w0 := seg_sum (List.Perm.of_eq ep7_4) f; simp only [ST.cells_leaf, ST.cells_minus, ST.cells_group, ST.cells_acc, ST.cells_two, FT.cells_two, FT.cells_inv, FT.cells_test, FT.cells_pair, List.map_append, List.sum_append, List.map_nil, List.sum_nil] at w0 ⊢ <;> omega)), (show ((c0_2 : Nat) : Int) ≤ 1 by have q0 := FF.out uc0_2; omega), (show ((k0_3 : Nat) : Int) ≤ 7 by have q0 := FF.out uk0_3; omega), (show (((FT.two q0_1 true x y).dep : Nat) : Int) ≤ ((x.dep : Nat) : Int) ∨ (((FT.two q0_1 true x y).dep : Nat) : Int) ≤ ((y.dep : Nat) : Int) by have q0 := FF.out hk7_8; omega), (show (((FT.two q0_1 true x y).sz : Nat) : Int) = ((x.sz : Nat) : Int) + ((y.sz : Nat) : Int) + 1 by have q0 := FF.out hk7_5; omega), (show (((FT.two q0_1 true x y).c4 : Nat) : Int) = ((x.c4 : Nat) : Int) + ((y.c4 : Nat) : Int) by have q0 := FF.out hk7_9; omega)⟩ hP hD hS [] (by decide) rfl (Nat.le_refl _) (Nat.le_refl _) (FF.out mc0_2) (FF.out mk0_3)
set_option maxHeartbeats 2000000 in
theorem c_X16_hosts (l : Launch) (hst : l.stackTraces = false) (D : va_G) (ct : Nat → ClassId) (MC : Nat) (MS : Nat) (v0 : Int32) (v1 : Int64) (v2 : Int64) (v3 : Int32) (h_v3 : rg v3 0 1) (hq0 : 18 ≤ ((MC : Nat) : Int)) (hq1 : 104 ≤ ((MS : Nat) : Int)) : KT (V := Nat) (S := FT × Nat × Nat) (SX := Unit) l yX16_hosts cX16_hosts 8 (some (.object "FilterForgeModel$Filter")) 6 114 D ct [.int v0, .long v1, .long v2, .int v3] [] MC MS (fun r : Nat => some (.ref r)) (fun (r : Nat) (u : FT × Nat × Nat) => match u with | (T, kc, kn) => r = T.root ∧ T.ok ∧ (((kc : Nat) : Int) ≤ 18) ∧ (((kn : Nat) : Int) ≤ 104) ∧ (((T.sz : Nat) : Int) ≤ 18) ∧ (((T.dep : Nat) : Int) ≤ 1) ∧ (((T.c4 : Nat) : Int) ≤ 2)) (fun (u : FT × Nat × Nat) => match u with | (T, kc, kn) => [] ++ (T.cells Z0)) (fun (u : FT × Nat × Nat) => match u with | (T, kc, kn) => kc) (fun (u : FT × Nat × Nat) => match u with | (T, kc, kn) => kn) 15 RX15 peW (fun _ => False) (fun _ => []) := by
  refine KT_of (by decide) (Nat.le_of_ble_eq_true rfl) (fun p e s m below meth c A Q C0 htab hA H locs hS hP hD hQ ls hl => ?_)
  obtain ⟨hx, hb, hr, hown, hin, hml, hlocks, hn, hK, hZ, hSK⟩ := C0
  have hl : lv_has ls 8 [(0, .int v0), (1, .long v1), (3, .long v2), (5, .int v3)] := hl
  have hP : va_P D vwCl ([] ++ (([] : va_W))) H := by rw [List.append_nil]; exact hP
  have hD : va_D A ([] ++ (([] : va_W))) := by rw [List.append_nil]; exact hD
  replace hq0 := FF.mk hq0
  replace hq1 := FF.mk hq1
  refine lv_ldc2 (v := 26) hx hb hown (hn.get mw_2185 rfl) dX16_hosts_0 ?_
  refine lv_iconst (v := 4) hx hb dX16_hosts_3 (by decide) ?_
  obtain ⟨m4_1, gm4_1⟩ : ∃ m9 : Nat, m9 + 0 = MC := ⟨MC - 0, Nat.sub_add_cancel (Nat.zero_le MC)⟩
  have em4_1 := FF.mk gm4_1
  obtain ⟨m4_2, gm4_2⟩ : ∃ m9 : Nat, m9 + 0 = MS := ⟨MS - 0, Nat.sub_add_cancel (Nat.zero_le MS)⟩
  have em4_2 := FF.mk gm4_2
  refine gt_q (pl := (([] : va_W))) (wr := []) [] [] (rt_S (As := [.long 26, .int 4]) (rest := []) (c_X16_read l hst D ct m4_1 m4_2 (26 : Int64) (4 : Int32) (rg_w (show rg (4 : Int32) 4 4 from rg_l (by decide)) (by decide)) (show 2 ≤ ((m4_1 : Nat) : Int) by have q0 := FF.out hq0; have q1 := FF.out em4_1; omega) (show 10 ≤ ((m4_2 : Nat) : Int) by have q0 := FF.out hq1; have q1 := FF.out em4_2; omega) _) (cb_of (n := 2) hn mw_2136 mw_13 mw_2134 mhX16_read ⟨(Nat.le_of_ble_eq_true rfl), (Nat.le_of_ble_eq_true rfl)⟩) hx hb hml hown hn hK hSK hZ hS mw_2135 rfl hl.1 (Nat.le_of_ble_eq_true rfl) dX16_hosts_4 ⟨(Nat.le_of_eq ((Nat.add_comm _ _).trans gm4_1)), (Nat.le_of_eq ((Nat.add_comm _ _).trans gm4_2))⟩) hP hD hS hA rfl rfl (by decide) (by decide) (by decide) (fun xq4_6 ux4_7 xfs4_8 H locs hpx4_9 hpexfs4_8 hP hD hS => ?_) (fun r4_3 u4_4 H locs hp4_5 hP hD hS => ?_)
  · exact hpx4_9.elim
  obtain ⟨T4_310, kc4_311, kn4_312⟩ := u4_4
  obtain ⟨hp4_313, hp4_314, hp4_315, hp4_316, hp4_317, hp4_318, hp4_319, hp4_320⟩ := hp4_5
  subst hp4_313
  replace hp4_315 : FF (((kc4_311 : Nat) : Int) ≤ 2) := hp4_315
  replace hp4_316 : FF (((kn4_312 : Nat) : Int) ≤ 10) := hp4_316
  replace hp4_317 : FF (((T4_310.sz : Nat) : Int) ≤ 2) := hp4_317
  replace hp4_318 : FF (((T4_310.dep : Nat) : Int) ≤ 1) := hp4_318
  replace hp4_319 : FF (((T4_310.c4 : Nat) : Int) ≤ 1) := hp4_319
  replace hp4_320 : FF ((4 : Int32).toInt = 4 ∨ ((T4_310.c4 : Nat) : Int) ≤ 0) := hp4_320
  obtain ⟨c4_321, ec4_321⟩ : ∃ x9 : Nat, x9 = 0 + kc4_311 := ⟨_, rfl⟩
  have ec4_321 := FF.mk ec4_321
  have uc4_321 : FF (((c4_321 : Nat) : Int) ≤ 2) := FF.mk (show ((c4_321 : Nat) : Int) ≤ 2 by have q0 := FF.out hp4_315; have q1 := FF.out ec4_321; omega)
  have mc4_321 : FF (c4_321 ≤ MC) := FF.mk (Int.ofNat_le.mp (show ((c4_321 : Nat) : Int) ≤ ((MC : Nat) : Int) by have q0 := FF.out hq0; have q1 := FF.out uc4_321; omega))
  obtain ⟨k4_322, ek4_322⟩ : ∃ x9 : Nat, x9 = 0 + kn4_312 := ⟨_, rfl⟩
  have ek4_322 := FF.mk ek4_322
  have uk4_322 : FF (((k4_322 : Nat) : Int) ≤ 10) := FF.mk (show ((k4_322 : Nat) : Int) ≤ 10 by have q0 := FF.out hp4_316; have q1 := FF.out ek4_322; omega)
  have mk4_322 : FF (k4_322 ≤ MS) := FF.mk (Int.ofNat_le.mp (show ((k4_322 : Nat) : Int) ≤ ((MS : Nat) : Int) by have q0 := FF.out hq1; have q1 := FF.out uk4_322; omega))
  have hP : va_P D vwCl (([] ++ (T4_310.cells)) ++ (([] : va_W))) _ := hP
  have hD : va_D A (([] ++ (T4_310.cells)) ++ (([] : va_W))) := hD
  have hP := pool_in hP
  have hD := pool_inD hD
  obtain ⟨p4_323, ep4_323⟩ : ∃ p9 : va_W, p9 = (([] : va_W) ++ (T4_310.cells)) := ⟨_, rfl⟩
  rw [← ep4_323] at hP hD
  have hk4_324 : FF (0 ≤ ((T4_310.sz : Nat) : Int)) := Int.natCast_nonneg _
  have hk4_325 : FF (0 ≤ ((T4_310.dep : Nat) : Int)) := Int.natCast_nonneg _
  have hk4_326 : FF (0 ≤ ((T4_310.c4 : Nat) : Int)) := Int.natCast_nonneg _
  have hP : va_P D vwCl ([] ++ (p4_323)) _ := hP
  have hD : va_D A ([] ++ (p4_323)) := hD
  refine W.widen (k := c4_321) (n := k4_322) (Nat.le_of_eq (FF.out ec4_321).symm) (Nat.le_of_eq (FF.out ek4_322).symm) (W.eq (g2 := F0 m 7 ls [.ref T4_310.root]) rfl ?_)
  refine lv_lload_n hx hb dX16_hosts_7 rfl (lv_at hl 1 rfl) ?_
  refine lv_lload_n hx hb dX16_hosts_8 rfl (lv_at hl 2 rfl) ?_
  refine lv_iload hx hb dX16_hosts_9 (lv_at hl 3 rfl) ?_
  obtain ⟨m11_1, gm11_1⟩ : ∃ m9 : Nat, m9 + c4_321 = MC := ⟨MC - c4_321, Nat.sub_add_cancel (FF.out mc4_321)⟩
  have em11_1 := FF.mk gm11_1
  obtain ⟨m11_2, gm11_2⟩ : ∃ m9 : Nat, m9 + k4_322 = MS := ⟨MS - k4_322, Nat.sub_add_cancel (FF.out mk4_322)⟩
  have em11_2 := FF.mk gm11_2
  refine gt_q (pl := (p4_323)) (wr := []) [] [] (rt_S (As := [.ref T4_310.root, .long v1, .long v2, .int v3]) (rest := []) (c_X16_host l hst D ct m11_1 m11_2 T4_310 v1 v2 v3 hp4_314 h_v3 (show 4 ≤ ((m11_1 : Nat) : Int) by have q0 := FF.out hq0; have q1 := FF.out uc4_321; have q2 := FF.out em11_1; omega) (show 24 ≤ ((m11_2 : Nat) : Int) by have q0 := FF.out hq1; have q1 := FF.out uk4_322; have q2 := FF.out em11_2; omega) _) (cb_of (n := 4) hn mw_2188 mw_13 mw_2186 mhX16_host ⟨(Nat.le_of_ble_eq_true rfl), (Nat.le_of_ble_eq_true rfl)⟩) hx hb hml hown hn hK hSK hZ hS mw_2187 rfl hl.1 (Nat.le_of_ble_eq_true rfl) dX16_hosts_11 ⟨(Nat.le_of_eq ((Nat.add_comm _ _).trans gm11_1)), (Nat.le_of_eq ((Nat.add_comm _ _).trans gm11_2))⟩) hP hD hS hA rfl rfl (by decide) (by decide) (by decide) (fun xq11_6 ux11_7 xfs11_8 H locs hpx11_9 hpexfs11_8 hP hD hS => ?_) (fun r11_3 u11_4 H locs hp11_5 hP hD hS => ?_)
  · exact hpx11_9.elim
  obtain ⟨T11_310, nw11_311, kc11_312, kn11_313⟩ := u11_4
  obtain ⟨hp11_314, hp11_315, hp11_316, hp11_317, hp11_318, hp11_319, hp11_320, hp11_321⟩ := hp11_5
  subst hp11_314
  replace hp11_317 : FF (((kc11_312 : Nat) : Int) ≤ 4) := hp11_317
  replace hp11_318 : FF (((kn11_313 : Nat) : Int) ≤ 24) := hp11_318
  replace hp11_319 : FF (((T11_310.dep : Nat) : Int) ≤ ((T4_310.dep : Nat) : Int) ∨ ((T11_310.dep : Nat) : Int) ≤ 1) := hp11_319
  replace hp11_320 : FF (((T11_310.sz : Nat) : Int) ≤ ((T4_310.sz : Nat) : Int) + 4) := hp11_320
  replace hp11_321 : FF (((T11_310.c4 : Nat) : Int) ≤ ((T4_310.c4 : Nat) : Int)) := hp11_321
  obtain ⟨c11_322, ec11_322⟩ : ∃ x9 : Nat, x9 = c4_321 + kc11_312 := ⟨_, rfl⟩
  have ec11_322 := FF.mk ec11_322
  have uc11_322 : FF (((c11_322 : Nat) : Int) ≤ 6) := FF.mk (show ((c11_322 : Nat) : Int) ≤ 6 by have q0 := FF.out uc4_321; have q1 := FF.out hp11_317; have q2 := FF.out ec11_322; omega)
  have mc11_322 : FF (c11_322 ≤ MC) := FF.mk (Int.ofNat_le.mp (show ((c11_322 : Nat) : Int) ≤ ((MC : Nat) : Int) by have q0 := FF.out hq0; have q1 := FF.out uc11_322; omega))
  obtain ⟨k11_323, ek11_323⟩ : ∃ x9 : Nat, x9 = k4_322 + kn11_313 := ⟨_, rfl⟩
  have ek11_323 := FF.mk ek11_323
  have uk11_323 : FF (((k11_323 : Nat) : Int) ≤ 34) := FF.mk (show ((k11_323 : Nat) : Int) ≤ 34 by have q0 := FF.out uk4_322; have q1 := FF.out hp11_318; have q2 := FF.out ek11_323; omega)
  have mk11_323 : FF (k11_323 ≤ MS) := FF.mk (Int.ofNat_le.mp (show ((k11_323 : Nat) : Int) ≤ ((MS : Nat) : Int) by have q0 := FF.out hq1; have q1 := FF.out uk11_323; omega))
  have hP : va_P D vwCl (([] ++ nw11_311) ++ (p4_323)) _ := hP
  have hD : va_D A (([] ++ nw11_311) ++ (p4_323)) := hD
  have hP := pool_in hP
  have hD := pool_inD hD
  obtain ⟨p11_324, ep11_324⟩ : ∃ p9 : va_W, p9 = (p4_323 ++ nw11_311) := ⟨_, rfl⟩
  rw [← ep11_324] at hP hD
  have hk11_325 : FF (0 ≤ ((T11_310.sz : Nat) : Int)) := Int.natCast_nonneg _
  have hk11_326 : FF (0 ≤ ((T11_310.dep : Nat) : Int)) := Int.natCast_nonneg _
  have hk11_327 : FF (0 ≤ ((T11_310.c4 : Nat) : Int)) := Int.natCast_nonneg _
  have hP : va_P D vwCl ([] ++ (p11_324)) _ := hP
  have hD : va_D A ([] ++ (p11_324)) := hD
  refine W.widen (k := c11_322) (n := k11_323) (Nat.le_of_eq (FF.out ec11_322).symm) (Nat.le_of_eq (FF.out ek11_323).symm) (W.eq (g2 := F0 m 14 ls [.ref T11_310.root]) rfl ?_)
  refine lv_astore (lv' := [(6, .ref T11_310.root), (0, .int v0), (1, .long v1), (3, .long v2), (5, .int v3)]) hx hb dX16_hosts_14 hl (by decide) rfl (fun ls hl => ?_)
  refine lv_ldc2 (v := 30) hx hb hown (hn.get mw_2189 rfl) dX16_hosts_16 ?_
  refine lv_iconst (v := 4) hx hb dX16_hosts_19 (by decide) ?_
  obtain ⟨m20_1, gm20_1⟩ : ∃ m9 : Nat, m9 + c11_322 = MC := ⟨MC - c11_322, Nat.sub_add_cancel (FF.out mc11_322)⟩
  have em20_1 := FF.mk gm20_1
  obtain ⟨m20_2, gm20_2⟩ : ∃ m9 : Nat, m9 + k11_323 = MS := ⟨MS - k11_323, Nat.sub_add_cancel (FF.out mk11_323)⟩
  have em20_2 := FF.mk gm20_2
  refine gt_q (pl := (p11_324)) (wr := []) [] [] (rt_S (As := [.long 30, .int 4]) (rest := []) (c_X16_read l hst D ct m20_1 m20_2 (30 : Int64) (4 : Int32) (rg_w (show rg (4 : Int32) 4 4 from rg_l (by decide)) (by decide)) (show 2 ≤ ((m20_1 : Nat) : Int) by have q0 := FF.out hq0; have q1 := FF.out uc11_322; have q2 := FF.out em20_1; omega) (show 10 ≤ ((m20_2 : Nat) : Int) by have q0 := FF.out hq1; have q1 := FF.out uk11_323; have q2 := FF.out em20_2; omega) _) (cb_of (n := 2) hn mw_2136 mw_13 mw_2134 mhX16_read ⟨(Nat.le_of_ble_eq_true rfl), (Nat.le_of_ble_eq_true rfl)⟩) hx hb hml hown hn hK hSK hZ hS mw_2135 rfl hl.1 (Nat.le_of_ble_eq_true rfl) dX16_hosts_20 ⟨(Nat.le_of_eq ((Nat.add_comm _ _).trans gm20_1)), (Nat.le_of_eq ((Nat.add_comm _ _).trans gm20_2))⟩) hP hD hS hA rfl rfl (by decide) (by decide) (by decide) (fun xq20_6 ux20_7 xfs20_8 H locs hpx20_9 hpexfs20_8 hP hD hS => ?_) (fun r20_3 u20_4 H locs hp20_5 hP hD hS => ?_)
  · exact hpx20_9.elim
  obtain ⟨T20_310, kc20_311, kn20_312⟩ := u20_4
  obtain ⟨hp20_313, hp20_314, hp20_315, hp20_316, hp20_317, hp20_318, hp20_319, hp20_320⟩ := hp20_5
  subst hp20_313
  replace hp20_315 : FF (((kc20_311 : Nat) : Int) ≤ 2) := hp20_315
  replace hp20_316 : FF (((kn20_312 : Nat) : Int) ≤ 10) := hp20_316
  replace hp20_317 : FF (((T20_310.sz : Nat) : Int) ≤ 2) := hp20_317
  replace hp20_318 : FF (((T20_310.dep : Nat) : Int) ≤ 1) := hp20_318
  replace hp20_319 : FF (((T20_310.c4 : Nat) : Int) ≤ 1) := hp20_319
  replace hp20_320 : FF ((4 : Int32).toInt = 4 ∨ ((T20_310.c4 : Nat) : Int) ≤ 0) := hp20_320
  obtain ⟨c20_321, ec20_321⟩ : ∃ x9 : Nat, x9 = c11_322 + kc20_311 := ⟨_, rfl⟩
  have ec20_321 := FF.mk ec20_321
  have uc20_321 : FF (((c20_321 : Nat) : Int) ≤ 8) := FF.mk (show ((c20_321 : Nat) : Int) ≤ 8 by have q0 := FF.out uc11_322; have q1 := FF.out hp20_315; have q2 := FF.out ec20_321; omega)
  have mc20_321 : FF (c20_321 ≤ MC) := FF.mk (Int.ofNat_le.mp (show ((c20_321 : Nat) : Int) ≤ ((MC : Nat) : Int) by have q0 := FF.out hq0; have q1 := FF.out uc20_321; omega))
  obtain ⟨k20_322, ek20_322⟩ : ∃ x9 : Nat, x9 = k11_323 + kn20_312 := ⟨_, rfl⟩
  have ek20_322 := FF.mk ek20_322
  have uk20_322 : FF (((k20_322 : Nat) : Int) ≤ 44) := FF.mk (show ((k20_322 : Nat) : Int) ≤ 44 by have q0 := FF.out uk11_323; have q1 := FF.out hp20_316; have q2 := FF.out ek20_322; omega)
  have mk20_322 : FF (k20_322 ≤ MS) := FF.mk (Int.ofNat_le.mp (show ((k20_322 : Nat) : Int) ≤ ((MS : Nat) : Int) by have q0 := FF.out hq1; have q1 := FF.out uk20_322; omega))
  have hP : va_P D vwCl (([] ++ (T20_310.cells)) ++ (p11_324)) _ := hP
  have hD : va_D A (([] ++ (T20_310.cells)) ++ (p11_324)) := hD
  have hP := pool_in hP
  have hD := pool_inD hD
  obtain ⟨p20_323, ep20_323⟩ : ∃ p9 : va_W, p9 = (p11_324 ++ (T20_310.cells)) := ⟨_, rfl⟩
  rw [← ep20_323] at hP hD
  have hk20_324 : FF (0 ≤ ((T20_310.sz : Nat) : Int)) := Int.natCast_nonneg _
  have hk20_325 : FF (0 ≤ ((T20_310.dep : Nat) : Int)) := Int.natCast_nonneg _
  have hk20_326 : FF (0 ≤ ((T20_310.c4 : Nat) : Int)) := Int.natCast_nonneg _
  have hP : va_P D vwCl ([] ++ (p20_323)) _ := hP
  have hD : va_D A ([] ++ (p20_323)) := hD
  refine W.widen (k := c20_321) (n := k20_322) (Nat.le_of_eq (FF.out ec20_321).symm) (Nat.le_of_eq (FF.out ek20_322).symm) (W.eq (g2 := F0 m 23 ls [.ref T20_310.root]) rfl ?_)
  refine lv_lload_n hx hb dX16_hosts_23 rfl (lv_at hl 2 rfl) ?_
  refine lv_lload_n hx hb dX16_hosts_24 rfl (lv_at hl 3 rfl) ?_
  refine lv_iload hx hb dX16_hosts_25 (lv_at hl 4 rfl) ?_
  obtain ⟨m27_1, gm27_1⟩ : ∃ m9 : Nat, m9 + c20_321 = MC := ⟨MC - c20_321, Nat.sub_add_cancel (FF.out mc20_321)⟩
  have em27_1 := FF.mk gm27_1
  obtain ⟨m27_2, gm27_2⟩ : ∃ m9 : Nat, m9 + k20_322 = MS := ⟨MS - k20_322, Nat.sub_add_cancel (FF.out mk20_322)⟩
  have em27_2 := FF.mk gm27_2
  refine gt_q (pl := (p20_323)) (wr := []) [] [] (rt_S (As := [.ref T20_310.root, .long v1, .long v2, .int v3]) (rest := []) (c_X16_host l hst D ct m27_1 m27_2 T20_310 v1 v2 v3 hp20_314 h_v3 (show 4 ≤ ((m27_1 : Nat) : Int) by have q0 := FF.out hq0; have q1 := FF.out uc20_321; have q2 := FF.out em27_1; omega) (show 24 ≤ ((m27_2 : Nat) : Int) by have q0 := FF.out hq1; have q1 := FF.out uk20_322; have q2 := FF.out em27_2; omega) _) (cb_of (n := 4) hn mw_2188 mw_13 mw_2186 mhX16_host ⟨(Nat.le_of_ble_eq_true rfl), (Nat.le_of_ble_eq_true rfl)⟩) hx hb hml hown hn hK hSK hZ hS mw_2187 rfl hl.1 (Nat.le_of_ble_eq_true rfl) dX16_hosts_27 ⟨(Nat.le_of_eq ((Nat.add_comm _ _).trans gm27_1)), (Nat.le_of_eq ((Nat.add_comm _ _).trans gm27_2))⟩) hP hD hS hA rfl rfl (by decide) (by decide) (by decide) (fun xq27_6 ux27_7 xfs27_8 H locs hpx27_9 hpexfs27_8 hP hD hS => ?_) (fun r27_3 u27_4 H locs hp27_5 hP hD hS => ?_)
  · exact hpx27_9.elim
  obtain ⟨T27_310, nw27_311, kc27_312, kn27_313⟩ := u27_4
  obtain ⟨hp27_314, hp27_315, hp27_316, hp27_317, hp27_318, hp27_319, hp27_320, hp27_321⟩ := hp27_5
  subst hp27_314
  replace hp27_317 : FF (((kc27_312 : Nat) : Int) ≤ 4) := hp27_317
  replace hp27_318 : FF (((kn27_313 : Nat) : Int) ≤ 24) := hp27_318
  replace hp27_319 : FF (((T27_310.dep : Nat) : Int) ≤ ((T20_310.dep : Nat) : Int) ∨ ((T27_310.dep : Nat) : Int) ≤ 1) := hp27_319
  replace hp27_320 : FF (((T27_310.sz : Nat) : Int) ≤ ((T20_310.sz : Nat) : Int) + 4) := hp27_320
  replace hp27_321 : FF (((T27_310.c4 : Nat) : Int) ≤ ((T20_310.c4 : Nat) : Int)) := hp27_321
  obtain ⟨c27_322, ec27_322⟩ : ∃ x9 : Nat, x9 = c20_321 + kc27_312 := ⟨_, rfl⟩
  have ec27_322 := FF.mk ec27_322
  have uc27_322 : FF (((c27_322 : Nat) : Int) ≤ 12) := FF.mk (show ((c27_322 : Nat) : Int) ≤ 12 by have q0 := FF.out uc20_321; have q1 := FF.out hp27_317; have q2 := FF.out ec27_322; omega)
  have mc27_322 : FF (c27_322 ≤ MC) := FF.mk (Int.ofNat_le.mp (show ((c27_322 : Nat) : Int) ≤ ((MC : Nat) : Int) by have q0 := FF.out hq0; have q1 := FF.out uc27_322; omega))
  obtain ⟨k27_323, ek27_323⟩ : ∃ x9 : Nat, x9 = k20_322 + kn27_313 := ⟨_, rfl⟩
  have ek27_323 := FF.mk ek27_323
  have uk27_323 : FF (((k27_323 : Nat) : Int) ≤ 68) := FF.mk (show ((k27_323 : Nat) : Int) ≤ 68 by have q0 := FF.out uk20_322; have q1 := FF.out hp27_318; have q2 := FF.out ek27_323; omega)
  have mk27_323 : FF (k27_323 ≤ MS) := FF.mk (Int.ofNat_le.mp (show ((k27_323 : Nat) : Int) ≤ ((MS : Nat) : Int) by have q0 := FF.out hq1; have q1 := FF.out uk27_323; omega))
  have hP : va_P D vwCl (([] ++ nw27_311) ++ (p20_323)) _ := hP
  have hD : va_D A (([] ++ nw27_311) ++ (p20_323)) := hD
  have hP := pool_in hP
  have hD := pool_inD hD
  obtain ⟨p27_324, ep27_324⟩ : ∃ p9 : va_W, p9 = (p20_323 ++ nw27_311) := ⟨_, rfl⟩
  rw [← ep27_324] at hP hD
  have hk27_325 : FF (0 ≤ ((T27_310.sz : Nat) : Int)) := Int.natCast_nonneg _
  have hk27_326 : FF (0 ≤ ((T27_310.dep : Nat) : Int)) := Int.natCast_nonneg _
  have hk27_327 : FF (0 ≤ ((T27_310.c4 : Nat) : Int)) := Int.natCast_nonneg _
  have hP : va_P D vwCl ([] ++ (p27_324)) _ := hP
  have hD : va_D A ([] ++ (p27_324)) := hD
  refine W.widen (k := c27_322) (n := k27_323) (Nat.le_of_eq (FF.out ec27_322).symm) (Nat.le_of_eq (FF.out ek27_323).symm) (W.eq (g2 := F0 m 30 ls [.ref T27_310.root]) rfl ?_)
  refine lv_astore (lv' := [(7, .ref T27_310.root), (6, .ref T11_310.root), (0, .int v0), (1, .long v1), (3, .long v2), (5, .int v3)]) hx hb dX16_hosts_30 hl (by decide) rfl (fun ls hl => ?_)
  refine lv_ldc2 (v := 2048) hx hb hown (hn.get mw_2127 rfl) dX16_hosts_32 ?_
  obtain ⟨m35_1, gm35_1⟩ : ∃ m9 : Nat, m9 + c27_322 = MC := ⟨MC - c27_322, Nat.sub_add_cancel (FF.out mc27_322)⟩
  have em35_1 := FF.mk gm35_1
  obtain ⟨m35_2, gm35_2⟩ : ∃ m9 : Nat, m9 + k27_323 = MS := ⟨MS - k27_323, Nat.sub_add_cancel (FF.out mk27_323)⟩
  have em35_2 := FF.mk gm35_2
  refine gt_q (pl := (p27_324)) (wr := []) [] [] (rt_S (As := [.long 2048]) (rest := []) (c_X16_ether l hst D ct m35_1 m35_2 (2048 : Int64) (show 4 ≤ ((m35_1 : Nat) : Int) by have q0 := FF.out hq0; have q1 := FF.out uc27_322; have q2 := FF.out em35_1; omega) (show 22 ≤ ((m35_2 : Nat) : Int) by have q0 := FF.out hq1; have q1 := FF.out uk27_323; have q2 := FF.out em35_2; omega) _) (cb_of (n := 1) hn mw_2132 mw_13 mw_2130 mhX16_ether ⟨(Nat.le_of_ble_eq_true rfl), (Nat.le_of_ble_eq_true rfl)⟩) hx hb hml hown hn hK hSK hZ hS mw_2131 rfl hl.1 (Nat.le_of_ble_eq_true rfl) dX16_hosts_35 ⟨(Nat.le_of_eq ((Nat.add_comm _ _).trans gm35_1)), (Nat.le_of_eq ((Nat.add_comm _ _).trans gm35_2))⟩) hP hD hS hA rfl rfl (by decide) (by decide) (by decide) (fun xq35_6 ux35_7 xfs35_8 H locs hpx35_9 hpexfs35_8 hP hD hS => ?_) (fun r35_3 u35_4 H locs hp35_5 hP hD hS => ?_)
  · exact hpx35_9.elim
  obtain ⟨T35_310, kc35_311, kn35_312⟩ := u35_4
  obtain ⟨hp35_313, hp35_314, hp35_315, hp35_316, hp35_317, hp35_318, hp35_319⟩ := hp35_5
  subst hp35_313
  replace hp35_315 : FF (((kc35_311 : Nat) : Int) ≤ 4) := hp35_315
  replace hp35_316 : FF (((kn35_312 : Nat) : Int) ≤ 22) := hp35_316
  replace hp35_317 : FF (((T35_310.sz : Nat) : Int) ≤ 4) := hp35_317
  replace hp35_318 : FF (((T35_310.dep : Nat) : Int) ≤ 1) := hp35_318
  replace hp35_319 : FF (((T35_310.c4 : Nat) : Int) ≤ 0) := hp35_319
  obtain ⟨c35_320, ec35_320⟩ : ∃ x9 : Nat, x9 = c27_322 + kc35_311 := ⟨_, rfl⟩
  have ec35_320 := FF.mk ec35_320
  have uc35_320 : FF (((c35_320 : Nat) : Int) ≤ 16) := FF.mk (show ((c35_320 : Nat) : Int) ≤ 16 by have q0 := FF.out uc27_322; have q1 := FF.out hp35_315; have q2 := FF.out ec35_320; omega)
  have mc35_320 : FF (c35_320 ≤ MC) := FF.mk (Int.ofNat_le.mp (show ((c35_320 : Nat) : Int) ≤ ((MC : Nat) : Int) by have q0 := FF.out hq0; have q1 := FF.out uc35_320; omega))
  obtain ⟨k35_321, ek35_321⟩ : ∃ x9 : Nat, x9 = k27_323 + kn35_312 := ⟨_, rfl⟩
  have ek35_321 := FF.mk ek35_321
  have uk35_321 : FF (((k35_321 : Nat) : Int) ≤ 90) := FF.mk (show ((k35_321 : Nat) : Int) ≤ 90 by have q0 := FF.out uk27_323; have q1 := FF.out hp35_316; have q2 := FF.out ek35_321; omega)
  have mk35_321 : FF (k35_321 ≤ MS) := FF.mk (Int.ofNat_le.mp (show ((k35_321 : Nat) : Int) ≤ ((MS : Nat) : Int) by have q0 := FF.out hq1; have q1 := FF.out uk35_321; omega))
  have hP : va_P D vwCl (([] ++ (T35_310.cells Z0)) ++ (p27_324)) _ := hP
  have hD : va_D A (([] ++ (T35_310.cells Z0)) ++ (p27_324)) := hD
  have hP := pool_in hP
  have hD := pool_inD hD
  obtain ⟨p35_322, ep35_322⟩ : ∃ p9 : va_W, p9 = (p27_324 ++ (T35_310.cells Z0)) := ⟨_, rfl⟩
  rw [← ep35_322] at hP hD
  have hk35_323 : FF (0 ≤ ((T35_310.sz : Nat) : Int)) := Int.natCast_nonneg _
  have hk35_324 : FF (0 ≤ ((T35_310.dep : Nat) : Int)) := Int.natCast_nonneg _
  have hk35_325 : FF (0 ≤ ((T35_310.c4 : Nat) : Int)) := Int.natCast_nonneg _
  have hP : va_P D vwCl ([] ++ (p35_322)) _ := hP
  have hD : va_D A ([] ++ (p35_322)) := hD
  refine W.widen (k := c35_320) (n := k35_321) (Nat.le_of_eq (FF.out ec35_320).symm) (Nat.le_of_eq (FF.out ek35_321).symm) (W.eq (g2 := F0 m 38 ls [.ref T35_310.root]) rfl ?_)
  refine lv_iload_n hx hb dX16_hosts_38 rfl (lv_at hl 2 rfl) ?_
  refine lv_iconst (v := 1) hx hb dX16_hosts_39 (by decide) ?_
  refine lv_icmp_ne (tgt := 48) hx hb dX16_hosts_40 (by decide) (fun c40_1 => ?_) (fun c40_1 => ?_)
  · have t40_2 := FF.mk (i_ne c40_1)
    refine lv_iload_n hx hb dX16_hosts_48 rfl (lv_at hl 2 rfl) ?_
    refine lv_iconst (v := 2) hx hb dX16_hosts_49 (by decide) ?_
    refine lv_icmp_ne (tgt := 58) hx hb dX16_hosts_50 (by decide) (fun c50_1 => ?_) (fun c50_1 => ?_)
    · have t50_2 := FF.mk (i_ne c50_1)
      refine lv_aload hx hb dX16_hosts_58 (lv_at hl 1 rfl) ?_
      refine lv_aload hx hb dX16_hosts_60 (lv_at hl 0 rfl) ?_
      obtain ⟨m62_1, gm62_1⟩ : ∃ m9 : Nat, m9 + c35_320 = MC := ⟨MC - c35_320, Nat.sub_add_cancel (FF.out mc35_320)⟩
      have em62_1 := FF.mk gm62_1
      obtain ⟨m62_2, gm62_2⟩ : ∃ m9 : Nat, m9 + k35_321 = MS := ⟨MS - k35_321, Nat.sub_add_cancel (FF.out mk35_321)⟩
      have em62_2 := FF.mk gm62_2
      refine gt_q (pl := (p35_322)) (wr := []) [] [] (rt_S (As := [.ref T11_310.root, .ref T27_310.root]) (rest := [.ref T35_310.root]) (c_X16_or_e l hst D ct m62_1 m62_2 T11_310 T27_310 hp11_315 hp27_315 (show 1 ≤ ((m62_1 : Nat) : Int) by have q0 := FF.out hq0; have q1 := FF.out uc35_320; have q2 := FF.out em62_1; omega) (show 7 ≤ ((m62_2 : Nat) : Int) by have q0 := FF.out hq1; have q1 := FF.out uk35_321; have q2 := FF.out em62_2; omega) _) (cb_of (n := 2) hn mw_2163 mw_13 mw_2161 mhX16_or ⟨(Nat.le_of_ble_eq_true rfl), (Nat.le_of_ble_eq_true rfl)⟩) hx hb hml hown hn hK hSK hZ hS mw_2162 rfl hl.1 (Nat.le_of_ble_eq_true rfl) dX16_hosts_62 ⟨(Nat.le_of_eq ((Nat.add_comm _ _).trans gm62_1)), (Nat.le_of_eq ((Nat.add_comm _ _).trans gm62_2))⟩) hP hD hS hA rfl rfl (by decide) (by decide) (by decide) (fun xq62_6 ux62_7 xfs62_8 H locs hpx62_9 hpexfs62_8 hP hD hS => ?_) (fun r62_3 u62_4 H locs hp62_5 hP hD hS => ?_)
      · exact hpx62_9.elim
      obtain ⟨T62_310, nw62_311, kc62_312, kn62_313⟩ := u62_4
      obtain ⟨hp62_314, hp62_315, hp62_316, hp62_317, hp62_318, hp62_319, hp62_320, hp62_321⟩ := hp62_5
      subst hp62_314
      replace hp62_317 : FF (((kc62_312 : Nat) : Int) ≤ 1) := hp62_317
      replace hp62_318 : FF (((kn62_313 : Nat) : Int) ≤ 7) := hp62_318
      replace hp62_319 : FF (((T62_310.dep : Nat) : Int) ≤ ((T11_310.dep : Nat) : Int) ∨ ((T62_310.dep : Nat) : Int) ≤ ((T27_310.dep : Nat) : Int)) := hp62_319
      replace hp62_320 : FF (((T62_310.sz : Nat) : Int) = ((T11_310.sz : Nat) : Int) + ((T27_310.sz : Nat) : Int) + 1) := hp62_320
      replace hp62_321 : FF (((T62_310.c4 : Nat) : Int) = ((T11_310.c4 : Nat) : Int) + ((T27_310.c4 : Nat) : Int)) := hp62_321
      obtain ⟨c62_322, ec62_322⟩ : ∃ x9 : Nat, x9 = c35_320 + kc62_312 := ⟨_, rfl⟩
      have ec62_322 := FF.mk ec62_322
      have uc62_322 : FF (((c62_322 : Nat) : Int) ≤ 17) := FF.mk (show ((c62_322 : Nat) : Int) ≤ 17 by have q0 := FF.out uc35_320; have q1 := FF.out hp62_317; have q2 := FF.out ec62_322; omega)
      have mc62_322 : FF (c62_322 ≤ MC) := FF.mk (Int.ofNat_le.mp (show ((c62_322 : Nat) : Int) ≤ ((MC : Nat) : Int) by have q0 := FF.out hq0; have q1 := FF.out uc62_322; omega))
      obtain ⟨k62_323, ek62_323⟩ : ∃ x9 : Nat, x9 = k35_321 + kn62_313 := ⟨_, rfl⟩
      have ek62_323 := FF.mk ek62_323
      have uk62_323 : FF (((k62_323 : Nat) : Int) ≤ 97) := FF.mk (show ((k62_323 : Nat) : Int) ≤ 97 by have q0 := FF.out uk35_321; have q1 := FF.out hp62_318; have q2 := FF.out ek62_323; omega)
      have mk62_323 : FF (k62_323 ≤ MS) := FF.mk (Int.ofNat_le.mp (show ((k62_323 : Nat) : Int) ≤ ((MS : Nat) : Int) by have q0 := FF.out hq1; have q1 := FF.out uk62_323; omega))
      have hP : va_P D vwCl (([] ++ nw62_311) ++ (p35_322)) _ := hP
      have hD : va_D A (([] ++ nw62_311) ++ (p35_322)) := hD
      have hP := pool_in hP
      have hD := pool_inD hD
      obtain ⟨p62_324, ep62_324⟩ : ∃ p9 : va_W, p9 = (p35_322 ++ nw62_311) := ⟨_, rfl⟩
      rw [← ep62_324] at hP hD
      have hk62_325 : FF (0 ≤ ((T62_310.sz : Nat) : Int)) := Int.natCast_nonneg _
      have hk62_326 : FF (0 ≤ ((T62_310.dep : Nat) : Int)) := Int.natCast_nonneg _
      have hk62_327 : FF (0 ≤ ((T62_310.c4 : Nat) : Int)) := Int.natCast_nonneg _
      have hP : va_P D vwCl ([] ++ (p62_324)) _ := hP
      have hD : va_D A ([] ++ (p62_324)) := hD
      refine W.widen (k := c62_322) (n := k62_323) (Nat.le_of_eq (FF.out ec62_322).symm) (Nat.le_of_eq (FF.out ek62_323).symm) (W.eq (g2 := F0 m 65 ls [.ref T62_310.root, .ref T35_310.root]) rfl ?_)
      obtain ⟨m65_1, gm65_1⟩ : ∃ m9 : Nat, m9 + c62_322 = MC := ⟨MC - c62_322, Nat.sub_add_cancel (FF.out mc62_322)⟩
      have em65_1 := FF.mk gm65_1
      obtain ⟨m65_2, gm65_2⟩ : ∃ m9 : Nat, m9 + k62_323 = MS := ⟨MS - k62_323, Nat.sub_add_cancel (FF.out mk62_323)⟩
      have em65_2 := FF.mk gm65_2
      refine gt_q (pl := (p62_324)) (wr := []) [] [] (rt_S (As := [.ref T35_310.root, .ref T62_310.root]) (rest := []) (c_X16_and_e l hst D ct m65_1 m65_2 T35_310 T62_310 hp35_314 hp62_315 (show 1 ≤ ((m65_1 : Nat) : Int) by have q0 := FF.out hq0; have q1 := FF.out uc62_322; have q2 := FF.out em65_1; omega) (show 7 ≤ ((m65_2 : Nat) : Int) by have q0 := FF.out hq1; have q1 := FF.out uk62_323; have q2 := FF.out em65_2; omega) _) (cb_of (n := 2) hn mw_2154 mw_13 mw_2152 mhX16_and ⟨(Nat.le_of_ble_eq_true rfl), (Nat.le_of_ble_eq_true rfl)⟩) hx hb hml hown hn hK hSK hZ hS mw_2153 rfl hl.1 (Nat.le_of_ble_eq_true rfl) dX16_hosts_65 ⟨(Nat.le_of_eq ((Nat.add_comm _ _).trans gm65_1)), (Nat.le_of_eq ((Nat.add_comm _ _).trans gm65_2))⟩) hP hD hS hA rfl rfl (by decide) (by decide) (by decide) (fun xq65_6 ux65_7 xfs65_8 H locs hpx65_9 hpexfs65_8 hP hD hS => ?_) (fun r65_3 u65_4 H locs hp65_5 hP hD hS => ?_)
      · exact hpx65_9.elim
      obtain ⟨T65_310, nw65_311, kc65_312, kn65_313⟩ := u65_4
      obtain ⟨hp65_314, hp65_315, hp65_316, hp65_317, hp65_318, hp65_319, hp65_320, hp65_321⟩ := hp65_5
      subst hp65_314
      replace hp65_317 : FF (((kc65_312 : Nat) : Int) ≤ 1) := hp65_317
      replace hp65_318 : FF (((kn65_313 : Nat) : Int) ≤ 7) := hp65_318
      replace hp65_319 : FF (((T65_310.dep : Nat) : Int) ≤ ((T35_310.dep : Nat) : Int) ∨ ((T65_310.dep : Nat) : Int) ≤ ((T62_310.dep : Nat) : Int)) := hp65_319
      replace hp65_320 : FF (((T65_310.sz : Nat) : Int) = ((T35_310.sz : Nat) : Int) + ((T62_310.sz : Nat) : Int) + 1) := hp65_320
      replace hp65_321 : FF (((T65_310.c4 : Nat) : Int) = ((T35_310.c4 : Nat) : Int) + ((T62_310.c4 : Nat) : Int)) := hp65_321
      obtain ⟨c65_322, ec65_322⟩ : ∃ x9 : Nat, x9 = c62_322 + kc65_312 := ⟨_, rfl⟩
      have ec65_322 := FF.mk ec65_322
      have uc65_322 : FF (((c65_322 : Nat) : Int) ≤ 18) := FF.mk (show ((c65_322 : Nat) : Int) ≤ 18 by have q0 := FF.out uc62_322; have q1 := FF.out hp65_317; have q2 := FF.out ec65_322; omega)
      have mc65_322 : FF (c65_322 ≤ MC) := FF.mk (Int.ofNat_le.mp (show ((c65_322 : Nat) : Int) ≤ ((MC : Nat) : Int) by have q0 := FF.out hq0; have q1 := FF.out uc65_322; omega))
      obtain ⟨k65_323, ek65_323⟩ : ∃ x9 : Nat, x9 = k62_323 + kn65_313 := ⟨_, rfl⟩
      have ek65_323 := FF.mk ek65_323
      have uk65_323 : FF (((k65_323 : Nat) : Int) ≤ 104) := FF.mk (show ((k65_323 : Nat) : Int) ≤ 104 by have q0 := FF.out uk62_323; have q1 := FF.out hp65_318; have q2 := FF.out ek65_323; omega)
      have mk65_323 : FF (k65_323 ≤ MS) := FF.mk (Int.ofNat_le.mp (show ((k65_323 : Nat) : Int) ≤ ((MS : Nat) : Int) by have q0 := FF.out hq1; have q1 := FF.out uk65_323; omega))
      have hP : va_P D vwCl (([] ++ nw65_311) ++ (p62_324)) _ := hP
      have hD : va_D A (([] ++ nw65_311) ++ (p62_324)) := hD
      have hP := pool_in hP
      have hD := pool_inD hD
      obtain ⟨p65_324, ep65_324⟩ : ∃ p9 : va_W, p9 = (p62_324 ++ nw65_311) := ⟨_, rfl⟩
      rw [← ep65_324] at hP hD
      have hk65_325 : FF (0 ≤ ((T65_310.sz : Nat) : Int)) := Int.natCast_nonneg _
      have hk65_326 : FF (0 ≤ ((T65_310.dep : Nat) : Int)) := Int.natCast_nonneg _
      have hk65_327 : FF (0 ≤ ((T65_310.c4 : Nat) : Int)) := Int.natCast_nonneg _
      have hP : va_P D vwCl ([] ++ (p65_324)) _ := hP
      have hD : va_D A ([] ++ (p65_324)) := hD
      refine W.widen (k := c65_322) (n := k65_323) (Nat.le_of_eq (FF.out ec65_322).symm) (Nat.le_of_eq (FF.out ek65_323).symm) (W.eq (g2 := F0 m 68 ls [.ref T65_310.root]) rfl ?_)
      have hP : va_P D vwCl ([] ++ (T65_310.cells Z0)) _ := hP.perm (seg_perm (fun f => by have w0 := seg_sum (List.Perm.of_eq ep4_323) f; have w1 := seg_sum hp11_316 f; have w2 := seg_sum (List.Perm.of_eq ep11_324) f; have w3 := seg_sum (List.Perm.of_eq ep20_323) f; have w4 := seg_sum hp27_316 f; have w5 := seg_sum (List.Perm.of_eq ep27_324) f; have w6 := seg_sum (List.Perm.of_eq ep35_322) f; have w7 := seg_sum hp62_316 f; have w8 := seg_sum (List.Perm.of_eq ep62_324) f; have w9 := seg_sum hp65_316 f; have w10 := seg_sum (List.Perm.of_eq ep65_324) f; simp only [ST.cells_leaf, ST.cells_minus, ST.cells_group, ST.cells_acc, ST.cells_two, FT.cells_two, FT.cells_inv, FT.cells_test, FT.cells_pair, List.map_append, List.sum_append, List.map_nil, List.sum_nil] at w0 w1 w2 w3 w4 w5 w6 w7 w8 w9 w10 ⊢ <;> omega))
      have hD : va_D A ([] ++ (T65_310.cells Z0)) := hD.perm (seg_perm (fun f => by have w0 := seg_sum (List.Perm.of_eq ep4_323) f; have w1 := seg_sum hp11_316 f; have w2 := seg_sum (List.Perm.of_eq ep11_324) f; have w3 := seg_sum (List.Perm.of_eq ep20_323) f; have w4 := seg_sum hp27_316 f; have w5 := seg_sum (List.Perm.of_eq ep27_324) f; have w6 := seg_sum (List.Perm.of_eq ep35_322) f; have w7 := seg_sum hp62_316 f; have w8 := seg_sum (List.Perm.of_eq ep62_324) f; have w9 := seg_sum hp65_316 f; have w10 := seg_sum (List.Perm.of_eq ep65_324) f; simp only [ST.cells_leaf, ST.cells_minus, ST.cells_group, ST.cells_acc, ST.cells_two, FT.cells_two, FT.cells_inv, FT.cells_test, FT.cells_pair, List.map_append, List.sum_append, List.map_nil, List.sum_nil] at w0 w1 w2 w3 w4 w5 w6 w7 w8 w9 w10 ⊢ <;> omega))
      exact et_r (SX := Unit) hQ hx hb hr hlocks dX16_hosts_68 (T65_310, c65_322, k65_323) ⟨rfl, hp65_315, (show ((c65_322 : Nat) : Int) ≤ 18 by have q0 := FF.out uc65_322; omega), (show ((k65_323 : Nat) : Int) ≤ 104 by have q0 := FF.out uk65_323; omega), (show ((T65_310.sz : Nat) : Int) ≤ 18 by have q0 := FF.out hp4_317; have q1 := FF.out hp11_320; have q2 := FF.out hp20_317; have q3 := FF.out hp27_320; have q4 := FF.out hp35_317; have q5 := FF.out hp62_320; have q6 := FF.out hp65_320; omega), (show ((T65_310.dep : Nat) : Int) ≤ 1 by have q0 := FF.out hp4_318; have q1 := FF.out hp11_319; have q2 := FF.out hp20_318; have q3 := FF.out hp27_319; have q4 := FF.out hp35_318; have q5 := FF.out hp62_319; have q6 := FF.out hp65_319; omega), (show ((T65_310.c4 : Nat) : Int) ≤ 2 by have q0 := FF.out hp4_319; have q1 := FF.out hp11_321; have q2 := FF.out hp20_319; have q3 := FF.out hp27_321; have q4 := FF.out hp35_319; have q5 := FF.out hp62_321; have q6 := FF.out hp65_321; omega)⟩ hP hD hS [] (by decide) rfl (Nat.le_refl _) (Nat.le_refl _) (FF.out mc65_322) (FF.out mk65_323)
    · have t50_2 := FF.mk (i_eq c50_1)
      have r50_3 : rg v0 2 2 := rg_eqA t50_2 (rg_any v0) (show rg (2 : Int32) 2 2 from rg_l (by decide)) (by decide)
      refine lv_aload hx hb dX16_hosts_53 (lv_at hl 0 rfl) ?_
      refine lv_goto (tgt := 65) hx hb dX16_hosts_55 (by decide) ?_
      obtain ⟨m65_1, gm65_1⟩ : ∃ m9 : Nat, m9 + c35_320 = MC := ⟨MC - c35_320, Nat.sub_add_cancel (FF.out mc35_320)⟩
      have em65_1 := FF.mk gm65_1
      obtain ⟨m65_2, gm65_2⟩ : ∃ m9 : Nat, m9 + k35_321 = MS := ⟨MS - k35_321, Nat.sub_add_cancel (FF.out mk35_321)⟩
      have em65_2 := FF.mk gm65_2
      refine gt_q (pl := (p35_322)) (wr := []) [] [] (rt_S (As := [.ref T35_310.root, .ref T27_310.root]) (rest := []) (c_X16_and_e l hst D ct m65_1 m65_2 T35_310 T27_310 hp35_314 hp27_315 (show 1 ≤ ((m65_1 : Nat) : Int) by have q0 := FF.out hq0; have q1 := FF.out uc35_320; have q2 := FF.out em65_1; omega) (show 7 ≤ ((m65_2 : Nat) : Int) by have q0 := FF.out hq1; have q1 := FF.out uk35_321; have q2 := FF.out em65_2; omega) _) (cb_of (n := 2) hn mw_2154 mw_13 mw_2152 mhX16_and ⟨(Nat.le_of_ble_eq_true rfl), (Nat.le_of_ble_eq_true rfl)⟩) hx hb hml hown hn hK hSK hZ hS mw_2153 rfl hl.1 (Nat.le_of_ble_eq_true rfl) dX16_hosts_65 ⟨(Nat.le_of_eq ((Nat.add_comm _ _).trans gm65_1)), (Nat.le_of_eq ((Nat.add_comm _ _).trans gm65_2))⟩) hP hD hS hA rfl rfl (by decide) (by decide) (by decide) (fun xq65_6 ux65_7 xfs65_8 H locs hpx65_9 hpexfs65_8 hP hD hS => ?_) (fun r65_3 u65_4 H locs hp65_5 hP hD hS => ?_)
      · exact hpx65_9.elim
      obtain ⟨T65_310, nw65_311, kc65_312, kn65_313⟩ := u65_4
      obtain ⟨hp65_314, hp65_315, hp65_316, hp65_317, hp65_318, hp65_319, hp65_320, hp65_321⟩ := hp65_5
      subst hp65_314
      replace hp65_317 : FF (((kc65_312 : Nat) : Int) ≤ 1) := hp65_317
      replace hp65_318 : FF (((kn65_313 : Nat) : Int) ≤ 7) := hp65_318
      replace hp65_319 : FF (((T65_310.dep : Nat) : Int) ≤ ((T35_310.dep : Nat) : Int) ∨ ((T65_310.dep : Nat) : Int) ≤ ((T27_310.dep : Nat) : Int)) := hp65_319
      replace hp65_320 : FF (((T65_310.sz : Nat) : Int) = ((T35_310.sz : Nat) : Int) + ((T27_310.sz : Nat) : Int) + 1) := hp65_320
      replace hp65_321 : FF (((T65_310.c4 : Nat) : Int) = ((T35_310.c4 : Nat) : Int) + ((T27_310.c4 : Nat) : Int)) := hp65_321
      obtain ⟨c65_322, ec65_322⟩ : ∃ x9 : Nat, x9 = c35_320 + kc65_312 := ⟨_, rfl⟩
      have ec65_322 := FF.mk ec65_322
      have uc65_322 : FF (((c65_322 : Nat) : Int) ≤ 17) := FF.mk (show ((c65_322 : Nat) : Int) ≤ 17 by have q0 := FF.out uc35_320; have q1 := FF.out hp65_317; have q2 := FF.out ec65_322; omega)
      have mc65_322 : FF (c65_322 ≤ MC) := FF.mk (Int.ofNat_le.mp (show ((c65_322 : Nat) : Int) ≤ ((MC : Nat) : Int) by have q0 := FF.out hq0; have q1 := FF.out uc65_322; omega))
      obtain ⟨k65_323, ek65_323⟩ : ∃ x9 : Nat, x9 = k35_321 + kn65_313 := ⟨_, rfl⟩
      have ek65_323 := FF.mk ek65_323
      have uk65_323 : FF (((k65_323 : Nat) : Int) ≤ 97) := FF.mk (show ((k65_323 : Nat) : Int) ≤ 97 by have q0 := FF.out uk35_321; have q1 := FF.out hp65_318; have q2 := FF.out ek65_323; omega)
      have mk65_323 : FF (k65_323 ≤ MS) := FF.mk (Int.ofNat_le.mp (show ((k65_323 : Nat) : Int) ≤ ((MS : Nat) : Int) by have q0 := FF.out hq1; have q1 := FF.out uk65_323; omega))
      have hP : va_P D vwCl (([] ++ nw65_311) ++ (p35_322)) _ := hP
      have hD : va_D A (([] ++ nw65_311) ++ (p35_322)) := hD
      have hP := pool_in hP
      have hD := pool_inD hD
      obtain ⟨p65_324, ep65_324⟩ : ∃ p9 : va_W, p9 = (p35_322 ++ nw65_311) := ⟨_, rfl⟩
      rw [← ep65_324] at hP hD
      have hk65_325 : FF (0 ≤ ((T65_310.sz : Nat) : Int)) := Int.natCast_nonneg _
      have hk65_326 : FF (0 ≤ ((T65_310.dep : Nat) : Int)) := Int.natCast_nonneg _
      have hk65_327 : FF (0 ≤ ((T65_310.c4 : Nat) : Int)) := Int.natCast_nonneg _
      have hP : va_P D vwCl ([] ++ (p65_324)) _ := hP
      have hD : va_D A ([] ++ (p65_324)) := hD
      refine W.widen (k := c65_322) (n := k65_323) (Nat.le_of_eq (FF.out ec65_322).symm) (Nat.le_of_eq (FF.out ek65_323).symm) (W.eq (g2 := F0 m 68 ls [.ref T65_310.root]) rfl ?_)
      have hP : va_P D vwCl ([] ++ (T65_310.cells Z0)) _ := va_Ppre (show va_P D vwCl (([] ++ (T65_310.cells Z0)) ++ ((T11_310.cells Z0))) _ from hP.perm (seg_perm (fun f => by have w0 := seg_sum (List.Perm.of_eq ep4_323) f; have w1 := seg_sum hp11_316 f; have w2 := seg_sum (List.Perm.of_eq ep11_324) f; have w3 := seg_sum (List.Perm.of_eq ep20_323) f; have w4 := seg_sum hp27_316 f; have w5 := seg_sum (List.Perm.of_eq ep27_324) f; have w6 := seg_sum (List.Perm.of_eq ep35_322) f; have w7 := seg_sum hp65_316 f; have w8 := seg_sum (List.Perm.of_eq ep65_324) f; simp only [ST.cells_leaf, ST.cells_minus, ST.cells_group, ST.cells_acc, ST.cells_two, FT.cells_two, FT.cells_inv, FT.cells_test, FT.cells_pair, List.map_append, List.sum_append, List.map_nil, List.sum_nil] at w0 w1 w2 w3 w4 w5 w6 w7 w8 ⊢ <;> omega)))
      have hD : va_D A ([] ++ (T65_310.cells Z0)) := va_Dpre (show va_D A (([] ++ (T65_310.cells Z0)) ++ ((T11_310.cells Z0))) from hD.perm (seg_perm (fun f => by have w0 := seg_sum (List.Perm.of_eq ep4_323) f; have w1 := seg_sum hp11_316 f; have w2 := seg_sum (List.Perm.of_eq ep11_324) f; have w3 := seg_sum (List.Perm.of_eq ep20_323) f; have w4 := seg_sum hp27_316 f; have w5 := seg_sum (List.Perm.of_eq ep27_324) f; have w6 := seg_sum (List.Perm.of_eq ep35_322) f; have w7 := seg_sum hp65_316 f; have w8 := seg_sum (List.Perm.of_eq ep65_324) f; simp only [ST.cells_leaf, ST.cells_minus, ST.cells_group, ST.cells_acc, ST.cells_two, FT.cells_two, FT.cells_inv, FT.cells_test, FT.cells_pair, List.map_append, List.sum_append, List.map_nil, List.sum_nil] at w0 w1 w2 w3 w4 w5 w6 w7 w8 ⊢ <;> omega)))
      exact et_r (SX := Unit) hQ hx hb hr hlocks dX16_hosts_68 (T65_310, c65_322, k65_323) ⟨rfl, hp65_315, (show ((c65_322 : Nat) : Int) ≤ 18 by have q0 := FF.out uc65_322; omega), (show ((k65_323 : Nat) : Int) ≤ 104 by have q0 := FF.out uk65_323; omega), (show ((T65_310.sz : Nat) : Int) ≤ 18 by have q0 := FF.out hp20_317; have q1 := FF.out hp27_320; have q2 := FF.out hp35_317; have q3 := FF.out hp65_320; omega), (show ((T65_310.dep : Nat) : Int) ≤ 1 by have q0 := FF.out hp20_318; have q1 := FF.out hp27_319; have q2 := FF.out hp35_318; have q3 := FF.out hp65_319; omega), (show ((T65_310.c4 : Nat) : Int) ≤ 2 by have q0 := FF.out hp20_319; have q1 := FF.out hp27_321; have q2 := FF.out hp35_319; have q3 := FF.out hp65_321; omega)⟩ hP hD hS [] (by decide) rfl (Nat.le_refl _) (Nat.le_refl _) (FF.out mc65_322) (FF.out mk65_323)
  · have t40_2 := FF.mk (i_eq c40_1)
    have r40_3 : rg v0 1 1 := rg_eqA t40_2 (rg_any v0) (show rg (1 : Int32) 1 1 from rg_l (by decide)) (by decide)
    refine lv_aload hx hb dX16_hosts_43 (lv_at hl 1 rfl) ?_
    refine lv_goto (tgt := 65) hx hb dX16_hosts_45 (by decide) ?_
    obtain ⟨m65_1, gm65_1⟩ : ∃ m9 : Nat, m9 + c35_320 = MC := ⟨MC - c35_320, Nat.sub_add_cancel (FF.out mc35_320)⟩
    have em65_1 := FF.mk gm65_1
    obtain ⟨m65_2, gm65_2⟩ : ∃ m9 : Nat, m9 + k35_321 = MS := ⟨MS - k35_321, Nat.sub_add_cancel (FF.out mk35_321)⟩
    have em65_2 := FF.mk gm65_2
    refine gt_q (pl := (p35_322)) (wr := []) [] [] (rt_S (As := [.ref T35_310.root, .ref T11_310.root]) (rest := []) (c_X16_and_e l hst D ct m65_1 m65_2 T35_310 T11_310 hp35_314 hp11_315 (show 1 ≤ ((m65_1 : Nat) : Int) by have q0 := FF.out hq0; have q1 := FF.out uc35_320; have q2 := FF.out em65_1; omega) (show 7 ≤ ((m65_2 : Nat) : Int) by have q0 := FF.out hq1; have q1 := FF.out uk35_321; have q2 := FF.out em65_2; omega) _) (cb_of (n := 2) hn mw_2154 mw_13 mw_2152 mhX16_and ⟨(Nat.le_of_ble_eq_true rfl), (Nat.le_of_ble_eq_true rfl)⟩) hx hb hml hown hn hK hSK hZ hS mw_2153 rfl hl.1 (Nat.le_of_ble_eq_true rfl) dX16_hosts_65 ⟨(Nat.le_of_eq ((Nat.add_comm _ _).trans gm65_1)), (Nat.le_of_eq ((Nat.add_comm _ _).trans gm65_2))⟩) hP hD hS hA rfl rfl (by decide) (by decide) (by decide) (fun xq65_6 ux65_7 xfs65_8 H locs hpx65_9 hpexfs65_8 hP hD hS => ?_) (fun r65_3 u65_4 H locs hp65_5 hP hD hS => ?_)
    · exact hpx65_9.elim
    obtain ⟨T65_310, nw65_311, kc65_312, kn65_313⟩ := u65_4
    obtain ⟨hp65_314, hp65_315, hp65_316, hp65_317, hp65_318, hp65_319, hp65_320, hp65_321⟩ := hp65_5
    subst hp65_314
    replace hp65_317 : FF (((kc65_312 : Nat) : Int) ≤ 1) := hp65_317
    replace hp65_318 : FF (((kn65_313 : Nat) : Int) ≤ 7) := hp65_318
    replace hp65_319 : FF (((T65_310.dep : Nat) : Int) ≤ ((T35_310.dep : Nat) : Int) ∨ ((T65_310.dep : Nat) : Int) ≤ ((T11_310.dep : Nat) : Int)) := hp65_319
    replace hp65_320 : FF (((T65_310.sz : Nat) : Int) = ((T35_310.sz : Nat) : Int) + ((T11_310.sz : Nat) : Int) + 1) := hp65_320
    replace hp65_321 : FF (((T65_310.c4 : Nat) : Int) = ((T35_310.c4 : Nat) : Int) + ((T11_310.c4 : Nat) : Int)) := hp65_321
    obtain ⟨c65_322, ec65_322⟩ : ∃ x9 : Nat, x9 = c35_320 + kc65_312 := ⟨_, rfl⟩
    have ec65_322 := FF.mk ec65_322
    have uc65_322 : FF (((c65_322 : Nat) : Int) ≤ 17) := FF.mk (show ((c65_322 : Nat) : Int) ≤ 17 by have q0 := FF.out uc35_320; have q1 := FF.out hp65_317; have q2 := FF.out ec65_322; omega)
    have mc65_322 : FF (c65_322 ≤ MC) := FF.mk (Int.ofNat_le.mp (show ((c65_322 : Nat) : Int) ≤ ((MC : Nat) : Int) by have q0 := FF.out hq0; have q1 := FF.out uc65_322; omega))
    obtain ⟨k65_323, ek65_323⟩ : ∃ x9 : Nat, x9 = k35_321 + kn65_313 := ⟨_, rfl⟩
    have ek65_323 := FF.mk ek65_323
    have uk65_323 : FF (((k65_323 : Nat) : Int) ≤ 97) := FF.mk (show ((k65_323 : Nat) : Int) ≤ 97 by have q0 := FF.out uk35_321; have q1 := FF.out hp65_318; have q2 := FF.out ek65_323; omega)
    have mk65_323 : FF (k65_323 ≤ MS) := FF.mk (Int.ofNat_le.mp (show ((k65_323 : Nat) : Int) ≤ ((MS : Nat) : Int) by have q0 := FF.out hq1; have q1 := FF.out uk65_323; omega))
    have hP : va_P D vwCl (([] ++ nw65_311) ++ (p35_322)) _ := hP
    have hD : va_D A (([] ++ nw65_311) ++ (p35_322)) := hD
    have hP := pool_in hP
    have hD := pool_inD hD
    obtain ⟨p65_324, ep65_324⟩ : ∃ p9 : va_W, p9 = (p35_322 ++ nw65_311) := ⟨_, rfl⟩
    rw [← ep65_324] at hP hD
    have hk65_325 : FF (0 ≤ ((T65_310.sz : Nat) : Int)) := Int.natCast_nonneg _
    have hk65_326 : FF (0 ≤ ((T65_310.dep : Nat) : Int)) := Int.natCast_nonneg _
    have hk65_327 : FF (0 ≤ ((T65_310.c4 : Nat) : Int)) := Int.natCast_nonneg _
    have hP : va_P D vwCl ([] ++ (p65_324)) _ := hP
    have hD : va_D A ([] ++ (p65_324)) := hD
    refine W.widen (k := c65_322) (n := k65_323) (Nat.le_of_eq (FF.out ec65_322).symm) (Nat.le_of_eq (FF.out ek65_323).symm) (W.eq (g2 := F0 m 68 ls [.ref T65_310.root]) rfl ?_)
    have hP : va_P D vwCl ([] ++ (T65_310.cells Z0)) _ := va_Ppre (show va_P D vwCl (([] ++ (T65_310.cells Z0)) ++ ((T27_310.cells Z0))) _ from hP.perm (seg_perm (fun f => by have w0 := seg_sum (List.Perm.of_eq ep4_323) f; have w1 := seg_sum hp11_316 f; have w2 := seg_sum (List.Perm.of_eq ep11_324) f; have w3 := seg_sum (List.Perm.of_eq ep20_323) f; have w4 := seg_sum hp27_316 f; have w5 := seg_sum (List.Perm.of_eq ep27_324) f; have w6 := seg_sum (List.Perm.of_eq ep35_322) f; have w7 := seg_sum hp65_316 f; have w8 := seg_sum (List.Perm.of_eq ep65_324) f; simp only [ST.cells_leaf, ST.cells_minus, ST.cells_group, ST.cells_acc, ST.cells_two, FT.cells_two, FT.cells_inv, FT.cells_test, FT.cells_pair, List.map_append, List.sum_append, List.map_nil, List.sum_nil] at w0 w1 w2 w3 w4 w5 w6 w7 w8 ⊢ <;> omega)))
    have hD : va_D A ([] ++ (T65_310.cells Z0)) := va_Dpre (show va_D A (([] ++ (T65_310.cells Z0)) ++ ((T27_310.cells Z0))) from hD.perm (seg_perm (fun f => by have w0 := seg_sum (List.Perm.of_eq ep4_323) f; have w1 := seg_sum hp11_316 f; have w2 := seg_sum (List.Perm.of_eq ep11_324) f; have w3 := seg_sum (List.Perm.of_eq ep20_323) f; have w4 := seg_sum hp27_316 f; have w5 := seg_sum (List.Perm.of_eq ep27_324) f; have w6 := seg_sum (List.Perm.of_eq ep35_322) f; have w7 := seg_sum hp65_316 f; have w8 := seg_sum (List.Perm.of_eq ep65_324) f; simp only [ST.cells_leaf, ST.cells_minus, ST.cells_group, ST.cells_acc, ST.cells_two, FT.cells_two, FT.cells_inv, FT.cells_test, FT.cells_pair, List.map_append, List.sum_append, List.map_nil, List.sum_nil] at w0 w1 w2 w3 w4 w5 w6 w7 w8 ⊢ <;> omega)))
    exact et_r (SX := Unit) hQ hx hb hr hlocks dX16_hosts_68 (T65_310, c65_322, k65_323) ⟨rfl, hp65_315, (show ((c65_322 : Nat) : Int) ≤ 18 by have q0 := FF.out uc65_322; omega), (show ((k65_323 : Nat) : Int) ≤ 104 by have q0 := FF.out uk65_323; omega), (show ((T65_310.sz : Nat) : Int) ≤ 18 by have q0 := FF.out hp4_317; have q1 := FF.out hp11_320; have q2 := FF.out hp35_317; have q3 := FF.out hp65_320; omega), (show ((T65_310.dep : Nat) : Int) ≤ 1 by have q0 := FF.out hp4_318; have q1 := FF.out hp11_319; have q2 := FF.out hp35_318; have q3 := FF.out hp65_319; omega), (show ((T65_310.c4 : Nat) : Int) ≤ 2 by have q0 := FF.out hp4_319; have q1 := FF.out hp11_321; have q2 := FF.out hp35_319; have q3 := FF.out hp65_321; omega)⟩ hP hD hS [] (by decide) rfl (Nat.le_refl _) (Nat.le_refl _) (FF.out mc65_322) (FF.out mk65_323)
set_option maxHeartbeats 2000000 in
theorem c_X16_guard (l : Launch) (hst : l.stackTraces = false) (D : va_G) (ct : Nat → ClassId) (MC : Nat) (MS : Nat) (v0 : Int32) (hq0 : 16 ≤ ((MC : Nat) : Int)) (hq1 : 90 ≤ ((MS : Nat) : Int)) : KT (V := Nat) (S := FT × Nat × Nat) (SX := Unit) l yX16_guard cX16_guard 1 (some (.object "FilterForgeModel$Filter")) 6 112 D ct [.int v0] [] MC MS (fun r : Nat => some (.ref r)) (fun (r : Nat) (u : FT × Nat × Nat) => match u with | (T, kc, kn) => r = T.root ∧ T.ok ∧ (((kc : Nat) : Int) ≤ 16) ∧ (((kn : Nat) : Int) ≤ 90) ∧ (((T.sz : Nat) : Int) ≤ 16) ∧ (((T.dep : Nat) : Int) ≤ 1) ∧ (((T.c4 : Nat) : Int) ≤ 0)) (fun (u : FT × Nat × Nat) => match u with | (T, kc, kn) => [] ++ (T.cells Z0)) (fun (u : FT × Nat × Nat) => match u with | (T, kc, kn) => kc) (fun (u : FT × Nat × Nat) => match u with | (T, kc, kn) => kn) 15 RX15 peW (fun _ => False) (fun _ => []) := by
  refine KT_of (by decide) (Nat.le_of_ble_eq_true rfl) (fun p e s m below meth c A Q C0 htab hA H locs hS hP hD hQ ls hl => ?_)
  obtain ⟨hx, hb, hr, hown, hin, hml, hlocks, hn, hK, hZ, hSK⟩ := C0
  have hl : lv_has ls 1 [(0, .int v0)] := hl
  have hP : va_P D vwCl ([] ++ (([] : va_W))) H := by rw [List.append_nil]; exact hP
  have hD : va_D A ([] ++ (([] : va_W))) := by rw [List.append_nil]; exact hD
  replace hq0 := FF.mk hq0
  replace hq1 := FF.mk hq1
  refine lv_iload_n hx hb dX16_guard_0 rfl (lv_at hl 0 rfl) ?_
  refine lv_iconst (v := 1) hx hb dX16_guard_1 (by decide) ?_
  have b15 : ∀  (H : Heap) (locs : List Loc) (ls : Array Slot), lv_has ls 1 [(0, .int v0)] → va_P D vwCl ([] ++ (([] : va_W))) H → va_D A ([] ++ (([] : va_W))) → va_S A s.heap H locs → W p l e ({ frames := 6, cells := MC, slots := MS, locals := 112 }) s m [.int v0].toArray below meth c H locs 0 0 Q (F0 m 15 ls []) := by
    intro  H locs ls  hl hP hD hS
    refine lv_iload_n hx hb dX16_guard_15 rfl (lv_at hl 0 rfl) ?_
    refine lv_iconst (v := 1) hx hb dX16_guard_16 (by decide) ?_
    have b40 : ∀ (j40_s0 : Int64) (H : Heap) (locs : List Loc) (ls : Array Slot), (rl j40_s0 2048 34525) → lv_has ls 1 [] → va_P D vwCl ([] ++ (([] : va_W))) H → va_D A ([] ++ (([] : va_W))) → va_S A s.heap H locs → W p l e ({ frames := 6, cells := MC, slots := MS, locals := 112 }) s m [.int v0].toArray below meth c H locs 0 0 Q (F0 m 40 ls [.long j40_s0]) := by
      intro j40_s0 H locs ls r40_1001 hl hP hD hS
      obtain ⟨m40_1, gm40_1⟩ : ∃ m9 : Nat, m9 + 0 = MC := ⟨MC - 0, Nat.sub_add_cancel (Nat.zero_le MC)⟩
      have em40_1 := FF.mk gm40_1
      obtain ⟨m40_2, gm40_2⟩ : ∃ m9 : Nat, m9 + 0 = MS := ⟨MS - 0, Nat.sub_add_cancel (Nat.zero_le MS)⟩
      have em40_2 := FF.mk gm40_2
      refine gt_q (pl := (([] : va_W))) (wr := []) [] [] (rt_S (As := [.long j40_s0]) (rest := []) (c_X16_ether l hst D ct m40_1 m40_2 j40_s0 (show 4 ≤ ((m40_1 : Nat) : Int) by have q0 := FF.out hq0; have q1 := FF.out em40_1; omega) (show 22 ≤ ((m40_2 : Nat) : Int) by have q0 := FF.out hq1; have q1 := FF.out em40_2; omega) _) (cb_of (n := 1) hn mw_2132 mw_13 mw_2130 mhX16_ether ⟨(Nat.le_of_ble_eq_true rfl), (Nat.le_of_ble_eq_true rfl)⟩) hx hb hml hown hn hK hSK hZ hS mw_2131 rfl hl.1 (Nat.le_of_ble_eq_true rfl) dX16_guard_40 ⟨(Nat.le_of_eq ((Nat.add_comm _ _).trans gm40_1)), (Nat.le_of_eq ((Nat.add_comm _ _).trans gm40_2))⟩) hP hD hS hA rfl rfl (by decide) (by decide) (by decide) (fun xq40_6 ux40_7 xfs40_8 H locs hpx40_9 hpexfs40_8 hP hD hS => ?_) (fun r40_3 u40_4 H locs hp40_5 hP hD hS => ?_)
      · exact hpx40_9.elim
      obtain ⟨T40_310, kc40_311, kn40_312⟩ := u40_4
      obtain ⟨hp40_313, hp40_314, hp40_315, hp40_316, hp40_317, hp40_318, hp40_319⟩ := hp40_5
      subst hp40_313
      replace hp40_315 : FF (((kc40_311 : Nat) : Int) ≤ 4) := hp40_315
      replace hp40_316 : FF (((kn40_312 : Nat) : Int) ≤ 22) := hp40_316
      replace hp40_317 : FF (((T40_310.sz : Nat) : Int) ≤ 4) := hp40_317
      replace hp40_318 : FF (((T40_310.dep : Nat) : Int) ≤ 1) := hp40_318
      replace hp40_319 : FF (((T40_310.c4 : Nat) : Int) ≤ 0) := hp40_319
      obtain ⟨c40_320, ec40_320⟩ : ∃ x9 : Nat, x9 = 0 + kc40_311 := ⟨_, rfl⟩
      have ec40_320 := FF.mk ec40_320
      have mc40_320 : FF (c40_320 ≤ MC) := FF.mk (Int.ofNat_le.mp (show ((c40_320 : Nat) : Int) ≤ ((MC : Nat) : Int) by have q0 := FF.out hq0; have q1 := FF.out hp40_315; have q2 := FF.out ec40_320; omega))
      obtain ⟨k40_321, ek40_321⟩ : ∃ x9 : Nat, x9 = 0 + kn40_312 := ⟨_, rfl⟩
      have ek40_321 := FF.mk ek40_321
      have mk40_321 : FF (k40_321 ≤ MS) := FF.mk (Int.ofNat_le.mp (show ((k40_321 : Nat) : Int) ≤ ((MS : Nat) : Int) by have q0 := FF.out hq1; have q1 := FF.out hp40_316; have q2 := FF.out ek40_321; omega))
      have hP : va_P D vwCl (([] ++ (T40_310.cells Z0)) ++ (([] : va_W))) _ := hP
      have hD : va_D A (([] ++ (T40_310.cells Z0)) ++ (([] : va_W))) := hD
      have hP := pool_in hP
      have hD := pool_inD hD
      obtain ⟨p40_322, ep40_322⟩ : ∃ p9 : va_W, p9 = (([] : va_W) ++ (T40_310.cells Z0)) := ⟨_, rfl⟩
      rw [← ep40_322] at hP hD
      have hk40_323 : FF (0 ≤ ((T40_310.sz : Nat) : Int)) := Int.natCast_nonneg _
      have hk40_324 : FF (0 ≤ ((T40_310.dep : Nat) : Int)) := Int.natCast_nonneg _
      have hk40_325 : FF (0 ≤ ((T40_310.c4 : Nat) : Int)) := Int.natCast_nonneg _
      have hP : va_P D vwCl ([] ++ (p40_322)) _ := hP
      have hD : va_D A ([] ++ (p40_322)) := hD
      refine W.widen (k := c40_320) (n := k40_321) (Nat.le_of_eq (FF.out ec40_320).symm) (Nat.le_of_eq (FF.out ek40_321).symm) (W.eq (g2 := F0 m 43 ls [.ref T40_310.root]) rfl ?_)
      have hP : va_P D vwCl ([] ++ (T40_310.cells Z0)) _ := hP.perm (seg_perm (fun f => by have w0 := seg_sum (List.Perm.of_eq ep40_322) f; simp only [ST.cells_leaf, ST.cells_minus, ST.cells_group, ST.cells_acc, ST.cells_two, FT.cells_two, FT.cells_inv, FT.cells_test, FT.cells_pair, List.map_append, List.sum_append, List.map_nil, List.sum_nil] at w0 ⊢ <;> omega))
      have hD : va_D A ([] ++ (T40_310.cells Z0)) := hD.perm (seg_perm (fun f => by have w0 := seg_sum (List.Perm.of_eq ep40_322) f; simp only [ST.cells_leaf, ST.cells_minus, ST.cells_group, ST.cells_acc, ST.cells_two, FT.cells_two, FT.cells_inv, FT.cells_test, FT.cells_pair, List.map_append, List.sum_append, List.map_nil, List.sum_nil] at w0 ⊢ <;> omega))
      exact et_r (SX := Unit) hQ hx hb hr hlocks dX16_guard_43 (T40_310, c40_320, k40_321) ⟨rfl, hp40_314, (show ((c40_320 : Nat) : Int) ≤ 16 by have q0 := FF.out hp40_315; have q1 := FF.out ec40_320; omega), (show ((k40_321 : Nat) : Int) ≤ 90 by have q0 := FF.out hp40_316; have q1 := FF.out ek40_321; omega), (show ((T40_310.sz : Nat) : Int) ≤ 16 by have q0 := FF.out hp40_317; omega), (show ((T40_310.dep : Nat) : Int) ≤ 1 by have q0 := FF.out hp40_318; omega), (show ((T40_310.c4 : Nat) : Int) ≤ 0 by have q0 := FF.out hp40_319; omega)⟩ hP hD hS [] (by decide) rfl (Nat.le_refl _) (Nat.le_refl _) (FF.out mc40_320) (FF.out mk40_321)
    refine lv_icmp_ne (tgt := 26) hx hb dX16_guard_17 (by decide) (fun c17_1 => ?_) (fun c17_1 => ?_)
    · have t17_2 := FF.mk (i_ne c17_1)
      refine lv_iload_n hx hb dX16_guard_26 rfl (lv_at hl 0 rfl) ?_
      refine lv_iconst (v := 2) hx hb dX16_guard_27 (by decide) ?_
      refine lv_icmp_ne (tgt := 37) hx hb dX16_guard_28 (by decide) (fun c28_1 => ?_) (fun c28_1 => ?_)
      · have t28_2 := FF.mk (i_ne c28_1)
        refine lv_ldc2 (v := 2054) hx hb hown (hn.get mw_2129 rfl) dX16_guard_37 ?_
        exact b40 (2054 : Int64) H locs ls (rl_w (show rl (2054 : Int64) 2054 2054 from rl_l (by decide)) (by decide)) (lv_sub hl [] rfl) hP hD hS
      · have t28_2 := FF.mk (i_eq c28_1)
        have r28_3 : rg v0 2 2 := rg_eqA t28_2 (rg_any v0) (show rg (2 : Int32) 2 2 from rg_l (by decide)) (by decide)
        refine lv_ldc2 (v := 34525) hx hb hown (hn.get mw_2128 rfl) dX16_guard_31 ?_
        refine lv_goto (tgt := 40) hx hb dX16_guard_34 (by decide) ?_
        exact b40 (34525 : Int64) H locs ls (rl_w (show rl (34525 : Int64) 34525 34525 from rl_l (by decide)) (by decide)) (lv_sub hl [] rfl) hP hD hS
    · have t17_2 := FF.mk (i_eq c17_1)
      have r17_3 : rg v0 1 1 := rg_eqA t17_2 (rg_any v0) (show rg (1 : Int32) 1 1 from rg_l (by decide)) (by decide)
      refine lv_ldc2 (v := 2048) hx hb hown (hn.get mw_2127 rfl) dX16_guard_20 ?_
      refine lv_goto (tgt := 40) hx hb dX16_guard_23 (by decide) ?_
      exact b40 (2048 : Int64) H locs ls (rl_w (show rl (2048 : Int64) 2048 2048 from rl_l (by decide)) (by decide)) (lv_sub hl [] rfl) hP hD hS
  refine lv_icmp_eq (tgt := 15) hx hb dX16_guard_2 (by decide) (fun c2_1 => ?_) (fun c2_1 => ?_)
  · have t2_2 := FF.mk (i_eq c2_1)
    have r2_3 : rg v0 1 1 := rg_eqA t2_2 (rg_any v0) (show rg (1 : Int32) 1 1 from rg_l (by decide)) (by decide)
    exact b15  H locs ls  (lv_sub hl [0] rfl) hP hD hS
  · have t2_2 := FF.mk (i_ne c2_1)
    refine lv_iload_n hx hb dX16_guard_5 rfl (lv_at hl 0 rfl) ?_
    refine lv_iconst (v := 2) hx hb dX16_guard_6 (by decide) ?_
    refine lv_icmp_eq (tgt := 15) hx hb dX16_guard_7 (by decide) (fun c7_1 => ?_) (fun c7_1 => ?_)
    · have t7_2 := FF.mk (i_eq c7_1)
      have r7_3 : rg v0 2 2 := rg_eqA t7_2 (rg_any v0) (show rg (2 : Int32) 2 2 from rg_l (by decide)) (by decide)
      exact b15  H locs ls  (lv_sub hl [0] rfl) hP hD hS
    · have t7_2 := FF.mk (i_ne c7_1)
      refine lv_iload_n hx hb dX16_guard_10 rfl (lv_at hl 0 rfl) ?_
      refine lv_iconst (v := 3) hx hb dX16_guard_11 (by decide) ?_
      refine lv_icmp_ne (tgt := 44) hx hb dX16_guard_12 (by decide) (fun c12_1 => ?_) (fun c12_1 => ?_)
      · have t12_2 := FF.mk (i_ne c12_1)
        refine lv_ldc2 (v := 2048) hx hb hown (hn.get mw_2127 rfl) dX16_guard_44 ?_
        obtain ⟨m47_1, gm47_1⟩ : ∃ m9 : Nat, m9 + 0 = MC := ⟨MC - 0, Nat.sub_add_cancel (Nat.zero_le MC)⟩
        have em47_1 := FF.mk gm47_1
        obtain ⟨m47_2, gm47_2⟩ : ∃ m9 : Nat, m9 + 0 = MS := ⟨MS - 0, Nat.sub_add_cancel (Nat.zero_le MS)⟩
        have em47_2 := FF.mk gm47_2
        refine gt_q (pl := (([] : va_W))) (wr := []) [] [] (rt_S (As := [.long 2048]) (rest := []) (c_X16_ether l hst D ct m47_1 m47_2 (2048 : Int64) (show 4 ≤ ((m47_1 : Nat) : Int) by have q0 := FF.out hq0; have q1 := FF.out em47_1; omega) (show 22 ≤ ((m47_2 : Nat) : Int) by have q0 := FF.out hq1; have q1 := FF.out em47_2; omega) _) (cb_of (n := 1) hn mw_2132 mw_13 mw_2130 mhX16_ether ⟨(Nat.le_of_ble_eq_true rfl), (Nat.le_of_ble_eq_true rfl)⟩) hx hb hml hown hn hK hSK hZ hS mw_2131 rfl hl.1 (Nat.le_of_ble_eq_true rfl) dX16_guard_47 ⟨(Nat.le_of_eq ((Nat.add_comm _ _).trans gm47_1)), (Nat.le_of_eq ((Nat.add_comm _ _).trans gm47_2))⟩) hP hD hS hA rfl rfl (by decide) (by decide) (by decide) (fun xq47_6 ux47_7 xfs47_8 H locs hpx47_9 hpexfs47_8 hP hD hS => ?_) (fun r47_3 u47_4 H locs hp47_5 hP hD hS => ?_)
        · exact hpx47_9.elim
        obtain ⟨T47_310, kc47_311, kn47_312⟩ := u47_4
        obtain ⟨hp47_313, hp47_314, hp47_315, hp47_316, hp47_317, hp47_318, hp47_319⟩ := hp47_5
        subst hp47_313
        replace hp47_315 : FF (((kc47_311 : Nat) : Int) ≤ 4) := hp47_315
        replace hp47_316 : FF (((kn47_312 : Nat) : Int) ≤ 22) := hp47_316
        replace hp47_317 : FF (((T47_310.sz : Nat) : Int) ≤ 4) := hp47_317
        replace hp47_318 : FF (((T47_310.dep : Nat) : Int) ≤ 1) := hp47_318
        replace hp47_319 : FF (((T47_310.c4 : Nat) : Int) ≤ 0) := hp47_319
        obtain ⟨c47_320, ec47_320⟩ : ∃ x9 : Nat, x9 = 0 + kc47_311 := ⟨_, rfl⟩
        have ec47_320 := FF.mk ec47_320
        have uc47_320 : FF (((c47_320 : Nat) : Int) ≤ 4) := FF.mk (show ((c47_320 : Nat) : Int) ≤ 4 by have q0 := FF.out hp47_315; have q1 := FF.out ec47_320; omega)
        have mc47_320 : FF (c47_320 ≤ MC) := FF.mk (Int.ofNat_le.mp (show ((c47_320 : Nat) : Int) ≤ ((MC : Nat) : Int) by have q0 := FF.out hq0; have q1 := FF.out uc47_320; omega))
        obtain ⟨k47_321, ek47_321⟩ : ∃ x9 : Nat, x9 = 0 + kn47_312 := ⟨_, rfl⟩
        have ek47_321 := FF.mk ek47_321
        have uk47_321 : FF (((k47_321 : Nat) : Int) ≤ 22) := FF.mk (show ((k47_321 : Nat) : Int) ≤ 22 by have q0 := FF.out hp47_316; have q1 := FF.out ek47_321; omega)
        have mk47_321 : FF (k47_321 ≤ MS) := FF.mk (Int.ofNat_le.mp (show ((k47_321 : Nat) : Int) ≤ ((MS : Nat) : Int) by have q0 := FF.out hq1; have q1 := FF.out uk47_321; omega))
        have hP : va_P D vwCl (([] ++ (T47_310.cells Z0)) ++ (([] : va_W))) _ := hP
        have hD : va_D A (([] ++ (T47_310.cells Z0)) ++ (([] : va_W))) := hD
        have hP := pool_in hP
        have hD := pool_inD hD
        obtain ⟨p47_322, ep47_322⟩ : ∃ p9 : va_W, p9 = (([] : va_W) ++ (T47_310.cells Z0)) := ⟨_, rfl⟩
        rw [← ep47_322] at hP hD
        have hk47_323 : FF (0 ≤ ((T47_310.sz : Nat) : Int)) := Int.natCast_nonneg _
        have hk47_324 : FF (0 ≤ ((T47_310.dep : Nat) : Int)) := Int.natCast_nonneg _
        have hk47_325 : FF (0 ≤ ((T47_310.c4 : Nat) : Int)) := Int.natCast_nonneg _
        have hP : va_P D vwCl ([] ++ (p47_322)) _ := hP
        have hD : va_D A ([] ++ (p47_322)) := hD
        refine W.widen (k := c47_320) (n := k47_321) (Nat.le_of_eq (FF.out ec47_320).symm) (Nat.le_of_eq (FF.out ek47_321).symm) (W.eq (g2 := F0 m 50 ls [.ref T47_310.root]) rfl ?_)
        refine lv_ldc2 (v := 23) hx hb hown (hn.get mw_2140 rfl) dX16_guard_50 ?_
        refine lv_iload_n hx hb dX16_guard_53 rfl (lv_at hl 0 rfl) ?_
        refine lv_iconst (v := 4) hx hb dX16_guard_54 (by decide) ?_
        have b76 : ∀ (j76_s0 : Int64) (H : Heap) (locs : List Loc) (ls : Array Slot), (rl j76_s0 1 17) → lv_has ls 1 [] → va_P D vwCl ([] ++ ((T47_310.cells Z0))) H → va_D A ([] ++ ((T47_310.cells Z0))) → va_S A s.heap H locs → W p l e ({ frames := 6, cells := MC, slots := MS, locals := 112 }) s m [.int v0].toArray below meth c H locs c47_320 k47_321 Q (F0 m 76 ls [.long j76_s0, .long 23, .ref T47_310.root]) := by
          intro j76_s0 H locs ls r76_1001 hl hP hD hS
          obtain ⟨m76_1, gm76_1⟩ : ∃ m9 : Nat, m9 + c47_320 = MC := ⟨MC - c47_320, Nat.sub_add_cancel (FF.out mc47_320)⟩
          have em76_1 := FF.mk gm76_1
          obtain ⟨m76_2, gm76_2⟩ : ∃ m9 : Nat, m9 + k47_321 = MS := ⟨MS - k47_321, Nat.sub_add_cancel (FF.out mk47_321)⟩
          have em76_2 := FF.mk gm76_2
          refine gt_q (pl := ((T47_310.cells Z0))) (wr := []) [] [] (rt_S (As := [.long 23, .long j76_s0]) (rest := [.ref T47_310.root]) (c_X16_byteIs l hst D ct m76_1 m76_2 (23 : Int64) j76_s0 (show 4 ≤ ((m76_1 : Nat) : Int) by have q0 := FF.out hq0; have q1 := FF.out uc47_320; have q2 := FF.out em76_1; omega) (show 22 ≤ ((m76_2 : Nat) : Int) by have q0 := FF.out hq1; have q1 := FF.out uk47_321; have q2 := FF.out em76_2; omega) _) (cb_of (n := 2) hn mw_2145 mw_13 mw_2143 mhX16_byteIs ⟨(Nat.le_of_ble_eq_true rfl), (Nat.le_of_ble_eq_true rfl)⟩) hx hb hml hown hn hK hSK hZ hS mw_2144 rfl hl.1 (Nat.le_of_ble_eq_true rfl) dX16_guard_76 ⟨(Nat.le_of_eq ((Nat.add_comm _ _).trans gm76_1)), (Nat.le_of_eq ((Nat.add_comm _ _).trans gm76_2))⟩) hP hD hS hA rfl rfl (by decide) (by decide) (by decide) (fun xq76_6 ux76_7 xfs76_8 H locs hpx76_9 hpexfs76_8 hP hD hS => ?_) (fun r76_3 u76_4 H locs hp76_5 hP hD hS => ?_)
          · exact hpx76_9.elim
          obtain ⟨T76_310, kc76_311, kn76_312⟩ := u76_4
          obtain ⟨hp76_313, hp76_314, hp76_315, hp76_316, hp76_317, hp76_318, hp76_319⟩ := hp76_5
          subst hp76_313
          replace hp76_315 : FF (((kc76_311 : Nat) : Int) ≤ 4) := hp76_315
          replace hp76_316 : FF (((kn76_312 : Nat) : Int) ≤ 22) := hp76_316
          replace hp76_317 : FF (((T76_310.sz : Nat) : Int) ≤ 4) := hp76_317
          replace hp76_318 : FF (((T76_310.dep : Nat) : Int) ≤ 1) := hp76_318
          replace hp76_319 : FF (((T76_310.c4 : Nat) : Int) ≤ 0) := hp76_319
          obtain ⟨c76_320, ec76_320⟩ : ∃ x9 : Nat, x9 = c47_320 + kc76_311 := ⟨_, rfl⟩
          have ec76_320 := FF.mk ec76_320
          have mc76_320 : FF (c76_320 ≤ MC) := FF.mk (Int.ofNat_le.mp (show ((c76_320 : Nat) : Int) ≤ ((MC : Nat) : Int) by have q0 := FF.out hq0; have q1 := FF.out uc47_320; have q2 := FF.out hp76_315; have q3 := FF.out ec76_320; omega))
          obtain ⟨k76_321, ek76_321⟩ : ∃ x9 : Nat, x9 = k47_321 + kn76_312 := ⟨_, rfl⟩
          have ek76_321 := FF.mk ek76_321
          have mk76_321 : FF (k76_321 ≤ MS) := FF.mk (Int.ofNat_le.mp (show ((k76_321 : Nat) : Int) ≤ ((MS : Nat) : Int) by have q0 := FF.out hq1; have q1 := FF.out uk47_321; have q2 := FF.out hp76_316; have q3 := FF.out ek76_321; omega))
          have hP : va_P D vwCl (([] ++ (T76_310.cells Z0)) ++ ((T47_310.cells Z0))) _ := hP
          have hD : va_D A (([] ++ (T76_310.cells Z0)) ++ ((T47_310.cells Z0))) := hD
          have hP := pool_in hP
          have hD := pool_inD hD
          obtain ⟨p76_322, ep76_322⟩ : ∃ p9 : va_W, p9 = ((T47_310.cells Z0) ++ (T76_310.cells Z0)) := ⟨_, rfl⟩
          rw [← ep76_322] at hP hD
          have hk76_323 : FF (0 ≤ ((T76_310.sz : Nat) : Int)) := Int.natCast_nonneg _
          have hk76_324 : FF (0 ≤ ((T76_310.dep : Nat) : Int)) := Int.natCast_nonneg _
          have hk76_325 : FF (0 ≤ ((T76_310.c4 : Nat) : Int)) := Int.natCast_nonneg _
          have hP : va_P D vwCl ([] ++ (p76_322)) _ := hP
          have hD : va_D A ([] ++ (p76_322)) := hD
          refine W.widen (k := c76_320) (n := k76_321) (Nat.le_of_eq (FF.out ec76_320).symm) (Nat.le_of_eq (FF.out ek76_321).symm) (W.eq (g2 := F0 m 79 ls [.ref T76_310.root, .ref T47_310.root]) rfl ?_)
          obtain ⟨m79_1, gm79_1⟩ : ∃ m9 : Nat, m9 + c76_320 = MC := ⟨MC - c76_320, Nat.sub_add_cancel (FF.out mc76_320)⟩
          have em79_1 := FF.mk gm79_1
          obtain ⟨m79_2, gm79_2⟩ : ∃ m9 : Nat, m9 + k76_321 = MS := ⟨MS - k76_321, Nat.sub_add_cancel (FF.out mk76_321)⟩
          have em79_2 := FF.mk gm79_2
          refine gt_q (pl := (p76_322)) (wr := []) [] [] (rt_S (As := []) (rest := [.ref T76_310.root, .ref T47_310.root]) (c_X16_noFragment l hst D ct m79_1 m79_2 (show 6 ≤ ((m79_1 : Nat) : Int) by have q0 := FF.out hq0; have q1 := FF.out uc47_320; have q2 := FF.out hp76_315; have q3 := FF.out ec76_320; have q4 := FF.out em79_1; omega) (show 32 ≤ ((m79_2 : Nat) : Int) by have q0 := FF.out hq1; have q1 := FF.out uk47_321; have q2 := FF.out hp76_316; have q3 := FF.out ek76_321; have q4 := FF.out em79_2; omega) _) (cb_of (n := 0) hn mw_2148 mw_13 mw_2146 mhX16_noFragment ⟨(Nat.le_of_ble_eq_true rfl), (Nat.le_of_ble_eq_true rfl)⟩) hx hb hml hown hn hK hSK hZ hS mw_2147 rfl hl.1 (Nat.le_of_ble_eq_true rfl) dX16_guard_79 ⟨(Nat.le_of_eq ((Nat.add_comm _ _).trans gm79_1)), (Nat.le_of_eq ((Nat.add_comm _ _).trans gm79_2))⟩) hP hD hS hA rfl rfl (by decide) (by decide) (by decide) (fun xq79_6 ux79_7 xfs79_8 H locs hpx79_9 hpexfs79_8 hP hD hS => ?_) (fun r79_3 u79_4 H locs hp79_5 hP hD hS => ?_)
          · exact hpx79_9.elim
          obtain ⟨T79_310, kc79_311, kn79_312⟩ := u79_4
          obtain ⟨hp79_313, hp79_314, hp79_315, hp79_316, hp79_317, hp79_318, hp79_319⟩ := hp79_5
          subst hp79_313
          replace hp79_315 : FF (((kc79_311 : Nat) : Int) ≤ 6) := hp79_315
          replace hp79_316 : FF (((kn79_312 : Nat) : Int) ≤ 32) := hp79_316
          replace hp79_317 : FF (((T79_310.sz : Nat) : Int) ≤ 6) := hp79_317
          replace hp79_318 : FF (((T79_310.dep : Nat) : Int) ≤ 1) := hp79_318
          replace hp79_319 : FF (((T79_310.c4 : Nat) : Int) ≤ 0) := hp79_319
          obtain ⟨c79_320, ec79_320⟩ : ∃ x9 : Nat, x9 = c76_320 + kc79_311 := ⟨_, rfl⟩
          have ec79_320 := FF.mk ec79_320
          have mc79_320 : FF (c79_320 ≤ MC) := FF.mk (Int.ofNat_le.mp (show ((c79_320 : Nat) : Int) ≤ ((MC : Nat) : Int) by have q0 := FF.out hq0; have q1 := FF.out uc47_320; have q2 := FF.out hp76_315; have q3 := FF.out ec76_320; have q4 := FF.out hp79_315; have q5 := FF.out ec79_320; omega))
          obtain ⟨k79_321, ek79_321⟩ : ∃ x9 : Nat, x9 = k76_321 + kn79_312 := ⟨_, rfl⟩
          have ek79_321 := FF.mk ek79_321
          have mk79_321 : FF (k79_321 ≤ MS) := FF.mk (Int.ofNat_le.mp (show ((k79_321 : Nat) : Int) ≤ ((MS : Nat) : Int) by have q0 := FF.out hq1; have q1 := FF.out uk47_321; have q2 := FF.out hp76_316; have q3 := FF.out ek76_321; have q4 := FF.out hp79_316; have q5 := FF.out ek79_321; omega))
          have hP : va_P D vwCl (([] ++ (T79_310.cells Z0)) ++ (p76_322)) _ := hP
          have hD : va_D A (([] ++ (T79_310.cells Z0)) ++ (p76_322)) := hD
          have hP := pool_in hP
          have hD := pool_inD hD
          obtain ⟨p79_322, ep79_322⟩ : ∃ p9 : va_W, p9 = (p76_322 ++ (T79_310.cells Z0)) := ⟨_, rfl⟩
          rw [← ep79_322] at hP hD
          have hk79_323 : FF (0 ≤ ((T79_310.sz : Nat) : Int)) := Int.natCast_nonneg _
          have hk79_324 : FF (0 ≤ ((T79_310.dep : Nat) : Int)) := Int.natCast_nonneg _
          have hk79_325 : FF (0 ≤ ((T79_310.c4 : Nat) : Int)) := Int.natCast_nonneg _
          have hP : va_P D vwCl ([] ++ (p79_322)) _ := hP
          have hD : va_D A ([] ++ (p79_322)) := hD
          refine W.widen (k := c79_320) (n := k79_321) (Nat.le_of_eq (FF.out ec79_320).symm) (Nat.le_of_eq (FF.out ek79_321).symm) (W.eq (g2 := F0 m 82 ls [.ref T79_310.root, .ref T76_310.root, .ref T47_310.root]) rfl ?_)
          obtain ⟨m82_1, gm82_1⟩ : ∃ m9 : Nat, m9 + c79_320 = MC := ⟨MC - c79_320, Nat.sub_add_cancel (FF.out mc79_320)⟩
          have em82_1 := FF.mk gm82_1
          obtain ⟨m82_2, gm82_2⟩ : ∃ m9 : Nat, m9 + k79_321 = MS := ⟨MS - k79_321, Nat.sub_add_cancel (FF.out mk79_321)⟩
          have em82_2 := FF.mk gm82_2
          refine gt_q (pl := (p79_322)) (wr := []) [] [] (rt_S (As := [.ref T76_310.root, .ref T79_310.root]) (rest := [.ref T47_310.root]) (c_X16_and_e l hst D ct m82_1 m82_2 T76_310 T79_310 hp76_314 hp79_314 (show 1 ≤ ((m82_1 : Nat) : Int) by have q0 := FF.out hq0; have q1 := FF.out uc47_320; have q2 := FF.out hp76_315; have q3 := FF.out ec76_320; have q4 := FF.out hp79_315; have q5 := FF.out ec79_320; have q6 := FF.out em82_1; omega) (show 7 ≤ ((m82_2 : Nat) : Int) by have q0 := FF.out hq1; have q1 := FF.out uk47_321; have q2 := FF.out hp76_316; have q3 := FF.out ek76_321; have q4 := FF.out hp79_316; have q5 := FF.out ek79_321; have q6 := FF.out em82_2; omega) _) (cb_of (n := 2) hn mw_2154 mw_13 mw_2152 mhX16_and ⟨(Nat.le_of_ble_eq_true rfl), (Nat.le_of_ble_eq_true rfl)⟩) hx hb hml hown hn hK hSK hZ hS mw_2153 rfl hl.1 (Nat.le_of_ble_eq_true rfl) dX16_guard_82 ⟨(Nat.le_of_eq ((Nat.add_comm _ _).trans gm82_1)), (Nat.le_of_eq ((Nat.add_comm _ _).trans gm82_2))⟩) hP hD hS hA rfl rfl (by decide) (by decide) (by decide) (fun xq82_6 ux82_7 xfs82_8 H locs hpx82_9 hpexfs82_8 hP hD hS => ?_) (fun r82_3 u82_4 H locs hp82_5 hP hD hS => ?_)
          · exact hpx82_9.elim
          obtain ⟨T82_310, nw82_311, kc82_312, kn82_313⟩ := u82_4
          obtain ⟨hp82_314, hp82_315, hp82_316, hp82_317, hp82_318, hp82_319, hp82_320, hp82_321⟩ := hp82_5
          subst hp82_314
          replace hp82_317 : FF (((kc82_312 : Nat) : Int) ≤ 1) := hp82_317
          replace hp82_318 : FF (((kn82_313 : Nat) : Int) ≤ 7) := hp82_318
          replace hp82_319 : FF (((T82_310.dep : Nat) : Int) ≤ ((T76_310.dep : Nat) : Int) ∨ ((T82_310.dep : Nat) : Int) ≤ ((T79_310.dep : Nat) : Int)) := hp82_319
          replace hp82_320 : FF (((T82_310.sz : Nat) : Int) = ((T76_310.sz : Nat) : Int) + ((T79_310.sz : Nat) : Int) + 1) := hp82_320
          replace hp82_321 : FF (((T82_310.c4 : Nat) : Int) = ((T76_310.c4 : Nat) : Int) + ((T79_310.c4 : Nat) : Int)) := hp82_321
          obtain ⟨c82_322, ec82_322⟩ : ∃ x9 : Nat, x9 = c79_320 + kc82_312 := ⟨_, rfl⟩
          have ec82_322 := FF.mk ec82_322
          have mc82_322 : FF (c82_322 ≤ MC) := FF.mk (Int.ofNat_le.mp (show ((c82_322 : Nat) : Int) ≤ ((MC : Nat) : Int) by have q0 := FF.out hq0; have q1 := FF.out uc47_320; have q2 := FF.out hp76_315; have q3 := FF.out ec76_320; have q4 := FF.out hp79_315; have q5 := FF.out ec79_320; have q6 := FF.out hp82_317; have q7 := FF.out ec82_322; omega))
          obtain ⟨k82_323, ek82_323⟩ : ∃ x9 : Nat, x9 = k79_321 + kn82_313 := ⟨_, rfl⟩
          have ek82_323 := FF.mk ek82_323
          have mk82_323 : FF (k82_323 ≤ MS) := FF.mk (Int.ofNat_le.mp (show ((k82_323 : Nat) : Int) ≤ ((MS : Nat) : Int) by have q0 := FF.out hq1; have q1 := FF.out uk47_321; have q2 := FF.out hp76_316; have q3 := FF.out ek76_321; have q4 := FF.out hp79_316; have q5 := FF.out ek79_321; have q6 := FF.out hp82_318; have q7 := FF.out ek82_323; omega))
          have hP : va_P D vwCl (([] ++ nw82_311) ++ (p79_322)) _ := hP
          have hD : va_D A (([] ++ nw82_311) ++ (p79_322)) := hD
          have hP := pool_in hP
          have hD := pool_inD hD
          obtain ⟨p82_324, ep82_324⟩ : ∃ p9 : va_W, p9 = (p79_322 ++ nw82_311) := ⟨_, rfl⟩
          rw [← ep82_324] at hP hD
          have hk82_325 : FF (0 ≤ ((T82_310.sz : Nat) : Int)) := Int.natCast_nonneg _
          have hk82_326 : FF (0 ≤ ((T82_310.dep : Nat) : Int)) := Int.natCast_nonneg _
          have hk82_327 : FF (0 ≤ ((T82_310.c4 : Nat) : Int)) := Int.natCast_nonneg _
          have hP : va_P D vwCl ([] ++ (p82_324)) _ := hP
          have hD : va_D A ([] ++ (p82_324)) := hD
          refine W.widen (k := c82_322) (n := k82_323) (Nat.le_of_eq (FF.out ec82_322).symm) (Nat.le_of_eq (FF.out ek82_323).symm) (W.eq (g2 := F0 m 85 ls [.ref T82_310.root, .ref T47_310.root]) rfl ?_)
          obtain ⟨m85_1, gm85_1⟩ : ∃ m9 : Nat, m9 + c82_322 = MC := ⟨MC - c82_322, Nat.sub_add_cancel (FF.out mc82_322)⟩
          have em85_1 := FF.mk gm85_1
          obtain ⟨m85_2, gm85_2⟩ : ∃ m9 : Nat, m9 + k82_323 = MS := ⟨MS - k82_323, Nat.sub_add_cancel (FF.out mk82_323)⟩
          have em85_2 := FF.mk gm85_2
          refine gt_q (pl := (p82_324)) (wr := []) [] [] (rt_S (As := [.ref T47_310.root, .ref T82_310.root]) (rest := []) (c_X16_and_e l hst D ct m85_1 m85_2 T47_310 T82_310 hp47_314 hp82_315 (show 1 ≤ ((m85_1 : Nat) : Int) by have q0 := FF.out hq0; have q1 := FF.out uc47_320; have q2 := FF.out hp76_315; have q3 := FF.out ec76_320; have q4 := FF.out hp79_315; have q5 := FF.out ec79_320; have q6 := FF.out hp82_317; have q7 := FF.out ec82_322; have q8 := FF.out em85_1; omega) (show 7 ≤ ((m85_2 : Nat) : Int) by have q0 := FF.out hq1; have q1 := FF.out uk47_321; have q2 := FF.out hp76_316; have q3 := FF.out ek76_321; have q4 := FF.out hp79_316; have q5 := FF.out ek79_321; have q6 := FF.out hp82_318; have q7 := FF.out ek82_323; have q8 := FF.out em85_2; omega) _) (cb_of (n := 2) hn mw_2154 mw_13 mw_2152 mhX16_and ⟨(Nat.le_of_ble_eq_true rfl), (Nat.le_of_ble_eq_true rfl)⟩) hx hb hml hown hn hK hSK hZ hS mw_2153 rfl hl.1 (Nat.le_of_ble_eq_true rfl) dX16_guard_85 ⟨(Nat.le_of_eq ((Nat.add_comm _ _).trans gm85_1)), (Nat.le_of_eq ((Nat.add_comm _ _).trans gm85_2))⟩) hP hD hS hA rfl rfl (by decide) (by decide) (by decide) (fun xq85_6 ux85_7 xfs85_8 H locs hpx85_9 hpexfs85_8 hP hD hS => ?_) (fun r85_3 u85_4 H locs hp85_5 hP hD hS => ?_)
          · exact hpx85_9.elim
          obtain ⟨T85_310, nw85_311, kc85_312, kn85_313⟩ := u85_4
          obtain ⟨hp85_314, hp85_315, hp85_316, hp85_317, hp85_318, hp85_319, hp85_320, hp85_321⟩ := hp85_5
          subst hp85_314
          replace hp85_317 : FF (((kc85_312 : Nat) : Int) ≤ 1) := hp85_317
          replace hp85_318 : FF (((kn85_313 : Nat) : Int) ≤ 7) := hp85_318
          replace hp85_319 : FF (((T85_310.dep : Nat) : Int) ≤ ((T47_310.dep : Nat) : Int) ∨ ((T85_310.dep : Nat) : Int) ≤ ((T82_310.dep : Nat) : Int)) := hp85_319
          replace hp85_320 : FF (((T85_310.sz : Nat) : Int) = ((T47_310.sz : Nat) : Int) + ((T82_310.sz : Nat) : Int) + 1) := hp85_320
          replace hp85_321 : FF (((T85_310.c4 : Nat) : Int) = ((T47_310.c4 : Nat) : Int) + ((T82_310.c4 : Nat) : Int)) := hp85_321
          obtain ⟨c85_322, ec85_322⟩ : ∃ x9 : Nat, x9 = c82_322 + kc85_312 := ⟨_, rfl⟩
          have ec85_322 := FF.mk ec85_322
          have mc85_322 : FF (c85_322 ≤ MC) := FF.mk (Int.ofNat_le.mp (show ((c85_322 : Nat) : Int) ≤ ((MC : Nat) : Int) by have q0 := FF.out hq0; have q1 := FF.out uc47_320; have q2 := FF.out hp76_315; have q3 := FF.out ec76_320; have q4 := FF.out hp79_315; have q5 := FF.out ec79_320; have q6 := FF.out hp82_317; have q7 := FF.out ec82_322; have q8 := FF.out hp85_317; have q9 := FF.out ec85_322; omega))
          obtain ⟨k85_323, ek85_323⟩ : ∃ x9 : Nat, x9 = k82_323 + kn85_313 := ⟨_, rfl⟩
          have ek85_323 := FF.mk ek85_323
          have mk85_323 : FF (k85_323 ≤ MS) := FF.mk (Int.ofNat_le.mp (show ((k85_323 : Nat) : Int) ≤ ((MS : Nat) : Int) by have q0 := FF.out hq1; have q1 := FF.out uk47_321; have q2 := FF.out hp76_316; have q3 := FF.out ek76_321; have q4 := FF.out hp79_316; have q5 := FF.out ek79_321; have q6 := FF.out hp82_318; have q7 := FF.out ek82_323; have q8 := FF.out hp85_318; have q9 := FF.out ek85_323; omega))
          have hP : va_P D vwCl (([] ++ nw85_311) ++ (p82_324)) _ := hP
          have hD : va_D A (([] ++ nw85_311) ++ (p82_324)) := hD
          have hP := pool_in hP
          have hD := pool_inD hD
          obtain ⟨p85_324, ep85_324⟩ : ∃ p9 : va_W, p9 = (p82_324 ++ nw85_311) := ⟨_, rfl⟩
          rw [← ep85_324] at hP hD
          have hk85_325 : FF (0 ≤ ((T85_310.sz : Nat) : Int)) := Int.natCast_nonneg _
          have hk85_326 : FF (0 ≤ ((T85_310.dep : Nat) : Int)) := Int.natCast_nonneg _
          have hk85_327 : FF (0 ≤ ((T85_310.c4 : Nat) : Int)) := Int.natCast_nonneg _
          have hP : va_P D vwCl ([] ++ (p85_324)) _ := hP
          have hD : va_D A ([] ++ (p85_324)) := hD
          refine W.widen (k := c85_322) (n := k85_323) (Nat.le_of_eq (FF.out ec85_322).symm) (Nat.le_of_eq (FF.out ek85_323).symm) (W.eq (g2 := F0 m 88 ls [.ref T85_310.root]) rfl ?_)
          have hP : va_P D vwCl ([] ++ (T85_310.cells Z0)) _ := hP.perm (seg_perm (fun f => by have w0 := seg_sum (List.Perm.of_eq ep76_322) f; have w1 := seg_sum (List.Perm.of_eq ep79_322) f; have w2 := seg_sum hp82_316 f; have w3 := seg_sum (List.Perm.of_eq ep82_324) f; have w4 := seg_sum hp85_316 f; have w5 := seg_sum (List.Perm.of_eq ep85_324) f; simp only [ST.cells_leaf, ST.cells_minus, ST.cells_group, ST.cells_acc, ST.cells_two, FT.cells_two, FT.cells_inv, FT.cells_test, FT.cells_pair, List.map_append, List.sum_append, List.map_nil, List.sum_nil] at w0 w1 w2 w3 w4 w5 ⊢ <;> omega))
          have hD : va_D A ([] ++ (T85_310.cells Z0)) := hD.perm (seg_perm (fun f => by have w0 := seg_sum (List.Perm.of_eq ep76_322) f; have w1 := seg_sum (List.Perm.of_eq ep79_322) f; have w2 := seg_sum hp82_316 f; have w3 := seg_sum (List.Perm.of_eq ep82_324) f; have w4 := seg_sum hp85_316 f; have w5 := seg_sum (List.Perm.of_eq ep85_324) f; simp only [ST.cells_leaf, ST.cells_minus, ST.cells_group, ST.cells_acc, ST.cells_two, FT.cells_two, FT.cells_inv, FT.cells_test, FT.cells_pair, List.map_append, List.sum_append, List.map_nil, List.sum_nil] at w0 w1 w2 w3 w4 w5 ⊢ <;> omega))
          exact et_r (SX := Unit) hQ hx hb hr hlocks dX16_guard_88 (T85_310, c85_322, k85_323) ⟨rfl, hp85_315, (show ((c85_322 : Nat) : Int) ≤ 16 by have q0 := FF.out uc47_320; have q1 := FF.out hp76_315; have q2 := FF.out ec76_320; have q3 := FF.out hp79_315; have q4 := FF.out ec79_320; have q5 := FF.out hp82_317; have q6 := FF.out ec82_322; have q7 := FF.out hp85_317; have q8 := FF.out ec85_322; omega), (show ((k85_323 : Nat) : Int) ≤ 90 by have q0 := FF.out uk47_321; have q1 := FF.out hp76_316; have q2 := FF.out ek76_321; have q3 := FF.out hp79_316; have q4 := FF.out ek79_321; have q5 := FF.out hp82_318; have q6 := FF.out ek82_323; have q7 := FF.out hp85_318; have q8 := FF.out ek85_323; omega), (show ((T85_310.sz : Nat) : Int) ≤ 16 by have q0 := FF.out hp47_317; have q1 := FF.out hp76_317; have q2 := FF.out hp79_317; have q3 := FF.out hp82_320; have q4 := FF.out hp85_320; omega), (show ((T85_310.dep : Nat) : Int) ≤ 1 by have q0 := FF.out hp47_318; have q1 := FF.out hp76_318; have q2 := FF.out hp79_318; have q3 := FF.out hp82_319; have q4 := FF.out hp85_319; omega), (show ((T85_310.c4 : Nat) : Int) ≤ 0 by have q0 := FF.out hp47_319; have q1 := FF.out hp76_319; have q2 := FF.out hp79_319; have q3 := FF.out hp82_321; have q4 := FF.out hp85_321; omega)⟩ hP hD hS [] (by decide) rfl (Nat.le_refl _) (Nat.le_refl _) (FF.out mc85_322) (FF.out mk85_323)
        refine lv_icmp_ne (tgt := 64) hx hb dX16_guard_55 (by decide) (fun c55_1 => ?_) (fun c55_1 => ?_)
        · have t55_2 := FF.mk (i_ne c55_1)
          refine lv_iload_n hx hb dX16_guard_64 rfl (lv_at hl 0 rfl) ?_
          refine lv_iconst (v := 5) hx hb dX16_guard_65 (by decide) ?_
          refine lv_icmp_ne (tgt := 75) hx hb dX16_guard_66 (by decide) (fun c66_1 => ?_) (fun c66_1 => ?_)
          · have t66_2 := FF.mk (i_ne c66_1)
            refine lv_lconst (v := 1) hx hb dX16_guard_75 (by decide) ?_
            have hP : va_P D vwCl ([] ++ ((T47_310.cells Z0))) _ := hP.perm (seg_perm (fun f => by have w0 := seg_sum (List.Perm.of_eq ep47_322) f; simp only [ST.cells_leaf, ST.cells_minus, ST.cells_group, ST.cells_acc, ST.cells_two, FT.cells_two, FT.cells_inv, FT.cells_test, FT.cells_pair, List.map_append, List.sum_append, List.map_nil, List.sum_nil] at w0 ⊢ <;> omega))
            have hD : va_D A ([] ++ ((T47_310.cells Z0))) := hD.perm (seg_perm (fun f => by have w0 := seg_sum (List.Perm.of_eq ep47_322) f; simp only [ST.cells_leaf, ST.cells_minus, ST.cells_group, ST.cells_acc, ST.cells_two, FT.cells_two, FT.cells_inv, FT.cells_test, FT.cells_pair, List.map_append, List.sum_append, List.map_nil, List.sum_nil] at w0 ⊢ <;> omega))
            exact b76 (1 : Int64) H locs ls (rl_w (show rl (1 : Int64) 1 1 from rl_l (by decide)) (by decide)) (lv_sub hl [] rfl) hP hD hS
          · have t66_2 := FF.mk (i_eq c66_1)
            have r66_3 : rg v0 5 5 := rg_eqA t66_2 (rg_any v0) (show rg (5 : Int32) 5 5 from rg_l (by decide)) (by decide)
            refine lv_ldc2 (v := 17) hx hb hown (hn.get mw_2142 rfl) dX16_guard_69 ?_
            refine lv_goto (tgt := 76) hx hb dX16_guard_72 (by decide) ?_
            have hP : va_P D vwCl ([] ++ ((T47_310.cells Z0))) _ := hP.perm (seg_perm (fun f => by have w0 := seg_sum (List.Perm.of_eq ep47_322) f; simp only [ST.cells_leaf, ST.cells_minus, ST.cells_group, ST.cells_acc, ST.cells_two, FT.cells_two, FT.cells_inv, FT.cells_test, FT.cells_pair, List.map_append, List.sum_append, List.map_nil, List.sum_nil] at w0 ⊢ <;> omega))
            have hD : va_D A ([] ++ ((T47_310.cells Z0))) := hD.perm (seg_perm (fun f => by have w0 := seg_sum (List.Perm.of_eq ep47_322) f; simp only [ST.cells_leaf, ST.cells_minus, ST.cells_group, ST.cells_acc, ST.cells_two, FT.cells_two, FT.cells_inv, FT.cells_test, FT.cells_pair, List.map_append, List.sum_append, List.map_nil, List.sum_nil] at w0 ⊢ <;> omega))
            exact b76 (17 : Int64) H locs ls (rl_w (show rl (17 : Int64) 17 17 from rl_l (by decide)) (by decide)) (lv_sub hl [] rfl) hP hD hS
        · have t55_2 := FF.mk (i_eq c55_1)
          have r55_3 : rg v0 4 4 := rg_eqA t55_2 (rg_any v0) (show rg (4 : Int32) 4 4 from rg_l (by decide)) (by decide)
          refine lv_ldc2 (v := 6) hx hb hown (hn.get mw_2141 rfl) dX16_guard_58 ?_
          refine lv_goto (tgt := 76) hx hb dX16_guard_61 (by decide) ?_
          have hP : va_P D vwCl ([] ++ ((T47_310.cells Z0))) _ := hP.perm (seg_perm (fun f => by have w0 := seg_sum (List.Perm.of_eq ep47_322) f; simp only [ST.cells_leaf, ST.cells_minus, ST.cells_group, ST.cells_acc, ST.cells_two, FT.cells_two, FT.cells_inv, FT.cells_test, FT.cells_pair, List.map_append, List.sum_append, List.map_nil, List.sum_nil] at w0 ⊢ <;> omega))
          have hD : va_D A ([] ++ ((T47_310.cells Z0))) := hD.perm (seg_perm (fun f => by have w0 := seg_sum (List.Perm.of_eq ep47_322) f; simp only [ST.cells_leaf, ST.cells_minus, ST.cells_group, ST.cells_acc, ST.cells_two, FT.cells_two, FT.cells_inv, FT.cells_test, FT.cells_pair, List.map_append, List.sum_append, List.map_nil, List.sum_nil] at w0 ⊢ <;> omega))
          exact b76 (6 : Int64) H locs ls (rl_w (show rl (6 : Int64) 6 6 from rl_l (by decide)) (by decide)) (lv_sub hl [] rfl) hP hD hS
      · have t12_2 := FF.mk (i_eq c12_1)
        have r12_3 : rg v0 3 3 := rg_eqA t12_2 (rg_any v0) (show rg (3 : Int32) 3 3 from rg_l (by decide)) (by decide)
        exact b15  H locs ls  (lv_sub hl [0] rfl) hP hD hS
