set_option maxHeartbeats 4000000 in
set_option maxRecDepth 100000 in
theorem c_X8_isWord (l : Launch) (D : va_G) (ct : Nat → ClassId) (rd : Nat) (t0 : Nat) (sf : Nat) (kd : Int32) (fi : Int32) (bh : Int32) (wr : Int32) (sx : Nat) (hk : kd ≠ 2) : KI (S := Unit) l yX8_isWord cX8_isWord 3 (some .boolean) 1 20 D ct [.ref rd, .ref sx] [(rd, .inr (8, [.ref t0, .ref sf, .int kd, .int fi, .int bh, .int wr]))] 0 0 (fun r _ => r = 0) (fun (_ : Unit) => [(rd, .inr (8, [.ref t0, .ref sf, .int kd, .int fi, .int bh, .int wr]))]) := by
  refine KI_of (by decide) (Nat.le_of_ble_eq_true rfl) (fun p e s m below meth c A C0 hA hS hP hD ls hl => ?_)
  obtain ⟨hx, hb, hr, hown, hin, hml, hlocks, hn, hK⟩ := C0
  have hl : lv_has ls 3 [(0, .ref rd), (1, .ref sx)] := hl
  refine lv_aload_n hx hb dX8_isWord_0 rfl (lv_at hl 0 rfl) ?_
  refine va_get (D := D) (ci := 8) (v := .int kd) (C := RX8) (T := TX8) (N := 6) hx hb (htX8 hn) (fun _ h => h) hown hK hP 0 rfl rfl 2 (by decide) (hn.get mw_243 rfl) (fun _ h9 => h9) rfl dX8_isWord_1 ?_
  refine lv_iconst (v := 2) hx hb dX8_isWord_4 (by decide) ?_
  refine lv_icmp_ne (tgt := 24) hx hb dX8_isWord_5 (by decide) (fun c_1 => ?_) (fun c_1 => absurd c_1 (hk))
  refine lv_iconst (v := 0) hx hb dX8_isWord_24 (by decide) ?_
  exact end_i hx hb hr hlocks dX8_isWord_25 (by decide) () rfl hP hD hS [0] rfl (by decide) rfl (Nat.le_of_ble_eq_true rfl) (Nat.le_of_ble_eq_true rfl)
set_option maxHeartbeats 4000000 in
set_option maxRecDepth 100000 in
theorem c_X8_fail_a (l : Launch) (D : va_G) (ct : Nat → ClassId) (rd : Nat) (t0 : Nat) (sf : Nat) (kd : Int32) (fi : Int32) (bh : Int32)  : KV (S := Unit) l yX8_fail cX8_fail 1 none 1 20 D ct [.ref rd] [(rd, .inr (8, [.ref t0, .ref sf, .int kd, .int fi, .int bh, .int (-1)]))] 0 0 (fun _ => True) (fun (_ : Unit) => [(rd, .inr (8, [.ref t0, .ref sf, .int 3, .int fi, .int bh, .int fi]))]) := by
  refine KV_of (by decide) (Nat.le_of_ble_eq_true rfl) (fun p e s m below meth c A C0 hA hS hP hD ls hl => ?_)
  obtain ⟨hx, hb, hr, hown, hin, hml, hlocks, hn, hK⟩ := C0
  have hl : lv_has ls 1 [(0, .ref rd)] := hl
  refine lv_aload_n hx hb dX8_fail_0 rfl (lv_at hl 0 rfl) ?_
  refine va_get (D := D) (ci := 8) (v := .int (-1)) (C := RX8) (T := TX8) (N := 6) hx hb (htX8 hn) (fun _ h => h) hown hK hP 0 rfl rfl 5 (by decide) (hn.get mw_246 rfl) (fun _ h9 => h9) rfl dX8_fail_1 ?_
  refine lv_if_ge (tgt := 15) hx hb dX8_fail_4 (by decide) (fun c_1 => absurd c_1 (by decide)) (fun c_1 => ?_)
  refine lv_aload_n hx hb dX8_fail_7 rfl (lv_at hl 0 rfl) ?_
  refine lv_aload_n hx hb dX8_fail_8 rfl (lv_at hl 0 rfl) ?_
  refine va_get (D := D) (ci := 8) (v := .int fi) (C := RX8) (T := TX8) (N := 6) hx hb (htX8 hn) (fun _ h => h) hown hK hP 0 rfl rfl 3 (by decide) (hn.get mw_244 rfl) (fun _ h9 => h9) rfl dX8_fail_9 ?_
  refine va_put (D := D) (ci := 8) (v := .int fi) (ty := .int) (C := RX8) (T := TX8) (N := 6) hx hb (htX8 hn) (fun _ h => h) tyX8 tyX8_ok nmX8 hown hK hP hD hS 0 rfl rfl 5 (by decide) (hn.get mw_246 rfl) (fun _ h9 => h9) rfl (by decide +kernel) rfl rfl (Nat.le_of_ble_eq_true rfl) dX8_fail_12 (fun H locs hP hD hS => ?_)
  have hP : va_P D vwCl [(rd, .inr (8, [.ref t0, .ref sf, .int kd, .int fi, .int bh, .int fi]))] _ := hP
  have hD : va_D A [(rd, .inr (8, [.ref t0, .ref sf, .int kd, .int fi, .int bh, .int fi]))] := hD
  refine lv_aload_n hx hb dX8_fail_15 rfl (lv_at hl 0 rfl) ?_
  refine lv_iconst (v := 3) hx hb dX8_fail_16 (by decide) ?_
  refine va_put (D := D) (ci := 8) (v := .int 3) (ty := .int) (C := RX8) (T := TX8) (N := 6) hx hb (htX8 hn) (fun _ h => h) tyX8 tyX8_ok nmX8 hown hK hP hD hS 0 rfl rfl 2 (by decide) (hn.get mw_243 rfl) (fun _ h9 => h9) rfl (by decide +kernel) rfl rfl (Nat.le_of_ble_eq_true rfl) dX8_fail_17 (fun H locs hP hD hS => ?_)
  have hP : va_P D vwCl [(rd, .inr (8, [.ref t0, .ref sf, .int 3, .int fi, .int bh, .int fi]))] _ := hP
  have hD : va_D A [(rd, .inr (8, [.ref t0, .ref sf, .int 3, .int fi, .int bh, .int fi]))] := hD
  exact end_v hx hb hr hlocks dX8_fail_20 () trivial hP hD hS [0] rfl (by decide) rfl (Nat.le_of_ble_eq_true rfl) (Nat.le_of_ble_eq_true rfl)
set_option maxHeartbeats 4000000 in
set_option maxRecDepth 100000 in
theorem c_X8_fail_b (l : Launch) (D : va_G) (ct : Nat → ClassId) (rd : Nat) (t0 : Nat) (sf : Nat) (kd : Int32) (fi : Int32) (bh : Int32)  : KV (S := Unit) l yX8_fail cX8_fail 1 none 1 20 D ct [.ref rd] [(rd, .inr (8, [.ref t0, .ref sf, .int kd, .int fi, .int bh, .int 0]))] 0 0 (fun _ => True) (fun (_ : Unit) => [(rd, .inr (8, [.ref t0, .ref sf, .int 3, .int fi, .int bh, .int 0]))]) := by
  refine KV_of (by decide) (Nat.le_of_ble_eq_true rfl) (fun p e s m below meth c A C0 hA hS hP hD ls hl => ?_)
  obtain ⟨hx, hb, hr, hown, hin, hml, hlocks, hn, hK⟩ := C0
  have hl : lv_has ls 1 [(0, .ref rd)] := hl
  refine lv_aload_n hx hb dX8_fail_0 rfl (lv_at hl 0 rfl) ?_
  refine va_get (D := D) (ci := 8) (v := .int 0) (C := RX8) (T := TX8) (N := 6) hx hb (htX8 hn) (fun _ h => h) hown hK hP 0 rfl rfl 5 (by decide) (hn.get mw_246 rfl) (fun _ h9 => h9) rfl dX8_fail_1 ?_
  refine lv_if_ge (tgt := 15) hx hb dX8_fail_4 (by decide) (fun c_1 => ?_) (fun c_1 => absurd (by decide) c_1)
  refine lv_aload_n hx hb dX8_fail_15 rfl (lv_at hl 0 rfl) ?_
  refine lv_iconst (v := 3) hx hb dX8_fail_16 (by decide) ?_
  refine va_put (D := D) (ci := 8) (v := .int 3) (ty := .int) (C := RX8) (T := TX8) (N := 6) hx hb (htX8 hn) (fun _ h => h) tyX8 tyX8_ok nmX8 hown hK hP hD hS 0 rfl rfl 2 (by decide) (hn.get mw_243 rfl) (fun _ h9 => h9) rfl (by decide +kernel) rfl rfl (Nat.le_of_ble_eq_true rfl) dX8_fail_17 (fun H locs hP hD hS => ?_)
  have hP : va_P D vwCl [(rd, .inr (8, [.ref t0, .ref sf, .int 3, .int fi, .int bh, .int 0]))] _ := hP
  have hD : va_D A [(rd, .inr (8, [.ref t0, .ref sf, .int 3, .int fi, .int bh, .int 0]))] := hD
  exact end_v hx hb hr hlocks dX8_fail_20 () trivial hP hD hS [0] rfl (by decide) rfl (Nat.le_of_ble_eq_true rfl) (Nat.le_of_ble_eq_true rfl)
set_option maxHeartbeats 4000000 in
set_option maxRecDepth 100000 in
theorem c_X8_behindBlanks (l : Launch) (D : va_G) (ct : Nat → ClassId) (rd : Nat) (t0 : Nat) (sf : Nat) (tr : Nat) (kd : Int32) (fi : Int32) (bh : Int32) (wr : Int32)  : KI (S := Unit) l yX8_behindBlanks cX8_behindBlanks 3 (some .int) 1 20 D ct [.ref rd, .int 0] [(rd, .inr (8, [.ref t0, .ref sf, .int kd, .int fi, .int bh, .int wr])), (t0, .inr (9, [.ref tr, .int 0]))] 0 0 (fun r _ => r = 0) (fun (_ : Unit) => [(rd, .inr (8, [.ref t0, .ref sf, .int kd, .int fi, .int bh, .int wr])), (t0, .inr (9, [.ref tr, .int 0]))]) := by
  refine KI_of (by decide) (Nat.le_of_ble_eq_true rfl) (fun p e s m below meth c A C0 hA hS hP hD ls hl => ?_)
  obtain ⟨hx, hb, hr, hown, hin, hml, hlocks, hn, hK⟩ := C0
  have hl : lv_has ls 3 [(0, .ref rd), (1, .int 0)] := hl
  refine lv_iload_n hx hb dX8_behindBlanks_0 rfl (lv_at hl 1 rfl) ?_
  refine lv_istore_n (lv' := [(2, .int 0), (0, .ref rd), (1, .int 0)]) hx hb dX8_behindBlanks_1 rfl hl (by decide) rfl (fun ls hl => ?_)
  refine lv_iload_n hx hb dX8_behindBlanks_2 rfl (lv_at hl 0 rfl) ?_
  refine lv_aload_n hx hb dX8_behindBlanks_3 rfl (lv_at hl 1 rfl) ?_
  refine va_get (D := D) (ci := 8) (v := .ref t0) (C := RX8) (T := TX8) (N := 6) hx hb (htX8 hn) (fun _ h => h) hown hK hP 0 rfl rfl 0 (by decide) (hn.get mw_241 rfl) (fun _ h9 => h9) rfl dX8_behindBlanks_4 ?_
  refine va_getN (D := D) (ci := 9) (v := .int 0) (C := RX9) (T := TX9) (N := 2) hx hb (htX9 hn) (fun _ h => h) hown hK hP 1 rfl rfl 1 (by decide) (hn.get mw_48 rfl) (fun _ h9 => h9) rfl dX8_behindBlanks_7 ?_
  refine lv_icmp_ge (tgt := 45) hx hb dX8_behindBlanks_10 (by decide) (fun c_1 => ?_) (fun c_1 => absurd (by decide) c_1)
  refine lv_iload_n hx hb dX8_behindBlanks_45 rfl (lv_at hl 0 rfl) ?_
  exact end_i hx hb hr hlocks dX8_behindBlanks_46 rfl () rfl hP hD hS [0, 1] rfl (by decide) rfl (Nat.le_of_ble_eq_true rfl) (Nat.le_of_ble_eq_true rfl)
set_option maxHeartbeats 4000000 in
set_option maxRecDepth 100000 in
theorem c_X8_next (l : Launch) (D : va_G) (ct : Nat → ClassId) (rd : Nat) (t0 : Nat) (sf : Nat) (tr : Nat) (kd : Int32) (fi : Int32)  : KV (S := Unit) l yX8_next cX8_next 2 none 2 42 D ct [.ref rd] [(rd, .inr (8, [.ref t0, .ref sf, .int kd, .int fi, .int 0, .int (-1)])), (t0, .inr (9, [.ref tr, .int 0]))] 0 0 (fun _ => True) (fun (_ : Unit) => [(rd, .inr (8, [.ref t0, .ref sf, .int 1, .int 0, .int 1, .int (-1)])), (t0, .inr (9, [.ref tr, .int 0]))]) := by
  refine KV_of (by decide) (Nat.le_of_ble_eq_true rfl) (fun p e s m below meth c A C0 hA hS hP hD ls hl => ?_)
  obtain ⟨hx, hb, hr, hown, hin, hml, hlocks, hn, hK⟩ := C0
  have hl : lv_has ls 2 [(0, .ref rd)] := hl
  refine lv_aload_n hx hb dX8_next_0 rfl (lv_at hl 0 rfl) ?_
  refine va_get (D := D) (ci := 8) (v := .int (-1)) (C := RX8) (T := TX8) (N := 6) hx hb (htX8 hn) (fun _ h => h) hown hK hP 0 rfl rfl 5 (by decide) (hn.get mw_246 rfl) (fun _ h9 => h9) rfl dX8_next_1 ?_
  refine lv_if_lt (tgt := 8) hx hb dX8_next_4 (by decide) (fun c_1 => ?_) (fun c_1 => absurd (by decide) c_1)
  refine lv_aload_n hx hb dX8_next_8 rfl (lv_at hl 0 rfl) ?_
  refine lv_aload_n hx hb dX8_next_9 rfl (lv_at hl 0 rfl) ?_
  refine lv_aload_n hx hb dX8_next_10 rfl (lv_at hl 0 rfl) ?_
  refine va_get (D := D) (ci := 8) (v := .int 0) (C := RX8) (T := TX8) (N := 6) hx hb (htX8 hn) (fun _ h => h) hown hK hP 0 rfl rfl 4 (by decide) (hn.get mw_245 rfl) (fun _ h9 => h9) rfl dX8_next_11 ?_
  have hPc := hP.sub (ws' := [(rd, .inr (8, [.ref t0, .ref sf, .int kd, .int fi, .int 0, .int (-1)])), (t0, .inr (9, [.ref tr, .int 0]))]) [0, 1] rfl
  have hDc := hD.sub (ws' := [(rd, .inr (8, [.ref t0, .ref sf, .int kd, .int fi, .int 0, .int (-1)])), (t0, .inr (9, [.ref tr, .int 0]))]) [0, 1] (by decide) rfl
  refine go_i (k1 := 0) (n1 := 0) (wr := []) [0, 1] [] (rn_V (As := [.int 0]) (rest := [.ref rd]) (c_X8_behindBlanks l D ct rd t0 sf tr kd fi 0 (-1)  _) (cb_of (n := 1) hn mw_489 mw_8 mw_486 mhX8_behindBlanks ⟨Nat.le_of_ble_eq_true rfl, Nat.le_of_ble_eq_true rfl⟩) hx hb hml hown hn hK hPc hDc mw_488 mw_s10 (ci := 8) (q0 := 0) rfl rfl rfl rfl hl.1 (Nat.le_of_ble_eq_true rfl) dX8_next_14 ⟨(Nat.le_of_ble_eq_true rfl), (Nat.le_of_ble_eq_true rfl)⟩) hP hD hS hA rfl rfl (by decide) (by decide) (Nat.le_of_ble_eq_true rfl) (Nat.le_of_ble_eq_true rfl) (fun r_2 u_3 H locs hp_4 hP hD hS => ?_)
  have hr_2 := hp_4
  rw [show r_2 = 0 from hr_2]
  have hP : va_P D vwCl [(rd, .inr (8, [.ref t0, .ref sf, .int kd, .int fi, .int 0, .int (-1)])), (t0, .inr (9, [.ref tr, .int 0]))] _ := hP
  have hD : va_D A [(rd, .inr (8, [.ref t0, .ref sf, .int kd, .int fi, .int 0, .int (-1)])), (t0, .inr (9, [.ref tr, .int 0]))] := hD
  refine va_put (D := D) (ci := 8) (v := .int 0) (ty := .int) (C := RX8) (T := TX8) (N := 6) hx hb (htX8 hn) (fun _ h => h) tyX8 tyX8_ok nmX8 hown hK hP hD hS 0 rfl rfl 3 (by decide) (hn.get mw_244 rfl) (fun _ h9 => h9) rfl (by decide +kernel) rfl rfl (Nat.le_of_ble_eq_true rfl) dX8_next_17 (fun H locs hP hD hS => ?_)
  have hP : va_P D vwCl [(rd, .inr (8, [.ref t0, .ref sf, .int kd, .int 0, .int 0, .int (-1)])), (t0, .inr (9, [.ref tr, .int 0]))] _ := hP
  have hD : va_D A [(rd, .inr (8, [.ref t0, .ref sf, .int kd, .int 0, .int 0, .int (-1)])), (t0, .inr (9, [.ref tr, .int 0]))] := hD
  refine lv_aload_n hx hb dX8_next_20 rfl (lv_at hl 0 rfl) ?_
  refine lv_aload_n hx hb dX8_next_21 rfl (lv_at hl 0 rfl) ?_
  refine va_get (D := D) (ci := 8) (v := .int 0) (C := RX8) (T := TX8) (N := 6) hx hb (htX8 hn) (fun _ h => h) hown hK hP 0 rfl rfl 3 (by decide) (hn.get mw_244 rfl) (fun _ h9 => h9) rfl dX8_next_22 ?_
  refine lv_iconst (v := 1) hx hb dX8_next_25 (by decide) ?_
  refine lv_iadd hx hb dX8_next_26 ?_
  refine top_c (v := 1) (by decide) ?_
  refine va_put (D := D) (ci := 8) (v := .int 1) (ty := .int) (C := RX8) (T := TX8) (N := 6) hx hb (htX8 hn) (fun _ h => h) tyX8 tyX8_ok nmX8 hown hK hP hD hS 0 rfl rfl 4 (by decide) (hn.get mw_245 rfl) (fun _ h9 => h9) rfl (by decide +kernel) rfl rfl (Nat.le_of_ble_eq_true rfl) dX8_next_27 (fun H locs hP hD hS => ?_)
  have hP : va_P D vwCl [(rd, .inr (8, [.ref t0, .ref sf, .int kd, .int 0, .int 1, .int (-1)])), (t0, .inr (9, [.ref tr, .int 0]))] _ := hP
  have hD : va_D A [(rd, .inr (8, [.ref t0, .ref sf, .int kd, .int 0, .int 1, .int (-1)])), (t0, .inr (9, [.ref tr, .int 0]))] := hD
  refine lv_aload_n hx hb dX8_next_30 rfl (lv_at hl 0 rfl) ?_
  refine va_get (D := D) (ci := 8) (v := .ref t0) (C := RX8) (T := TX8) (N := 6) hx hb (htX8 hn) (fun _ h => h) hown hK hP 0 rfl rfl 0 (by decide) (hn.get mw_241 rfl) (fun _ h9 => h9) rfl dX8_next_31 ?_
  refine lv_aload_n hx hb dX8_next_34 rfl (lv_at hl 0 rfl) ?_
  refine va_get (D := D) (ci := 8) (v := .int 0) (C := RX8) (T := TX8) (N := 6) hx hb (htX8 hn) (fun _ h => h) hown hK hP 0 rfl rfl 3 (by decide) (hn.get mw_244 rfl) (fun _ h9 => h9) rfl dX8_next_35 ?_
  have hPc := hP.sub (ws' := [(t0, .inr (9, [.ref tr, .int 0]))]) [1] rfl
  have hDc := hD.sub (ws' := [(t0, .inr (9, [.ref tr, .int 0]))]) [1] (by decide) rfl
  refine go_i (k1 := 0) (n1 := 0) (wr := [(rd, .inr (8, [.ref t0, .ref sf, .int kd, .int 0, .int 1, .int (-1)]))]) [1] [0] (rn_VN (As := [.int 0]) (rest := []) (c_X9_at l D ct t0 tr 0  _) (cn_of (n := 1) hn mw_452 mw_2 mw_490 mhX9_at ⟨Nat.le_of_ble_eq_true rfl, Nat.le_of_ble_eq_true rfl⟩) hx hb hml hown hn hK hPc hDc mw_451 mw_s3 (ci := 9) (q0 := 0) rfl rfl rfl rfl hl.1 (Nat.le_of_ble_eq_true rfl) dX8_next_38 ⟨(Nat.le_of_ble_eq_true rfl), (Nat.le_of_ble_eq_true rfl)⟩) hP hD hS hA rfl rfl (by decide) (by decide) (Nat.le_of_ble_eq_true rfl) (Nat.le_of_ble_eq_true rfl) (fun r_5 u_6 H locs hp_7 hP hD hS => ?_)
  have hr_5 := hp_7
  rw [show r_5 = (-1) from hr_5]
  have hP : va_P D vwCl [(rd, .inr (8, [.ref t0, .ref sf, .int kd, .int 0, .int 1, .int (-1)])), (t0, .inr (9, [.ref tr, .int 0]))] _ := hP
  have hD : va_D A [(rd, .inr (8, [.ref t0, .ref sf, .int kd, .int 0, .int 1, .int (-1)])), (t0, .inr (9, [.ref tr, .int 0]))] := hD
  refine lv_istore_n (lv' := [(1, .int (-1)), (0, .ref rd)]) hx hb dX8_next_41 rfl hl (by decide) rfl (fun ls hl => ?_)
  refine lv_iload_n hx hb dX8_next_42 rfl (lv_at hl 0 rfl) ?_
  refine lv_if_ge (tgt := 54) hx hb dX8_next_43 (by decide) (fun c_8 => absurd c_8 (by decide)) (fun c_8 => ?_)
  refine lv_aload_n hx hb dX8_next_46 rfl (lv_at hl 1 rfl) ?_
  refine lv_iconst (v := 1) hx hb dX8_next_47 (by decide) ?_
  refine va_put (D := D) (ci := 8) (v := .int 1) (ty := .int) (C := RX8) (T := TX8) (N := 6) hx hb (htX8 hn) (fun _ h => h) tyX8 tyX8_ok nmX8 hown hK hP hD hS 0 rfl rfl 2 (by decide) (hn.get mw_243 rfl) (fun _ h9 => h9) rfl (by decide +kernel) rfl rfl (Nat.le_of_ble_eq_true rfl) dX8_next_48 (fun H locs hP hD hS => ?_)
  have hP : va_P D vwCl [(rd, .inr (8, [.ref t0, .ref sf, .int 1, .int 0, .int 1, .int (-1)])), (t0, .inr (9, [.ref tr, .int 0]))] _ := hP
  have hD : va_D A [(rd, .inr (8, [.ref t0, .ref sf, .int 1, .int 0, .int 1, .int (-1)])), (t0, .inr (9, [.ref tr, .int 0]))] := hD
  refine lv_goto (tgt := 122) hx hb dX8_next_51 (by decide) ?_
  refine lv_aload_n hx hb dX8_next_122 rfl (lv_at hl 1 rfl) ?_
  refine va_get (D := D) (ci := 8) (v := .int 1) (C := RX8) (T := TX8) (N := 6) hx hb (htX8 hn) (fun _ h => h) hown hK hP 0 rfl rfl 2 (by decide) (hn.get mw_243 rfl) (fun _ h9 => h9) rfl dX8_next_123 ?_
  refine lv_iconst (v := 3) hx hb dX8_next_126 (by decide) ?_
  refine lv_icmp_ne (tgt := 134) hx hb dX8_next_127 (by decide) (fun c_9 => ?_) (fun c_9 => absurd c_9 (by decide))
  exact end_v hx hb hr hlocks dX8_next_134 () trivial hP hD hS [0, 1] rfl (by decide) rfl (Nat.le_of_ble_eq_true rfl) (Nat.le_of_ble_eq_true rfl)
set_option maxHeartbeats 4000000 in
set_option maxRecDepth 100000 in
theorem c_X2_clear (l : Launch) (D : va_G) (ct : Nat → ClassId) (sf : Nat) (a0 : Nat) (a1 : Nat) (a2 : Nat) (a4 : Nat) (a5 : Nat) (a6 : Nat) (a7 : Nat) (a8 : Nat) (a9 : Nat) (a10 : Nat) (a13 : Nat) (a15 : Nat) (a17 : Nat) (ic : Int32) (bc : Int32) (lo : Int32) (lc : Int32) (ac : Int32)  : KV (S := Unit) l yX2_clear cX2_clear 1 none 1 20 D ct [.ref sf] [(sf, .inr (2, [.ref a0, .ref a1, .ref a2, .int ic, .ref a4, .ref a5, .ref a6, .ref a7, .ref a8, .ref a9, .ref a10, .int bc, .int lo, .ref a13, .int lc, .ref a15, .int ac, .ref a17]))] 0 0 (fun _ => True) (fun (_ : Unit) => [(sf, .inr (2, [.ref a0, .ref a1, .ref a2, .int 0, .ref a4, .ref a5, .ref a6, .ref a7, .ref a8, .ref a9, .ref a10, .int 0, .int 0, .ref a13, .int 2, .ref a15, .int ac, .ref a17]))]) := by
  refine KV_of (by decide) (Nat.le_of_ble_eq_true rfl) (fun p e s m below meth c A C0 hA hS hP hD ls hl => ?_)
  obtain ⟨hx, hb, hr, hown, hin, hml, hlocks, hn, hK⟩ := C0
  have hl : lv_has ls 1 [(0, .ref sf)] := hl
  refine lv_aload_n hx hb dX2_clear_0 rfl (lv_at hl 0 rfl) ?_
  refine lv_iconst (v := 0) hx hb dX2_clear_1 (by decide) ?_
  refine va_put (D := D) (ci := 2) (v := .int 0) (ty := .int) (C := RX2) (T := TX2) (N := 18) hx hb (htX2 hn) (fun _ h => h) tyX2 tyX2_ok nmX2 hown hK hP hD hS 0 rfl rfl 3 (by decide) (hn.get mw_153 rfl) (fun _ h9 => h9) rfl (by decide +kernel) rfl rfl (Nat.le_of_ble_eq_true rfl) dX2_clear_2 (fun H locs hP hD hS => ?_)
  have hP : va_P D vwCl [(sf, .inr (2, [.ref a0, .ref a1, .ref a2, .int 0, .ref a4, .ref a5, .ref a6, .ref a7, .ref a8, .ref a9, .ref a10, .int bc, .int lo, .ref a13, .int lc, .ref a15, .int ac, .ref a17]))] _ := hP
  have hD : va_D A [(sf, .inr (2, [.ref a0, .ref a1, .ref a2, .int 0, .ref a4, .ref a5, .ref a6, .ref a7, .ref a8, .ref a9, .ref a10, .int bc, .int lo, .ref a13, .int lc, .ref a15, .int ac, .ref a17]))] := hD
  refine lv_aload_n hx hb dX2_clear_5 rfl (lv_at hl 0 rfl) ?_
  refine lv_iconst (v := 0) hx hb dX2_clear_6 (by decide) ?_
  refine va_put (D := D) (ci := 2) (v := .int 0) (ty := .int) (C := RX2) (T := TX2) (N := 18) hx hb (htX2 hn) (fun _ h => h) tyX2 tyX2_ok nmX2 hown hK hP hD hS 0 rfl rfl 11 (by decide) (hn.get mw_169 rfl) (fun _ h9 => h9) rfl (by decide +kernel) rfl rfl (Nat.le_of_ble_eq_true rfl) dX2_clear_7 (fun H locs hP hD hS => ?_)
  have hP : va_P D vwCl [(sf, .inr (2, [.ref a0, .ref a1, .ref a2, .int 0, .ref a4, .ref a5, .ref a6, .ref a7, .ref a8, .ref a9, .ref a10, .int 0, .int lo, .ref a13, .int lc, .ref a15, .int ac, .ref a17]))] _ := hP
  have hD : va_D A [(sf, .inr (2, [.ref a0, .ref a1, .ref a2, .int 0, .ref a4, .ref a5, .ref a6, .ref a7, .ref a8, .ref a9, .ref a10, .int 0, .int lo, .ref a13, .int lc, .ref a15, .int ac, .ref a17]))] := hD
  refine lv_aload_n hx hb dX2_clear_10 rfl (lv_at hl 0 rfl) ?_
  refine lv_iconst (v := 0) hx hb dX2_clear_11 (by decide) ?_
  refine va_put (D := D) (ci := 2) (v := .int 0) (ty := .int) (C := RX2) (T := TX2) (N := 18) hx hb (htX2 hn) (fun _ h => h) tyX2 tyX2_ok nmX2 hown hK hP hD hS 0 rfl rfl 12 (by decide) (hn.get mw_172 rfl) (fun _ h9 => h9) rfl (by decide +kernel) rfl rfl (Nat.le_of_ble_eq_true rfl) dX2_clear_12 (fun H locs hP hD hS => ?_)
  have hP : va_P D vwCl [(sf, .inr (2, [.ref a0, .ref a1, .ref a2, .int 0, .ref a4, .ref a5, .ref a6, .ref a7, .ref a8, .ref a9, .ref a10, .int 0, .int 0, .ref a13, .int lc, .ref a15, .int ac, .ref a17]))] _ := hP
  have hD : va_D A [(sf, .inr (2, [.ref a0, .ref a1, .ref a2, .int 0, .ref a4, .ref a5, .ref a6, .ref a7, .ref a8, .ref a9, .ref a10, .int 0, .int 0, .ref a13, .int lc, .ref a15, .int ac, .ref a17]))] := hD
  refine lv_aload_n hx hb dX2_clear_15 rfl (lv_at hl 0 rfl) ?_
  refine lv_iconst (v := 2) hx hb dX2_clear_16 (by decide) ?_
  refine va_put (D := D) (ci := 2) (v := .int 2) (ty := .int) (C := RX2) (T := TX2) (N := 18) hx hb (htX2 hn) (fun _ h => h) tyX2 tyX2_ok nmX2 hown hK hP hD hS 0 rfl rfl 14 (by decide) (hn.get mw_175 rfl) (fun _ h9 => h9) rfl (by decide +kernel) rfl rfl (Nat.le_of_ble_eq_true rfl) dX2_clear_17 (fun H locs hP hD hS => ?_)
  have hP : va_P D vwCl [(sf, .inr (2, [.ref a0, .ref a1, .ref a2, .int 0, .ref a4, .ref a5, .ref a6, .ref a7, .ref a8, .ref a9, .ref a10, .int 0, .int 0, .ref a13, .int 2, .ref a15, .int ac, .ref a17]))] _ := hP
  have hD : va_D A [(sf, .inr (2, [.ref a0, .ref a1, .ref a2, .int 0, .ref a4, .ref a5, .ref a6, .ref a7, .ref a8, .ref a9, .ref a10, .int 0, .int 0, .ref a13, .int 2, .ref a15, .int ac, .ref a17]))] := hD
  exact end_v hx hb hr hlocks dX2_clear_20 () trivial hP hD hS [0] rfl (by decide) rfl (Nat.le_of_ble_eq_true rfl) (Nat.le_of_ble_eq_true rfl)
set_option maxHeartbeats 4000000 in
set_option maxRecDepth 100000 in
theorem c_X2_newLabel_2 (l : Launch) (D : va_G) (ct : Nat → ClassId) (sf : Nat) (a0 : Nat) (a1 : Nat) (a2 : Nat) (a4 : Nat) (a5 : Nat) (a6 : Nat) (a7 : Nat) (a8 : Nat) (a9 : Nat) (a10 : Nat) (a13 : Nat) (a15 : Nat) (a17 : Nat) (ac : Int32)  : KI (S := Unit) l yX2_newLabel cX2_newLabel 1 (some .int) 1 20 D ct [.ref sf] [(sf, .inr (2, [.ref a0, .ref a1, .ref a2, .int 0, .ref a4, .ref a5, .ref a6, .ref a7, .ref a8, .ref a9, .ref a10, .int 0, .int 0, .ref a13, .int 2, .ref a15, .int ac, .ref a17]))] 0 0 (fun r _ => r = 2) (fun (_ : Unit) => [(sf, .inr (2, [.ref a0, .ref a1, .ref a2, .int 0, .ref a4, .ref a5, .ref a6, .ref a7, .ref a8, .ref a9, .ref a10, .int 0, .int 0, .ref a13, .int 3, .ref a15, .int ac, .ref a17]))]) := by
  refine KI_of (by decide) (Nat.le_of_ble_eq_true rfl) (fun p e s m below meth c A C0 hA hS hP hD ls hl => ?_)
  obtain ⟨hx, hb, hr, hown, hin, hml, hlocks, hn, hK⟩ := C0
  have hl : lv_has ls 1 [(0, .ref sf)] := hl
  refine lv_aload_n hx hb dX2_newLabel_0 rfl (lv_at hl 0 rfl) ?_
  refine va_get (D := D) (ci := 2) (v := .int 2) (C := RX2) (T := TX2) (N := 18) hx hb (htX2 hn) (fun _ h => h) hown hK hP 0 rfl rfl 14 (by decide) (hn.get mw_175 rfl) (fun _ h9 => h9) rfl dX2_newLabel_1 ?_
  refine lv_sipush (v := 5000) hx hb dX2_newLabel_4 (by decide) ?_
  refine lv_icmp_ge (tgt := 20) hx hb dX2_newLabel_7 (by decide) (fun c_1 => absurd c_1 (by decide)) (fun c_1 => ?_)
  refine lv_aload_n hx hb dX2_newLabel_10 rfl (lv_at hl 0 rfl) ?_
  refine lv_dup hx hb dX2_newLabel_11 rfl ?_
  refine va_get (D := D) (ci := 2) (v := .int 2) (C := RX2) (T := TX2) (N := 18) hx hb (htX2 hn) (fun _ h => h) hown hK hP 0 rfl rfl 14 (by decide) (hn.get mw_175 rfl) (fun _ h9 => h9) rfl dX2_newLabel_12 ?_
  refine lv_iconst (v := 1) hx hb dX2_newLabel_15 (by decide) ?_
  refine lv_iadd hx hb dX2_newLabel_16 ?_
  refine top_c (v := 3) (by decide) ?_
  refine va_put (D := D) (ci := 2) (v := .int 3) (ty := .int) (C := RX2) (T := TX2) (N := 18) hx hb (htX2 hn) (fun _ h => h) tyX2 tyX2_ok nmX2 hown hK hP hD hS 0 rfl rfl 14 (by decide) (hn.get mw_175 rfl) (fun _ h9 => h9) rfl (by decide +kernel) rfl rfl (Nat.le_of_ble_eq_true rfl) dX2_newLabel_17 (fun H locs hP hD hS => ?_)
  have hP : va_P D vwCl [(sf, .inr (2, [.ref a0, .ref a1, .ref a2, .int 0, .ref a4, .ref a5, .ref a6, .ref a7, .ref a8, .ref a9, .ref a10, .int 0, .int 0, .ref a13, .int 3, .ref a15, .int ac, .ref a17]))] _ := hP
  have hD : va_D A [(sf, .inr (2, [.ref a0, .ref a1, .ref a2, .int 0, .ref a4, .ref a5, .ref a6, .ref a7, .ref a8, .ref a9, .ref a10, .int 0, .int 0, .ref a13, .int 3, .ref a15, .int ac, .ref a17]))] := hD
  refine lv_aload_n hx hb dX2_newLabel_20 rfl (lv_at hl 0 rfl) ?_
  refine va_get (D := D) (ci := 2) (v := .int 3) (C := RX2) (T := TX2) (N := 18) hx hb (htX2 hn) (fun _ h => h) hown hK hP 0 rfl rfl 14 (by decide) (hn.get mw_175 rfl) (fun _ h9 => h9) rfl dX2_newLabel_21 ?_
  refine lv_iconst (v := 1) hx hb dX2_newLabel_24 (by decide) ?_
  refine lv_isub hx hb dX2_newLabel_25 ?_
  refine top_c (v := 2) (by decide) ?_
  exact end_i hx hb hr hlocks dX2_newLabel_26 rfl () rfl hP hD hS [0] rfl (by decide) rfl (Nat.le_of_ble_eq_true rfl) (Nat.le_of_ble_eq_true rfl)
set_option maxHeartbeats 4000000 in
set_option maxRecDepth 100000 in
theorem c_X2_newLabel_3 (l : Launch) (D : va_G) (ct : Nat → ClassId) (sf : Nat) (a0 : Nat) (a1 : Nat) (a2 : Nat) (a4 : Nat) (a5 : Nat) (a6 : Nat) (a7 : Nat) (a8 : Nat) (a9 : Nat) (a10 : Nat) (a13 : Nat) (a15 : Nat) (a17 : Nat) (ac : Int32)  : KI (S := Unit) l yX2_newLabel cX2_newLabel 1 (some .int) 1 20 D ct [.ref sf] [(sf, .inr (2, [.ref a0, .ref a1, .ref a2, .int 0, .ref a4, .ref a5, .ref a6, .ref a7, .ref a8, .ref a9, .ref a10, .int 0, .int 0, .ref a13, .int 3, .ref a15, .int ac, .ref a17]))] 0 0 (fun r _ => r = 3) (fun (_ : Unit) => [(sf, .inr (2, [.ref a0, .ref a1, .ref a2, .int 0, .ref a4, .ref a5, .ref a6, .ref a7, .ref a8, .ref a9, .ref a10, .int 0, .int 0, .ref a13, .int 4, .ref a15, .int ac, .ref a17]))]) := by
  refine KI_of (by decide) (Nat.le_of_ble_eq_true rfl) (fun p e s m below meth c A C0 hA hS hP hD ls hl => ?_)
  obtain ⟨hx, hb, hr, hown, hin, hml, hlocks, hn, hK⟩ := C0
  have hl : lv_has ls 1 [(0, .ref sf)] := hl
  refine lv_aload_n hx hb dX2_newLabel_0 rfl (lv_at hl 0 rfl) ?_
  refine va_get (D := D) (ci := 2) (v := .int 3) (C := RX2) (T := TX2) (N := 18) hx hb (htX2 hn) (fun _ h => h) hown hK hP 0 rfl rfl 14 (by decide) (hn.get mw_175 rfl) (fun _ h9 => h9) rfl dX2_newLabel_1 ?_
  refine lv_sipush (v := 5000) hx hb dX2_newLabel_4 (by decide) ?_
  refine lv_icmp_ge (tgt := 20) hx hb dX2_newLabel_7 (by decide) (fun c_1 => absurd c_1 (by decide)) (fun c_1 => ?_)
  refine lv_aload_n hx hb dX2_newLabel_10 rfl (lv_at hl 0 rfl) ?_
  refine lv_dup hx hb dX2_newLabel_11 rfl ?_
  refine va_get (D := D) (ci := 2) (v := .int 3) (C := RX2) (T := TX2) (N := 18) hx hb (htX2 hn) (fun _ h => h) hown hK hP 0 rfl rfl 14 (by decide) (hn.get mw_175 rfl) (fun _ h9 => h9) rfl dX2_newLabel_12 ?_
  refine lv_iconst (v := 1) hx hb dX2_newLabel_15 (by decide) ?_
  refine lv_iadd hx hb dX2_newLabel_16 ?_
  refine top_c (v := 4) (by decide) ?_
  refine va_put (D := D) (ci := 2) (v := .int 4) (ty := .int) (C := RX2) (T := TX2) (N := 18) hx hb (htX2 hn) (fun _ h => h) tyX2 tyX2_ok nmX2 hown hK hP hD hS 0 rfl rfl 14 (by decide) (hn.get mw_175 rfl) (fun _ h9 => h9) rfl (by decide +kernel) rfl rfl (Nat.le_of_ble_eq_true rfl) dX2_newLabel_17 (fun H locs hP hD hS => ?_)
  have hP : va_P D vwCl [(sf, .inr (2, [.ref a0, .ref a1, .ref a2, .int 0, .ref a4, .ref a5, .ref a6, .ref a7, .ref a8, .ref a9, .ref a10, .int 0, .int 0, .ref a13, .int 4, .ref a15, .int ac, .ref a17]))] _ := hP
  have hD : va_D A [(sf, .inr (2, [.ref a0, .ref a1, .ref a2, .int 0, .ref a4, .ref a5, .ref a6, .ref a7, .ref a8, .ref a9, .ref a10, .int 0, .int 0, .ref a13, .int 4, .ref a15, .int ac, .ref a17]))] := hD
  refine lv_aload_n hx hb dX2_newLabel_20 rfl (lv_at hl 0 rfl) ?_
  refine va_get (D := D) (ci := 2) (v := .int 4) (C := RX2) (T := TX2) (N := 18) hx hb (htX2 hn) (fun _ h => h) hown hK hP 0 rfl rfl 14 (by decide) (hn.get mw_175 rfl) (fun _ h9 => h9) rfl dX2_newLabel_21 ?_
  refine lv_iconst (v := 1) hx hb dX2_newLabel_24 (by decide) ?_
  refine lv_isub hx hb dX2_newLabel_25 ?_
  refine top_c (v := 3) (by decide) ?_
  exact end_i hx hb hr hlocks dX2_newLabel_26 rfl () rfl hP hD hS [0] rfl (by decide) rfl (Nat.le_of_ble_eq_true rfl) (Nat.le_of_ble_eq_true rfl)
set_option maxHeartbeats 4000000 in
set_option maxRecDepth 100000 in
theorem c_X2_joinLabel_30 (l : Launch) (D : va_G) (ct : Nat → ClassId) (sf : Nat) (a0 : Nat) (a1 : Nat) (a2 : Nat) (a4 : Nat) (a5 : Nat) (a6 : Nat) (a7 : Nat) (a8 : Nat) (a9 : Nat) (a10 : Nat) (a13 : Nat) (a15 : Nat) (a17 : Nat) (ac : Int32) (f : Nat → Int32)  : KV (S := Nat → Int32) l yX2_joinLabel cX2_joinLabel 3 none 1 20 D ct [.ref sf, .int 3, .int 0] [(sf, .inr (2, [.ref a0, .ref a1, .ref a2, .int 0, .ref a4, .ref a5, .ref a6, .ref a7, .ref a8, .ref a9, .ref a10, .int 0, .int 0, .ref a13, .int 4, .ref a15, .int ac, .ref a17])), (a13, .inl (ct 1, 5000, .inl f))] 0 0 (fun _ => True) (fun (g : Nat → Int32) => [(sf, .inr (2, [.ref a0, .ref a1, .ref a2, .int 0, .ref a4, .ref a5, .ref a6, .ref a7, .ref a8, .ref a9, .ref a10, .int 0, .int 0, .ref a13, .int 4, .ref a15, .int ac, .ref a17])), (a13, .inl (ct 1, 5000, .inl g))]) := by
  refine KV_of (by decide) (Nat.le_of_ble_eq_true rfl) (fun p e s m below meth c A C0 hA hS hP hD ls hl => ?_)
  obtain ⟨hx, hb, hr, hown, hin, hml, hlocks, hn, hK⟩ := C0
  have hl : lv_has ls 3 [(0, .ref sf), (1, .int 3), (2, .int 0)] := hl
  refine lv_iload_n hx hb dX2_joinLabel_0 rfl (lv_at hl 1 rfl) ?_
  refine lv_if_lt (tgt := 21) hx hb dX2_joinLabel_1 (by decide) (fun c_1 => absurd c_1 (by decide)) (fun c_1 => ?_)
  refine lv_iload_n hx hb dX2_joinLabel_4 rfl (lv_at hl 1 rfl) ?_
  refine lv_aload_n hx hb dX2_joinLabel_5 rfl (lv_at hl 0 rfl) ?_
  refine va_get (D := D) (ci := 2) (v := .int 4) (C := RX2) (T := TX2) (N := 18) hx hb (htX2 hn) (fun _ h => h) hown hK hP 0 rfl rfl 14 (by decide) (hn.get mw_175 rfl) (fun _ h9 => h9) rfl dX2_joinLabel_6 ?_
  refine lv_icmp_ge (tgt := 21) hx hb dX2_joinLabel_9 (by decide) (fun c_2 => absurd c_2 (by decide)) (fun c_2 => ?_)
  refine lv_aload_n hx hb dX2_joinLabel_12 rfl (lv_at hl 0 rfl) ?_
  refine va_get (D := D) (ci := 2) (v := .ref a13) (C := RX2) (T := TX2) (N := 18) hx hb (htX2 hn) (fun _ h => h) hown hK hP 0 rfl rfl 13 (by decide) (hn.get mw_174 rfl) (fun _ h9 => h9) rfl dX2_joinLabel_13 ?_
  refine lv_iload_n hx hb dX2_joinLabel_16 rfl (lv_at hl 1 rfl) ?_
  refine lv_iconst (v := (-1)) hx hb dX2_joinLabel_17 (by decide) ?_
  refine lv_iload_n hx hb dX2_joinLabel_18 rfl (lv_at hl 2 rfl) ?_
  refine lv_isub hx hb dX2_joinLabel_19 ?_
  refine top_c (v := (-1)) (by decide) ?_
  refine va_iast hx hb hK hP hD hS 1 1 rfl rfl (vp_in_iff.mpr (by decide)) dX2_joinLabel_20 (fun H locs hP hD hS => ?_)
  have hP : va_P D vwCl [(sf, .inr (2, [.ref a0, .ref a1, .ref a2, .int 0, .ref a4, .ref a5, .ref a6, .ref a7, .ref a8, .ref a9, .ref a10, .int 0, .int 0, .ref a13, .int 4, .ref a15, .int ac, .ref a17])), (a13, .inl (ct 1, 5000, .inl (upd f (3 : Int32).toNatClampNeg (-1))))] _ := hP
  have hD : va_D A [(sf, .inr (2, [.ref a0, .ref a1, .ref a2, .int 0, .ref a4, .ref a5, .ref a6, .ref a7, .ref a8, .ref a9, .ref a10, .int 0, .int 0, .ref a13, .int 4, .ref a15, .int ac, .ref a17])), (a13, .inl (ct 1, 5000, .inl (upd f (3 : Int32).toNatClampNeg (-1))))] := hD
  generalize (upd f (3 : Int32).toNatClampNeg (-1)) = f_3 at hP hD
  exact end_v hx hb hr hlocks dX2_joinLabel_21 f_3 trivial hP hD hS [0, 1] rfl (by decide) rfl (Nat.le_of_ble_eq_true rfl) (Nat.le_of_ble_eq_true rfl)
set_option maxHeartbeats 4000000 in
set_option maxRecDepth 100000 in
theorem c_X2_joinLabel_21 (l : Launch) (D : va_G) (ct : Nat → ClassId) (sf : Nat) (a0 : Nat) (a1 : Nat) (a2 : Nat) (a4 : Nat) (a5 : Nat) (a6 : Nat) (a7 : Nat) (a8 : Nat) (a9 : Nat) (a10 : Nat) (a13 : Nat) (a15 : Nat) (a17 : Nat) (ac : Int32) (f : Nat → Int32)  : KV (S := Nat → Int32) l yX2_joinLabel cX2_joinLabel 3 none 1 20 D ct [.ref sf, .int 2, .int 1] [(sf, .inr (2, [.ref a0, .ref a1, .ref a2, .int 0, .ref a4, .ref a5, .ref a6, .ref a7, .ref a8, .ref a9, .ref a10, .int 0, .int 0, .ref a13, .int 4, .ref a15, .int ac, .ref a17])), (a13, .inl (ct 1, 5000, .inl f))] 0 0 (fun _ => True) (fun (g : Nat → Int32) => [(sf, .inr (2, [.ref a0, .ref a1, .ref a2, .int 0, .ref a4, .ref a5, .ref a6, .ref a7, .ref a8, .ref a9, .ref a10, .int 0, .int 0, .ref a13, .int 4, .ref a15, .int ac, .ref a17])), (a13, .inl (ct 1, 5000, .inl g))]) := by
  refine KV_of (by decide) (Nat.le_of_ble_eq_true rfl) (fun p e s m below meth c A C0 hA hS hP hD ls hl => ?_)
  obtain ⟨hx, hb, hr, hown, hin, hml, hlocks, hn, hK⟩ := C0
  have hl : lv_has ls 3 [(0, .ref sf), (1, .int 2), (2, .int 1)] := hl
  refine lv_iload_n hx hb dX2_joinLabel_0 rfl (lv_at hl 1 rfl) ?_
  refine lv_if_lt (tgt := 21) hx hb dX2_joinLabel_1 (by decide) (fun c_1 => absurd c_1 (by decide)) (fun c_1 => ?_)
  refine lv_iload_n hx hb dX2_joinLabel_4 rfl (lv_at hl 1 rfl) ?_
  refine lv_aload_n hx hb dX2_joinLabel_5 rfl (lv_at hl 0 rfl) ?_
  refine va_get (D := D) (ci := 2) (v := .int 4) (C := RX2) (T := TX2) (N := 18) hx hb (htX2 hn) (fun _ h => h) hown hK hP 0 rfl rfl 14 (by decide) (hn.get mw_175 rfl) (fun _ h9 => h9) rfl dX2_joinLabel_6 ?_
  refine lv_icmp_ge (tgt := 21) hx hb dX2_joinLabel_9 (by decide) (fun c_2 => absurd c_2 (by decide)) (fun c_2 => ?_)
  refine lv_aload_n hx hb dX2_joinLabel_12 rfl (lv_at hl 0 rfl) ?_
  refine va_get (D := D) (ci := 2) (v := .ref a13) (C := RX2) (T := TX2) (N := 18) hx hb (htX2 hn) (fun _ h => h) hown hK hP 0 rfl rfl 13 (by decide) (hn.get mw_174 rfl) (fun _ h9 => h9) rfl dX2_joinLabel_13 ?_
  refine lv_iload_n hx hb dX2_joinLabel_16 rfl (lv_at hl 1 rfl) ?_
  refine lv_iconst (v := (-1)) hx hb dX2_joinLabel_17 (by decide) ?_
  refine lv_iload_n hx hb dX2_joinLabel_18 rfl (lv_at hl 2 rfl) ?_
  refine lv_isub hx hb dX2_joinLabel_19 ?_
  refine top_c (v := (-2)) (by decide) ?_
  refine va_iast hx hb hK hP hD hS 1 1 rfl rfl (vp_in_iff.mpr (by decide)) dX2_joinLabel_20 (fun H locs hP hD hS => ?_)
  have hP : va_P D vwCl [(sf, .inr (2, [.ref a0, .ref a1, .ref a2, .int 0, .ref a4, .ref a5, .ref a6, .ref a7, .ref a8, .ref a9, .ref a10, .int 0, .int 0, .ref a13, .int 4, .ref a15, .int ac, .ref a17])), (a13, .inl (ct 1, 5000, .inl (upd f (2 : Int32).toNatClampNeg (-2))))] _ := hP
  have hD : va_D A [(sf, .inr (2, [.ref a0, .ref a1, .ref a2, .int 0, .ref a4, .ref a5, .ref a6, .ref a7, .ref a8, .ref a9, .ref a10, .int 0, .int 0, .ref a13, .int 4, .ref a15, .int ac, .ref a17])), (a13, .inl (ct 1, 5000, .inl (upd f (2 : Int32).toNatClampNeg (-2))))] := hD
  generalize (upd f (2 : Int32).toNatClampNeg (-2)) = f_3 at hP hD
  exact end_v hx hb hr hlocks dX2_joinLabel_21 f_3 trivial hP hD hS [0, 1] rfl (by decide) rfl (Nat.le_of_ble_eq_true rfl) (Nat.le_of_ble_eq_true rfl)
set_option maxHeartbeats 4000000 in
set_option maxRecDepth 100000 in
theorem c_X8_begin (l : Launch) (D : va_G) (ct : Nat → ClassId) (rd : Nat) (t0 : Nat) (sf : Nat) (tr : Nat) (a0 : Nat) (a1 : Nat) (a2 : Nat) (a4 : Nat) (a5 : Nat) (a6 : Nat) (a7 : Nat) (a8 : Nat) (a9 : Nat) (a10 : Nat) (a13 : Nat) (a15 : Nat) (a17 : Nat) (kd : Int32) (fi : Int32) (bh : Int32) (wr : Int32) (ic : Int32) (bc : Int32) (lo : Int32) (lc : Int32) (ac : Int32) (f0 : Nat)  : KV (S := Unit) l yX8_begin cX8_begin 2 none 3 63 D ct [.ref rd, .ref sf] [(rd, .inr (8, [.ref t0, .ref f0, .int kd, .int fi, .int bh, .int wr])), (t0, .inr (9, [.ref tr, .int 0])), (sf, .inr (2, [.ref a0, .ref a1, .ref a2, .int ic, .ref a4, .ref a5, .ref a6, .ref a7, .ref a8, .ref a9, .ref a10, .int bc, .int lo, .ref a13, .int lc, .ref a15, .int ac, .ref a17]))] 0 0 (fun _ => True) (fun (_ : Unit) => [(rd, .inr (8, [.ref t0, .ref sf, .int 1, .int 0, .int 1, .int (-1)])), (t0, .inr (9, [.ref tr, .int 0])), (sf, .inr (2, [.ref a0, .ref a1, .ref a2, .int 0, .ref a4, .ref a5, .ref a6, .ref a7, .ref a8, .ref a9, .ref a10, .int 0, .int 0, .ref a13, .int 2, .ref a15, .int ac, .ref a17]))]) := by
  refine KV_of (by decide) (Nat.le_of_ble_eq_true rfl) (fun p e s m below meth c A C0 hA hS hP hD ls hl => ?_)
  obtain ⟨hx, hb, hr, hown, hin, hml, hlocks, hn, hK⟩ := C0
  have hl : lv_has ls 2 [(0, .ref rd), (1, .ref sf)] := hl
  refine lv_aload_n hx hb dX8_begin_0 rfl (lv_at hl 0 rfl) ?_
  refine lv_aload_n hx hb dX8_begin_1 rfl (lv_at hl 1 rfl) ?_
  refine va_put (D := D) (ci := 8) (v := .ref sf) (ty := .object "FilterForge$Filter") (C := RX8) (T := TX8) (N := 6) hx hb (htX8 hn) (fun _ h => h) tyX8 tyX8_ok nmX8 hown hK hP hD hS 0 rfl rfl 1 (by decide) (hn.get mw_242 rfl) (fun _ h9 => h9) rfl (by decide +kernel) rfl rfl (Nat.le_of_ble_eq_true rfl) dX8_begin_2 (fun H locs hP hD hS => ?_)
  have hP : va_P D vwCl [(rd, .inr (8, [.ref t0, .ref sf, .int kd, .int fi, .int bh, .int wr])), (t0, .inr (9, [.ref tr, .int 0])), (sf, .inr (2, [.ref a0, .ref a1, .ref a2, .int ic, .ref a4, .ref a5, .ref a6, .ref a7, .ref a8, .ref a9, .ref a10, .int bc, .int lo, .ref a13, .int lc, .ref a15, .int ac, .ref a17]))] _ := hP
  have hD : va_D A [(rd, .inr (8, [.ref t0, .ref sf, .int kd, .int fi, .int bh, .int wr])), (t0, .inr (9, [.ref tr, .int 0])), (sf, .inr (2, [.ref a0, .ref a1, .ref a2, .int ic, .ref a4, .ref a5, .ref a6, .ref a7, .ref a8, .ref a9, .ref a10, .int bc, .int lo, .ref a13, .int lc, .ref a15, .int ac, .ref a17]))] := hD
  refine lv_aload_n hx hb dX8_begin_5 rfl (lv_at hl 0 rfl) ?_
  refine va_get (D := D) (ci := 8) (v := .ref sf) (C := RX8) (T := TX8) (N := 6) hx hb (htX8 hn) (fun _ h => h) hown hK hP 0 rfl rfl 1 (by decide) (hn.get mw_242 rfl) (fun _ h9 => h9) rfl dX8_begin_6 ?_
  have hPc := hP.sub (ws' := [(sf, .inr (2, [.ref a0, .ref a1, .ref a2, .int ic, .ref a4, .ref a5, .ref a6, .ref a7, .ref a8, .ref a9, .ref a10, .int bc, .int lo, .ref a13, .int lc, .ref a15, .int ac, .ref a17]))]) [2] rfl
  have hDc := hD.sub (ws' := [(sf, .inr (2, [.ref a0, .ref a1, .ref a2, .int ic, .ref a4, .ref a5, .ref a6, .ref a7, .ref a8, .ref a9, .ref a10, .int bc, .int lo, .ref a13, .int lc, .ref a15, .int ac, .ref a17]))]) [2] (by decide) rfl
  refine go_v (k1 := 0) (n1 := 0) (wr := [(rd, .inr (8, [.ref t0, .ref sf, .int kd, .int fi, .int bh, .int wr])), (t0, .inr (9, [.ref tr, .int 0]))]) [2] [0, 1] (rn_VN (As := []) (rest := []) (c_X2_clear l D ct sf a0 a1 a2 a4 a5 a6 a7 a8 a9 a10 a13 a15 a17 ic bc lo lc ac  _) (cn_of (n := 0) hn mw_481 mw_6 mw_478 mhX2_clear ⟨Nat.le_of_ble_eq_true rfl, Nat.le_of_ble_eq_true rfl⟩) hx hb hml hown hn hK hPc hDc mw_480 mw_s8 (ci := 2) (q0 := 0) rfl rfl rfl rfl hl.1 (Nat.le_of_ble_eq_true rfl) dX8_begin_9 ⟨(Nat.le_of_ble_eq_true rfl), (Nat.le_of_ble_eq_true rfl)⟩) hP hD hS hA rfl rfl (by decide) (by decide) (Nat.le_of_ble_eq_true rfl) (Nat.le_of_ble_eq_true rfl) (fun u_2 H locs hp_3 hP hD hS => ?_)
  have hP : va_P D vwCl [(rd, .inr (8, [.ref t0, .ref sf, .int kd, .int fi, .int bh, .int wr])), (t0, .inr (9, [.ref tr, .int 0])), (sf, .inr (2, [.ref a0, .ref a1, .ref a2, .int 0, .ref a4, .ref a5, .ref a6, .ref a7, .ref a8, .ref a9, .ref a10, .int 0, .int 0, .ref a13, .int 2, .ref a15, .int ac, .ref a17]))] _ := hP
  have hD : va_D A [(rd, .inr (8, [.ref t0, .ref sf, .int kd, .int fi, .int bh, .int wr])), (t0, .inr (9, [.ref tr, .int 0])), (sf, .inr (2, [.ref a0, .ref a1, .ref a2, .int 0, .ref a4, .ref a5, .ref a6, .ref a7, .ref a8, .ref a9, .ref a10, .int 0, .int 0, .ref a13, .int 2, .ref a15, .int ac, .ref a17]))] := hD
  refine lv_aload_n hx hb dX8_begin_12 rfl (lv_at hl 0 rfl) ?_
  refine lv_iconst (v := 0) hx hb dX8_begin_13 (by decide) ?_
  refine va_put (D := D) (ci := 8) (v := .int 0) (ty := .int) (C := RX8) (T := TX8) (N := 6) hx hb (htX8 hn) (fun _ h => h) tyX8 tyX8_ok nmX8 hown hK hP hD hS 0 rfl rfl 4 (by decide) (hn.get mw_245 rfl) (fun _ h9 => h9) rfl (by decide +kernel) rfl rfl (Nat.le_of_ble_eq_true rfl) dX8_begin_14 (fun H locs hP hD hS => ?_)
  have hP : va_P D vwCl [(rd, .inr (8, [.ref t0, .ref sf, .int kd, .int fi, .int 0, .int wr])), (t0, .inr (9, [.ref tr, .int 0])), (sf, .inr (2, [.ref a0, .ref a1, .ref a2, .int 0, .ref a4, .ref a5, .ref a6, .ref a7, .ref a8, .ref a9, .ref a10, .int 0, .int 0, .ref a13, .int 2, .ref a15, .int ac, .ref a17]))] _ := hP
  have hD : va_D A [(rd, .inr (8, [.ref t0, .ref sf, .int kd, .int fi, .int 0, .int wr])), (t0, .inr (9, [.ref tr, .int 0])), (sf, .inr (2, [.ref a0, .ref a1, .ref a2, .int 0, .ref a4, .ref a5, .ref a6, .ref a7, .ref a8, .ref a9, .ref a10, .int 0, .int 0, .ref a13, .int 2, .ref a15, .int ac, .ref a17]))] := hD
  refine lv_aload_n hx hb dX8_begin_17 rfl (lv_at hl 0 rfl) ?_
  refine lv_iconst (v := (-1)) hx hb dX8_begin_18 (by decide) ?_
  refine va_put (D := D) (ci := 8) (v := .int (-1)) (ty := .int) (C := RX8) (T := TX8) (N := 6) hx hb (htX8 hn) (fun _ h => h) tyX8 tyX8_ok nmX8 hown hK hP hD hS 0 rfl rfl 5 (by decide) (hn.get mw_246 rfl) (fun _ h9 => h9) rfl (by decide +kernel) rfl rfl (Nat.le_of_ble_eq_true rfl) dX8_begin_19 (fun H locs hP hD hS => ?_)
  have hP : va_P D vwCl [(rd, .inr (8, [.ref t0, .ref sf, .int kd, .int fi, .int 0, .int (-1)])), (t0, .inr (9, [.ref tr, .int 0])), (sf, .inr (2, [.ref a0, .ref a1, .ref a2, .int 0, .ref a4, .ref a5, .ref a6, .ref a7, .ref a8, .ref a9, .ref a10, .int 0, .int 0, .ref a13, .int 2, .ref a15, .int ac, .ref a17]))] _ := hP
  have hD : va_D A [(rd, .inr (8, [.ref t0, .ref sf, .int kd, .int fi, .int 0, .int (-1)])), (t0, .inr (9, [.ref tr, .int 0])), (sf, .inr (2, [.ref a0, .ref a1, .ref a2, .int 0, .ref a4, .ref a5, .ref a6, .ref a7, .ref a8, .ref a9, .ref a10, .int 0, .int 0, .ref a13, .int 2, .ref a15, .int ac, .ref a17]))] := hD
  refine lv_aload_n hx hb dX8_begin_22 rfl (lv_at hl 0 rfl) ?_
  refine lv_iconst (v := 1) hx hb dX8_begin_23 (by decide) ?_
  refine va_put (D := D) (ci := 8) (v := .int 1) (ty := .int) (C := RX8) (T := TX8) (N := 6) hx hb (htX8 hn) (fun _ h => h) tyX8 tyX8_ok nmX8 hown hK hP hD hS 0 rfl rfl 2 (by decide) (hn.get mw_243 rfl) (fun _ h9 => h9) rfl (by decide +kernel) rfl rfl (Nat.le_of_ble_eq_true rfl) dX8_begin_24 (fun H locs hP hD hS => ?_)
  have hP : va_P D vwCl [(rd, .inr (8, [.ref t0, .ref sf, .int 1, .int fi, .int 0, .int (-1)])), (t0, .inr (9, [.ref tr, .int 0])), (sf, .inr (2, [.ref a0, .ref a1, .ref a2, .int 0, .ref a4, .ref a5, .ref a6, .ref a7, .ref a8, .ref a9, .ref a10, .int 0, .int 0, .ref a13, .int 2, .ref a15, .int ac, .ref a17]))] _ := hP
  have hD : va_D A [(rd, .inr (8, [.ref t0, .ref sf, .int 1, .int fi, .int 0, .int (-1)])), (t0, .inr (9, [.ref tr, .int 0])), (sf, .inr (2, [.ref a0, .ref a1, .ref a2, .int 0, .ref a4, .ref a5, .ref a6, .ref a7, .ref a8, .ref a9, .ref a10, .int 0, .int 0, .ref a13, .int 2, .ref a15, .int ac, .ref a17]))] := hD
  refine lv_aload_n hx hb dX8_begin_27 rfl (lv_at hl 0 rfl) ?_
  have hPc := hP.sub (ws' := [(rd, .inr (8, [.ref t0, .ref sf, .int 1, .int fi, .int 0, .int (-1)])), (t0, .inr (9, [.ref tr, .int 0]))]) [0, 1] rfl
  have hDc := hD.sub (ws' := [(rd, .inr (8, [.ref t0, .ref sf, .int 1, .int fi, .int 0, .int (-1)])), (t0, .inr (9, [.ref tr, .int 0]))]) [0, 1] (by decide) rfl
  refine go_v (k1 := 0) (n1 := 0) (wr := [(sf, .inr (2, [.ref a0, .ref a1, .ref a2, .int 0, .ref a4, .ref a5, .ref a6, .ref a7, .ref a8, .ref a9, .ref a10, .int 0, .int 0, .ref a13, .int 2, .ref a15, .int ac, .ref a17]))]) [0, 1] [2] (rn_V (As := []) (rest := []) (c_X8_next l D ct rd t0 sf tr 1 fi  _) (cb_of (n := 0) hn mw_485 mw_8 mw_482 mhX8_next ⟨Nat.le_of_ble_eq_true rfl, Nat.le_of_ble_eq_true rfl⟩) hx hb hml hown hn hK hPc hDc mw_484 mw_s9 (ci := 8) (q0 := 0) rfl rfl rfl rfl hl.1 (Nat.le_of_ble_eq_true rfl) dX8_begin_28 ⟨(Nat.le_of_ble_eq_true rfl), (Nat.le_of_ble_eq_true rfl)⟩) hP hD hS hA rfl rfl (by decide) (by decide) (Nat.le_of_ble_eq_true rfl) (Nat.le_of_ble_eq_true rfl) (fun u_5 H locs hp_6 hP hD hS => ?_)
  have hP : va_P D vwCl [(sf, .inr (2, [.ref a0, .ref a1, .ref a2, .int 0, .ref a4, .ref a5, .ref a6, .ref a7, .ref a8, .ref a9, .ref a10, .int 0, .int 0, .ref a13, .int 2, .ref a15, .int ac, .ref a17])), (rd, .inr (8, [.ref t0, .ref sf, .int 1, .int 0, .int 1, .int (-1)])), (t0, .inr (9, [.ref tr, .int 0]))] _ := hP
  have hD : va_D A [(sf, .inr (2, [.ref a0, .ref a1, .ref a2, .int 0, .ref a4, .ref a5, .ref a6, .ref a7, .ref a8, .ref a9, .ref a10, .int 0, .int 0, .ref a13, .int 2, .ref a15, .int ac, .ref a17])), (rd, .inr (8, [.ref t0, .ref sf, .int 1, .int 0, .int 1, .int (-1)])), (t0, .inr (9, [.ref tr, .int 0]))] := hD
  exact end_v hx hb hr hlocks dX8_begin_31 () trivial hP hD hS [1, 2, 0] rfl (by decide) rfl (Nat.le_of_ble_eq_true rfl) (Nat.le_of_ble_eq_true rfl)
set_option maxHeartbeats 4000000 in
set_option maxRecDepth 100000 in
theorem c_X8_number (l : Launch) (D : va_G) (ct : Nat → ClassId) (rd : Nat) (t0 : Nat) (sf : Nat)  : KL (S := Unit) l yX8_number cX8_number 1 (some .long) 1 20 D ct [.ref rd] [(rd, .inr (8, [.ref t0, .ref sf, .int 1, .int 0, .int 1, .int (-1)]))] 0 0 (fun r _ => r = -1) (fun (_ : Unit) => [(rd, .inr (8, [.ref t0, .ref sf, .int 1, .int 0, .int 1, .int (-1)]))]) := by
  refine KL_of (by decide) (Nat.le_of_ble_eq_true rfl) (fun p e s m below meth c A C0 hA hS hP hD ls hl => ?_)
  obtain ⟨hx, hb, hr, hown, hin, hml, hlocks, hn, hK⟩ := C0
  have hl : lv_has ls 1 [(0, .ref rd)] := hl
  refine lv_aload_n hx hb dX8_number_0 rfl (lv_at hl 0 rfl) ?_
  refine va_get (D := D) (ci := 8) (v := .int 1) (C := RX8) (T := TX8) (N := 6) hx hb (htX8 hn) (fun _ h => h) hown hK hP 0 rfl rfl 2 (by decide) (hn.get mw_243 rfl) (fun _ h9 => h9) rfl dX8_number_1 ?_
  refine lv_iconst (v := 2) hx hb dX8_number_4 (by decide) ?_
  refine lv_icmp_eq (tgt := 12) hx hb dX8_number_5 (by decide) (fun c_1 => absurd c_1 (by decide)) (fun c_1 => ?_)
  refine lv_ldc2 (v := (-1)) hx hb hown (hn.get mw_583 rfl) dX8_number_8 ?_
  exact end_l hx hb hr hlocks dX8_number_11 () rfl hP hD hS [0] rfl (by decide) rfl (Nat.le_of_ble_eq_true rfl) (Nat.le_of_ble_eq_true rfl)
set_option maxHeartbeats 4000000 in
set_option maxRecDepth 100000 in
theorem c_X8_protocol (l : Launch) (D : va_G) (ct : Nat → ClassId) (rd : Nat) (t0 : Nat) (sf : Nat)  : KI (S := Unit) l yX8_protocol cX8_protocol 1 (some .int) 2 42 D ct [.ref rd] [(rd, .inr (8, [.ref t0, .ref sf, .int 1, .int 0, .int 1, .int (-1)]))] 0 0 (fun r _ => r = -1) (fun (_ : Unit) => [(rd, .inr (8, [.ref t0, .ref sf, .int 1, .int 0, .int 1, .int (-1)]))]) := by
  refine KI_of (by decide) (Nat.le_of_ble_eq_true rfl) (fun p e s m below meth c A C0 hA hS hP hD ls hl => ?_)
  obtain ⟨hx, hb, hr, hown, hin, hml, hlocks, hn, hK⟩ := C0
  have hl : lv_has ls 1 [(0, .ref rd)] := hl
  refine lv_aload_n hx hb dX8_protocol_0 rfl (lv_at hl 0 rfl) ?_
  obtain ⟨sq_1, hsq_1⟩ := hn.2.1 _ _ _ mw_x603
  refine va_ldcS hx hb hown hsq_1 dX8_protocol_1 ?_
  have hPc := hP.sub (ws' := [(rd, .inr (8, [.ref t0, .ref sf, .int 1, .int 0, .int 1, .int (-1)]))]) [0] rfl
  have hDc := hD.sub (ws' := [(rd, .inr (8, [.ref t0, .ref sf, .int 1, .int 0, .int 1, .int (-1)]))]) [0] (by decide) rfl
  refine go_i (k1 := 0) (n1 := 0) (wr := []) [0] [] (rn_V (As := [.ref sq_1]) (rest := []) (c_X8_isWord l D ct rd t0 sf 1 0 1 (-1) sq_1 (by decide) _) (cb_of (n := 1) hn mw_525 mw_8 mw_522 mhX8_isWord ⟨Nat.le_of_ble_eq_true rfl, Nat.le_of_ble_eq_true rfl⟩) hx hb hml hown hn hK hPc hDc mw_524 mw_s17 (ci := 8) (q0 := 0) rfl rfl rfl rfl hl.1 (Nat.le_of_ble_eq_true rfl) dX8_protocol_3 ⟨(Nat.le_of_ble_eq_true rfl), (Nat.le_of_ble_eq_true rfl)⟩) hP hD hS hA rfl rfl (by decide) (by decide) (Nat.le_of_ble_eq_true rfl) (Nat.le_of_ble_eq_true rfl) (fun r_2 u_3 H locs hp_4 hP hD hS => ?_)
  have hr_2 := hp_4
  rw [show r_2 = 0 from hr_2]
  have hP : va_P D vwCl [(rd, .inr (8, [.ref t0, .ref sf, .int 1, .int 0, .int 1, .int (-1)]))] _ := hP
  have hD : va_D A [(rd, .inr (8, [.ref t0, .ref sf, .int 1, .int 0, .int 1, .int (-1)]))] := hD
  refine lv_if_eq (tgt := 13) hx hb dX8_protocol_6 (by decide) (fun c_5 => ?_) (fun c_5 => absurd (by decide) c_5)
  refine lv_aload_n hx hb dX8_protocol_13 rfl (lv_at hl 0 rfl) ?_
  obtain ⟨sq_6, hsq_6⟩ := hn.2.1 _ _ _ mw_x604
  refine va_ldcS hx hb hown hsq_6 dX8_protocol_14 ?_
  have hPc := hP.sub (ws' := [(rd, .inr (8, [.ref t0, .ref sf, .int 1, .int 0, .int 1, .int (-1)]))]) [0] rfl
  have hDc := hD.sub (ws' := [(rd, .inr (8, [.ref t0, .ref sf, .int 1, .int 0, .int 1, .int (-1)]))]) [0] (by decide) rfl
  refine go_i (k1 := 0) (n1 := 0) (wr := []) [0] [] (rn_V (As := [.ref sq_6]) (rest := []) (c_X8_isWord l D ct rd t0 sf 1 0 1 (-1) sq_6 (by decide) _) (cb_of (n := 1) hn mw_525 mw_8 mw_522 mhX8_isWord ⟨Nat.le_of_ble_eq_true rfl, Nat.le_of_ble_eq_true rfl⟩) hx hb hml hown hn hK hPc hDc mw_524 mw_s17 (ci := 8) (q0 := 0) rfl rfl rfl rfl hl.1 (Nat.le_of_ble_eq_true rfl) dX8_protocol_16 ⟨(Nat.le_of_ble_eq_true rfl), (Nat.le_of_ble_eq_true rfl)⟩) hP hD hS hA rfl rfl (by decide) (by decide) (Nat.le_of_ble_eq_true rfl) (Nat.le_of_ble_eq_true rfl) (fun r_7 u_8 H locs hp_9 hP hD hS => ?_)
  have hr_7 := hp_9
  rw [show r_7 = 0 from hr_7]
  have hP : va_P D vwCl [(rd, .inr (8, [.ref t0, .ref sf, .int 1, .int 0, .int 1, .int (-1)]))] _ := hP
  have hD : va_D A [(rd, .inr (8, [.ref t0, .ref sf, .int 1, .int 0, .int 1, .int (-1)]))] := hD
  refine lv_if_eq (tgt := 26) hx hb dX8_protocol_19 (by decide) (fun c_10 => ?_) (fun c_10 => absurd (by decide) c_10)
  refine lv_aload_n hx hb dX8_protocol_26 rfl (lv_at hl 0 rfl) ?_
  obtain ⟨sq_11, hsq_11⟩ := hn.2.1 _ _ _ mw_x605
  refine va_ldcS hx hb hown hsq_11 dX8_protocol_27 ?_
  have hPc := hP.sub (ws' := [(rd, .inr (8, [.ref t0, .ref sf, .int 1, .int 0, .int 1, .int (-1)]))]) [0] rfl
  have hDc := hD.sub (ws' := [(rd, .inr (8, [.ref t0, .ref sf, .int 1, .int 0, .int 1, .int (-1)]))]) [0] (by decide) rfl
  refine go_i (k1 := 0) (n1 := 0) (wr := []) [0] [] (rn_V (As := [.ref sq_11]) (rest := []) (c_X8_isWord l D ct rd t0 sf 1 0 1 (-1) sq_11 (by decide) _) (cb_of (n := 1) hn mw_525 mw_8 mw_522 mhX8_isWord ⟨Nat.le_of_ble_eq_true rfl, Nat.le_of_ble_eq_true rfl⟩) hx hb hml hown hn hK hPc hDc mw_524 mw_s17 (ci := 8) (q0 := 0) rfl rfl rfl rfl hl.1 (Nat.le_of_ble_eq_true rfl) dX8_protocol_29 ⟨(Nat.le_of_ble_eq_true rfl), (Nat.le_of_ble_eq_true rfl)⟩) hP hD hS hA rfl rfl (by decide) (by decide) (Nat.le_of_ble_eq_true rfl) (Nat.le_of_ble_eq_true rfl) (fun r_12 u_13 H locs hp_14 hP hD hS => ?_)
  have hr_12 := hp_14
  rw [show r_12 = 0 from hr_12]
  have hP : va_P D vwCl [(rd, .inr (8, [.ref t0, .ref sf, .int 1, .int 0, .int 1, .int (-1)]))] _ := hP
  have hD : va_D A [(rd, .inr (8, [.ref t0, .ref sf, .int 1, .int 0, .int 1, .int (-1)]))] := hD
  refine lv_if_eq (tgt := 39) hx hb dX8_protocol_32 (by decide) (fun c_15 => ?_) (fun c_15 => absurd (by decide) c_15)
  refine lv_aload_n hx hb dX8_protocol_39 rfl (lv_at hl 0 rfl) ?_
  obtain ⟨sq_16, hsq_16⟩ := hn.2.1 _ _ _ mw_x606
  refine va_ldcS hx hb hown hsq_16 dX8_protocol_40 ?_
  have hPc := hP.sub (ws' := [(rd, .inr (8, [.ref t0, .ref sf, .int 1, .int 0, .int 1, .int (-1)]))]) [0] rfl
  have hDc := hD.sub (ws' := [(rd, .inr (8, [.ref t0, .ref sf, .int 1, .int 0, .int 1, .int (-1)]))]) [0] (by decide) rfl
  refine go_i (k1 := 0) (n1 := 0) (wr := []) [0] [] (rn_V (As := [.ref sq_16]) (rest := []) (c_X8_isWord l D ct rd t0 sf 1 0 1 (-1) sq_16 (by decide) _) (cb_of (n := 1) hn mw_525 mw_8 mw_522 mhX8_isWord ⟨Nat.le_of_ble_eq_true rfl, Nat.le_of_ble_eq_true rfl⟩) hx hb hml hown hn hK hPc hDc mw_524 mw_s17 (ci := 8) (q0 := 0) rfl rfl rfl rfl hl.1 (Nat.le_of_ble_eq_true rfl) dX8_protocol_42 ⟨(Nat.le_of_ble_eq_true rfl), (Nat.le_of_ble_eq_true rfl)⟩) hP hD hS hA rfl rfl (by decide) (by decide) (Nat.le_of_ble_eq_true rfl) (Nat.le_of_ble_eq_true rfl) (fun r_17 u_18 H locs hp_19 hP hD hS => ?_)
  have hr_17 := hp_19
  rw [show r_17 = 0 from hr_17]
  have hP : va_P D vwCl [(rd, .inr (8, [.ref t0, .ref sf, .int 1, .int 0, .int 1, .int (-1)]))] _ := hP
  have hD : va_D A [(rd, .inr (8, [.ref t0, .ref sf, .int 1, .int 0, .int 1, .int (-1)]))] := hD
  refine lv_if_eq (tgt := 52) hx hb dX8_protocol_45 (by decide) (fun c_20 => ?_) (fun c_20 => absurd (by decide) c_20)
  refine lv_aload_n hx hb dX8_protocol_52 rfl (lv_at hl 0 rfl) ?_
  obtain ⟨sq_21, hsq_21⟩ := hn.2.1 _ _ _ mw_x607
  refine va_ldcS hx hb hown hsq_21 dX8_protocol_53 ?_
  have hPc := hP.sub (ws' := [(rd, .inr (8, [.ref t0, .ref sf, .int 1, .int 0, .int 1, .int (-1)]))]) [0] rfl
  have hDc := hD.sub (ws' := [(rd, .inr (8, [.ref t0, .ref sf, .int 1, .int 0, .int 1, .int (-1)]))]) [0] (by decide) rfl
  refine go_i (k1 := 0) (n1 := 0) (wr := []) [0] [] (rn_V (As := [.ref sq_21]) (rest := []) (c_X8_isWord l D ct rd t0 sf 1 0 1 (-1) sq_21 (by decide) _) (cb_of (n := 1) hn mw_525 mw_8 mw_522 mhX8_isWord ⟨Nat.le_of_ble_eq_true rfl, Nat.le_of_ble_eq_true rfl⟩) hx hb hml hown hn hK hPc hDc mw_524 mw_s17 (ci := 8) (q0 := 0) rfl rfl rfl rfl hl.1 (Nat.le_of_ble_eq_true rfl) dX8_protocol_55 ⟨(Nat.le_of_ble_eq_true rfl), (Nat.le_of_ble_eq_true rfl)⟩) hP hD hS hA rfl rfl (by decide) (by decide) (Nat.le_of_ble_eq_true rfl) (Nat.le_of_ble_eq_true rfl) (fun r_22 u_23 H locs hp_24 hP hD hS => ?_)
  have hr_22 := hp_24
  rw [show r_22 = 0 from hr_22]
  have hP : va_P D vwCl [(rd, .inr (8, [.ref t0, .ref sf, .int 1, .int 0, .int 1, .int (-1)]))] _ := hP
  have hD : va_D A [(rd, .inr (8, [.ref t0, .ref sf, .int 1, .int 0, .int 1, .int (-1)]))] := hD
  refine lv_if_eq (tgt := 65) hx hb dX8_protocol_58 (by decide) (fun c_25 => ?_) (fun c_25 => absurd (by decide) c_25)
  refine lv_aload_n hx hb dX8_protocol_65 rfl (lv_at hl 0 rfl) ?_
  obtain ⟨sq_26, hsq_26⟩ := hn.2.1 _ _ _ mw_x608
  refine va_ldcS hx hb hown hsq_26 dX8_protocol_66 ?_
  have hPc := hP.sub (ws' := [(rd, .inr (8, [.ref t0, .ref sf, .int 1, .int 0, .int 1, .int (-1)]))]) [0] rfl
  have hDc := hD.sub (ws' := [(rd, .inr (8, [.ref t0, .ref sf, .int 1, .int 0, .int 1, .int (-1)]))]) [0] (by decide) rfl
  refine go_i (k1 := 0) (n1 := 0) (wr := []) [0] [] (rn_V (As := [.ref sq_26]) (rest := []) (c_X8_isWord l D ct rd t0 sf 1 0 1 (-1) sq_26 (by decide) _) (cb_of (n := 1) hn mw_525 mw_8 mw_522 mhX8_isWord ⟨Nat.le_of_ble_eq_true rfl, Nat.le_of_ble_eq_true rfl⟩) hx hb hml hown hn hK hPc hDc mw_524 mw_s17 (ci := 8) (q0 := 0) rfl rfl rfl rfl hl.1 (Nat.le_of_ble_eq_true rfl) dX8_protocol_68 ⟨(Nat.le_of_ble_eq_true rfl), (Nat.le_of_ble_eq_true rfl)⟩) hP hD hS hA rfl rfl (by decide) (by decide) (Nat.le_of_ble_eq_true rfl) (Nat.le_of_ble_eq_true rfl) (fun r_27 u_28 H locs hp_29 hP hD hS => ?_)
  have hr_27 := hp_29
  rw [show r_27 = 0 from hr_27]
  have hP : va_P D vwCl [(rd, .inr (8, [.ref t0, .ref sf, .int 1, .int 0, .int 1, .int (-1)]))] _ := hP
  have hD : va_D A [(rd, .inr (8, [.ref t0, .ref sf, .int 1, .int 0, .int 1, .int (-1)]))] := hD
  refine lv_if_eq (tgt := 78) hx hb dX8_protocol_71 (by decide) (fun c_30 => ?_) (fun c_30 => absurd (by decide) c_30)
  refine lv_aload_n hx hb dX8_protocol_78 rfl (lv_at hl 0 rfl) ?_
  obtain ⟨sq_31, hsq_31⟩ := hn.2.1 _ _ _ mw_x609
  refine va_ldcS hx hb hown hsq_31 dX8_protocol_79 ?_
  have hPc := hP.sub (ws' := [(rd, .inr (8, [.ref t0, .ref sf, .int 1, .int 0, .int 1, .int (-1)]))]) [0] rfl
  have hDc := hD.sub (ws' := [(rd, .inr (8, [.ref t0, .ref sf, .int 1, .int 0, .int 1, .int (-1)]))]) [0] (by decide) rfl
  refine go_i (k1 := 0) (n1 := 0) (wr := []) [0] [] (rn_V (As := [.ref sq_31]) (rest := []) (c_X8_isWord l D ct rd t0 sf 1 0 1 (-1) sq_31 (by decide) _) (cb_of (n := 1) hn mw_525 mw_8 mw_522 mhX8_isWord ⟨Nat.le_of_ble_eq_true rfl, Nat.le_of_ble_eq_true rfl⟩) hx hb hml hown hn hK hPc hDc mw_524 mw_s17 (ci := 8) (q0 := 0) rfl rfl rfl rfl hl.1 (Nat.le_of_ble_eq_true rfl) dX8_protocol_81 ⟨(Nat.le_of_ble_eq_true rfl), (Nat.le_of_ble_eq_true rfl)⟩) hP hD hS hA rfl rfl (by decide) (by decide) (Nat.le_of_ble_eq_true rfl) (Nat.le_of_ble_eq_true rfl) (fun r_32 u_33 H locs hp_34 hP hD hS => ?_)
  have hr_32 := hp_34
  rw [show r_32 = 0 from hr_32]
  have hP : va_P D vwCl [(rd, .inr (8, [.ref t0, .ref sf, .int 1, .int 0, .int 1, .int (-1)]))] _ := hP
  have hD : va_D A [(rd, .inr (8, [.ref t0, .ref sf, .int 1, .int 0, .int 1, .int (-1)]))] := hD
  refine lv_if_eq (tgt := 92) hx hb dX8_protocol_84 (by decide) (fun c_35 => ?_) (fun c_35 => absurd (by decide) c_35)
  refine lv_iconst (v := (-1)) hx hb dX8_protocol_92 (by decide) ?_
  exact end_i hx hb hr hlocks dX8_protocol_93 rfl () rfl hP hD hS [0] rfl (by decide) rfl (Nat.le_of_ble_eq_true rfl) (Nat.le_of_ble_eq_true rfl)
set_option maxHeartbeats 4000000 in
set_option maxRecDepth 100000 in
theorem c_X8_beginsRelation (l : Launch) (D : va_G) (ct : Nat → ClassId) (rd : Nat) (t0 : Nat) (sf : Nat)  : KI (S := Unit) l yX8_beginsRelation cX8_beginsRelation 1 (some .boolean) 3 62 D ct [.ref rd] [(rd, .inr (8, [.ref t0, .ref sf, .int 1, .int 0, .int 1, .int (-1)]))] 0 0 (fun r _ => r = 0) (fun (_ : Unit) => [(rd, .inr (8, [.ref t0, .ref sf, .int 1, .int 0, .int 1, .int (-1)]))]) := by
  refine KI_of (by decide) (Nat.le_of_ble_eq_true rfl) (fun p e s m below meth c A C0 hA hS hP hD ls hl => ?_)
  obtain ⟨hx, hb, hr, hown, hin, hml, hlocks, hn, hK⟩ := C0
  have hl : lv_has ls 1 [(0, .ref rd)] := hl
  refine lv_aload_n hx hb dX8_beginsRelation_0 rfl (lv_at hl 0 rfl) ?_
  refine va_get (D := D) (ci := 8) (v := .int 1) (C := RX8) (T := TX8) (N := 6) hx hb (htX8 hn) (fun _ h => h) hown hK hP 0 rfl rfl 2 (by decide) (hn.get mw_243 rfl) (fun _ h9 => h9) rfl dX8_beginsRelation_1 ?_
  refine lv_bipush (v := 123) hx hb dX8_beginsRelation_4 (by decide) ?_
  refine lv_icmp_eq (tgt := 36) hx hb dX8_beginsRelation_6 (by decide) (fun c_1 => absurd c_1 (by decide)) (fun c_1 => ?_)
  refine lv_aload_n hx hb dX8_beginsRelation_9 rfl (lv_at hl 0 rfl) ?_
  refine va_get (D := D) (ci := 8) (v := .int 1) (C := RX8) (T := TX8) (N := 6) hx hb (htX8 hn) (fun _ h => h) hown hK hP 0 rfl rfl 2 (by decide) (hn.get mw_243 rfl) (fun _ h9 => h9) rfl dX8_beginsRelation_10 ?_
  refine lv_bipush (v := 45) hx hb dX8_beginsRelation_13 (by decide) ?_
  refine lv_icmp_eq (tgt := 36) hx hb dX8_beginsRelation_15 (by decide) (fun c_2 => absurd c_2 (by decide)) (fun c_2 => ?_)
  refine lv_aload_n hx hb dX8_beginsRelation_18 rfl (lv_at hl 0 rfl) ?_
  obtain ⟨sq_3, hsq_3⟩ := hn.2.1 _ _ _ mw_x578
  refine va_ldcS hx hb hown hsq_3 dX8_beginsRelation_19 ?_
  have hPc := hP.sub (ws' := [(rd, .inr (8, [.ref t0, .ref sf, .int 1, .int 0, .int 1, .int (-1)]))]) [0] rfl
  have hDc := hD.sub (ws' := [(rd, .inr (8, [.ref t0, .ref sf, .int 1, .int 0, .int 1, .int (-1)]))]) [0] (by decide) rfl
  refine go_i (k1 := 0) (n1 := 0) (wr := []) [0] [] (rn_V (As := [.ref sq_3]) (rest := []) (c_X8_isWord l D ct rd t0 sf 1 0 1 (-1) sq_3 (by decide) _) (cb_of (n := 1) hn mw_525 mw_8 mw_522 mhX8_isWord ⟨Nat.le_of_ble_eq_true rfl, Nat.le_of_ble_eq_true rfl⟩) hx hb hml hown hn hK hPc hDc mw_524 mw_s17 (ci := 8) (q0 := 0) rfl rfl rfl rfl hl.1 (Nat.le_of_ble_eq_true rfl) dX8_beginsRelation_21 ⟨(Nat.le_of_ble_eq_true rfl), (Nat.le_of_ble_eq_true rfl)⟩) hP hD hS hA rfl rfl (by decide) (by decide) (Nat.le_of_ble_eq_true rfl) (Nat.le_of_ble_eq_true rfl) (fun r_4 u_5 H locs hp_6 hP hD hS => ?_)
  have hr_4 := hp_6
  rw [show r_4 = 0 from hr_4]
  have hP : va_P D vwCl [(rd, .inr (8, [.ref t0, .ref sf, .int 1, .int 0, .int 1, .int (-1)]))] _ := hP
  have hD : va_D A [(rd, .inr (8, [.ref t0, .ref sf, .int 1, .int 0, .int 1, .int (-1)]))] := hD
  refine lv_if_ne (tgt := 36) hx hb dX8_beginsRelation_24 (by decide) (fun c_7 => absurd (by decide) c_7) (fun c_7 => ?_)
  refine lv_aload_n hx hb dX8_beginsRelation_27 rfl (lv_at hl 0 rfl) ?_
  have hPc := hP.sub (ws' := [(rd, .inr (8, [.ref t0, .ref sf, .int 1, .int 0, .int 1, .int (-1)]))]) [0] rfl
  have hDc := hD.sub (ws' := [(rd, .inr (8, [.ref t0, .ref sf, .int 1, .int 0, .int 1, .int (-1)]))]) [0] (by decide) rfl
  refine go_l (k1 := 0) (n1 := 0) (wr := []) [0] [] (rn_V (As := []) (rest := []) (c_X8_number l D ct rd t0 sf  _) (cb_of (n := 0) hn mw_582 mw_8 mw_579 mhX8_number ⟨Nat.le_of_ble_eq_true rfl, Nat.le_of_ble_eq_true rfl⟩) hx hb hml hown hn hK hPc hDc mw_581 mw_s19 (ci := 8) (q0 := 0) rfl rfl rfl rfl hl.1 (Nat.le_of_ble_eq_true rfl) dX8_beginsRelation_28 ⟨(Nat.le_of_ble_eq_true rfl), (Nat.le_of_ble_eq_true rfl)⟩) hP hD hS hA rfl rfl (by decide) (by decide) (Nat.le_of_ble_eq_true rfl) (Nat.le_of_ble_eq_true rfl) (fun r_8 u_9 H locs hp_10 hP hD hS => ?_)
  have hr_8 := hp_10
  rw [show r_8 = (-1) from hr_8]
  have hP : va_P D vwCl [(rd, .inr (8, [.ref t0, .ref sf, .int 1, .int 0, .int 1, .int (-1)]))] _ := hP
  have hD : va_D A [(rd, .inr (8, [.ref t0, .ref sf, .int 1, .int 0, .int 1, .int (-1)]))] := hD
  refine lv_lconst (v := 0) hx hb dX8_beginsRelation_31 (by decide) ?_
  refine W.lcmp hx hb dX8_beginsRelation_32 ?_
  refine top_c (v := (-1)) (by decide) ?_
  refine lv_if_lt (tgt := 38) hx hb dX8_beginsRelation_33 (by decide) (fun c_11 => ?_) (fun c_11 => absurd (by decide) c_11)
  refine lv_aload_n hx hb dX8_beginsRelation_38 rfl (lv_at hl 0 rfl) ?_
  have hPc := hP.sub (ws' := [(rd, .inr (8, [.ref t0, .ref sf, .int 1, .int 0, .int 1, .int (-1)]))]) [0] rfl
  have hDc := hD.sub (ws' := [(rd, .inr (8, [.ref t0, .ref sf, .int 1, .int 0, .int 1, .int (-1)]))]) [0] (by decide) rfl
  refine go_i (k1 := 0) (n1 := 0) (wr := []) [0] [] (rn_V (As := []) (rest := []) (c_X8_protocol l D ct rd t0 sf  _) (cb_of (n := 0) hn mw_602 mw_8 mw_599 mhX8_protocol ⟨Nat.le_of_ble_eq_true rfl, Nat.le_of_ble_eq_true rfl⟩) hx hb hml hown hn hK hPc hDc mw_601 mw_s22 (ci := 8) (q0 := 0) rfl rfl rfl rfl hl.1 (Nat.le_of_ble_eq_true rfl) dX8_beginsRelation_39 ⟨(Nat.le_of_ble_eq_true rfl), (Nat.le_of_ble_eq_true rfl)⟩) hP hD hS hA rfl rfl (by decide) (by decide) (Nat.le_of_ble_eq_true rfl) (Nat.le_of_ble_eq_true rfl) (fun r_12 u_13 H locs hp_14 hP hD hS => ?_)
  have hr_12 := hp_14
  rw [show r_12 = (-1) from hr_12]
  have hP : va_P D vwCl [(rd, .inr (8, [.ref t0, .ref sf, .int 1, .int 0, .int 1, .int (-1)]))] _ := hP
  have hD : va_D A [(rd, .inr (8, [.ref t0, .ref sf, .int 1, .int 0, .int 1, .int (-1)]))] := hD
  refine lv_if_lt (tgt := 69) hx hb dX8_beginsRelation_42 (by decide) (fun c_15 => ?_) (fun c_15 => absurd (by decide) c_15)
  refine lv_iconst (v := 0) hx hb dX8_beginsRelation_69 (by decide) ?_
  exact end_i hx hb hr hlocks dX8_beginsRelation_70 (by decide) () rfl hP hD hS [0] rfl (by decide) rfl (Nat.le_of_ble_eq_true rfl) (Nat.le_of_ble_eq_true rfl)
set_option maxHeartbeats 4000000 in
set_option maxRecDepth 100000 in
theorem c_X8_readLength (l : Launch) (D : va_G) (ct : Nat → ClassId) (rd : Nat) (t0 : Nat) (sf : Nat)  : KV (S := Unit) l yX8_readLength cX8_readLength 4 none 2 42 D ct [.ref rd, .int 3, .int 2] [(rd, .inr (8, [.ref t0, .ref sf, .int 1, .int 0, .int 1, .int (-1)]))] 0 0 (fun _ => True) (fun (_ : Unit) => [(rd, .inr (8, [.ref t0, .ref sf, .int 3, .int 0, .int 1, .int 0]))]) := by
  refine KV_of (by decide) (Nat.le_of_ble_eq_true rfl) (fun p e s m below meth c A C0 hA hS hP hD ls hl => ?_)
  obtain ⟨hx, hb, hr, hown, hin, hml, hlocks, hn, hK⟩ := C0
  have hl : lv_has ls 4 [(0, .ref rd), (1, .int 3), (2, .int 2)] := hl
  refine lv_aload_n hx hb dX8_readLength_0 rfl (lv_at hl 0 rfl) ?_
  obtain ⟨sq_1, hsq_1⟩ := hn.2.1 _ _ _ mw_x791
  refine va_ldcS hx hb hown hsq_1 dX8_readLength_1 ?_
  have hPc := hP.sub (ws' := [(rd, .inr (8, [.ref t0, .ref sf, .int 1, .int 0, .int 1, .int (-1)]))]) [0] rfl
  have hDc := hD.sub (ws' := [(rd, .inr (8, [.ref t0, .ref sf, .int 1, .int 0, .int 1, .int (-1)]))]) [0] (by decide) rfl
  refine go_i (k1 := 0) (n1 := 0) (wr := []) [0] [] (rn_V (As := [.ref sq_1]) (rest := []) (c_X8_isWord l D ct rd t0 sf 1 0 1 (-1) sq_1 (by decide) _) (cb_of (n := 1) hn mw_525 mw_8 mw_522 mhX8_isWord ⟨Nat.le_of_ble_eq_true rfl, Nat.le_of_ble_eq_true rfl⟩) hx hb hml hown hn hK hPc hDc mw_524 mw_s17 (ci := 8) (q0 := 0) rfl rfl rfl rfl hl.1 (Nat.le_of_ble_eq_true rfl) dX8_readLength_3 ⟨(Nat.le_of_ble_eq_true rfl), (Nat.le_of_ble_eq_true rfl)⟩) hP hD hS hA rfl rfl (by decide) (by decide) (Nat.le_of_ble_eq_true rfl) (Nat.le_of_ble_eq_true rfl) (fun r_2 u_3 H locs hp_4 hP hD hS => ?_)
  have hr_2 := hp_4
  rw [show r_2 = 0 from hr_2]
  have hP : va_P D vwCl [(rd, .inr (8, [.ref t0, .ref sf, .int 1, .int 0, .int 1, .int (-1)]))] _ := hP
  have hD : va_D A [(rd, .inr (8, [.ref t0, .ref sf, .int 1, .int 0, .int 1, .int (-1)]))] := hD
  refine lv_istore_n (lv' := [(3, .int 0), (0, .ref rd), (1, .int 3), (2, .int 2)]) hx hb dX8_readLength_6 rfl hl (by decide) rfl (fun ls hl => ?_)
  refine lv_iload_n hx hb dX8_readLength_7 rfl (lv_at hl 0 rfl) ?_
  refine lv_if_ne (tgt := 25) hx hb dX8_readLength_8 (by decide) (fun c_5 => absurd (by decide) c_5) (fun c_5 => ?_)
  refine lv_aload_n hx hb dX8_readLength_11 rfl (lv_at hl 1 rfl) ?_
  obtain ⟨sq_6, hsq_6⟩ := hn.2.1 _ _ _ mw_x792
  refine va_ldcS hx hb hown hsq_6 dX8_readLength_12 ?_
  have hPc := hP.sub (ws' := [(rd, .inr (8, [.ref t0, .ref sf, .int 1, .int 0, .int 1, .int (-1)]))]) [0] rfl
  have hDc := hD.sub (ws' := [(rd, .inr (8, [.ref t0, .ref sf, .int 1, .int 0, .int 1, .int (-1)]))]) [0] (by decide) rfl
  refine go_i (k1 := 0) (n1 := 0) (wr := []) [0] [] (rn_V (As := [.ref sq_6]) (rest := []) (c_X8_isWord l D ct rd t0 sf 1 0 1 (-1) sq_6 (by decide) _) (cb_of (n := 1) hn mw_525 mw_8 mw_522 mhX8_isWord ⟨Nat.le_of_ble_eq_true rfl, Nat.le_of_ble_eq_true rfl⟩) hx hb hml hown hn hK hPc hDc mw_524 mw_s17 (ci := 8) (q0 := 0) rfl rfl rfl rfl hl.1 (Nat.le_of_ble_eq_true rfl) dX8_readLength_14 ⟨(Nat.le_of_ble_eq_true rfl), (Nat.le_of_ble_eq_true rfl)⟩) hP hD hS hA rfl rfl (by decide) (by decide) (Nat.le_of_ble_eq_true rfl) (Nat.le_of_ble_eq_true rfl) (fun r_7 u_8 H locs hp_9 hP hD hS => ?_)
  have hr_7 := hp_9
  rw [show r_7 = 0 from hr_7]
  have hP : va_P D vwCl [(rd, .inr (8, [.ref t0, .ref sf, .int 1, .int 0, .int 1, .int (-1)]))] _ := hP
  have hD : va_D A [(rd, .inr (8, [.ref t0, .ref sf, .int 1, .int 0, .int 1, .int (-1)]))] := hD
  refine lv_if_ne (tgt := 25) hx hb dX8_readLength_17 (by decide) (fun c_10 => absurd (by decide) c_10) (fun c_10 => ?_)
  refine lv_aload_n hx hb dX8_readLength_20 rfl (lv_at hl 1 rfl) ?_
  have hPc := hP.sub (ws' := [(rd, .inr (8, [.ref t0, .ref sf, .int 1, .int 0, .int 1, .int (-1)]))]) [0] rfl
  have hDc := hD.sub (ws' := [(rd, .inr (8, [.ref t0, .ref sf, .int 1, .int 0, .int 1, .int (-1)]))]) [0] (by decide) rfl
  refine go_v (k1 := 0) (n1 := 0) (wr := []) [0] [] (rn_V (As := []) (rest := []) (c_X8_fail_a l D ct rd t0 sf 1 0 1  _) (cb_of (n := 0) hn mw_504 mw_8 mw_501 mhX8_fail ⟨Nat.le_of_ble_eq_true rfl, Nat.le_of_ble_eq_true rfl⟩) hx hb hml hown hn hK hPc hDc mw_503 mw_s12 (ci := 8) (q0 := 0) rfl rfl rfl rfl hl.1 (Nat.le_of_ble_eq_true rfl) dX8_readLength_21 ⟨(Nat.le_of_ble_eq_true rfl), (Nat.le_of_ble_eq_true rfl)⟩) hP hD hS hA rfl rfl (by decide) (by decide) (Nat.le_of_ble_eq_true rfl) (Nat.le_of_ble_eq_true rfl) (fun u_12 H locs hp_13 hP hD hS => ?_)
  have hP : va_P D vwCl [(rd, .inr (8, [.ref t0, .ref sf, .int 3, .int 0, .int 1, .int 0]))] _ := hP
  have hD : va_D A [(rd, .inr (8, [.ref t0, .ref sf, .int 3, .int 0, .int 1, .int 0]))] := hD
  exact end_v hx hb hr hlocks dX8_readLength_24 () trivial hP hD hS [0] rfl (by decide) rfl (Nat.le_of_ble_eq_true rfl) (Nat.le_of_ble_eq_true rfl)
set_option maxHeartbeats 4000000 in
set_option maxRecDepth 100000 in
theorem c_X8_readSided (l : Launch) (D : va_G) (ct : Nat → ClassId) (rd : Nat) (t0 : Nat) (sf : Nat)  : KV (S := Unit) l yX8_readSided cX8_readSided 7 none 3 65 D ct [.ref rd, .int 3, .int 2] [(rd, .inr (8, [.ref t0, .ref sf, .int 1, .int 0, .int 1, .int (-1)]))] 0 0 (fun _ => True) (fun (_ : Unit) => [(rd, .inr (8, [.ref t0, .ref sf, .int 3, .int 0, .int 1, .int 0]))]) := by
  refine KV_of (by decide) (Nat.le_of_ble_eq_true rfl) (fun p e s m below meth c A C0 hA hS hP hD ls hl => ?_)
  obtain ⟨hx, hb, hr, hown, hin, hml, hlocks, hn, hK⟩ := C0
  have hl : lv_has ls 7 [(0, .ref rd), (1, .int 3), (2, .int 2)] := hl
  refine lv_aload_n hx hb dX8_readSided_0 rfl (lv_at hl 0 rfl) ?_
  obtain ⟨sq_1, hsq_1⟩ := hn.2.1 _ _ _ mw_x740
  refine va_ldcS hx hb hown hsq_1 dX8_readSided_1 ?_
  have hPc := hP.sub (ws' := [(rd, .inr (8, [.ref t0, .ref sf, .int 1, .int 0, .int 1, .int (-1)]))]) [0] rfl
  have hDc := hD.sub (ws' := [(rd, .inr (8, [.ref t0, .ref sf, .int 1, .int 0, .int 1, .int (-1)]))]) [0] (by decide) rfl
  refine go_i (k1 := 0) (n1 := 0) (wr := []) [0] [] (rn_V (As := [.ref sq_1]) (rest := []) (c_X8_isWord l D ct rd t0 sf 1 0 1 (-1) sq_1 (by decide) _) (cb_of (n := 1) hn mw_525 mw_8 mw_522 mhX8_isWord ⟨Nat.le_of_ble_eq_true rfl, Nat.le_of_ble_eq_true rfl⟩) hx hb hml hown hn hK hPc hDc mw_524 mw_s17 (ci := 8) (q0 := 0) rfl rfl rfl rfl hl.1 (Nat.le_of_ble_eq_true rfl) dX8_readSided_3 ⟨(Nat.le_of_ble_eq_true rfl), (Nat.le_of_ble_eq_true rfl)⟩) hP hD hS hA rfl rfl (by decide) (by decide) (Nat.le_of_ble_eq_true rfl) (Nat.le_of_ble_eq_true rfl) (fun r_2 u_3 H locs hp_4 hP hD hS => ?_)
  have hr_2 := hp_4
  rw [show r_2 = 0 from hr_2]
  have hP : va_P D vwCl [(rd, .inr (8, [.ref t0, .ref sf, .int 1, .int 0, .int 1, .int (-1)]))] _ := hP
  have hD : va_D A [(rd, .inr (8, [.ref t0, .ref sf, .int 1, .int 0, .int 1, .int (-1)]))] := hD
  refine lv_istore_n (lv' := [(3, .int 0), (0, .ref rd), (1, .int 3), (2, .int 2)]) hx hb dX8_readSided_6 rfl hl (by decide) rfl (fun ls hl => ?_)
  refine lv_aload_n hx hb dX8_readSided_7 rfl (lv_at hl 1 rfl) ?_
  obtain ⟨sq_5, hsq_5⟩ := hn.2.1 _ _ _ mw_x741
  refine va_ldcS hx hb hown hsq_5 dX8_readSided_8 ?_
  have hPc := hP.sub (ws' := [(rd, .inr (8, [.ref t0, .ref sf, .int 1, .int 0, .int 1, .int (-1)]))]) [0] rfl
  have hDc := hD.sub (ws' := [(rd, .inr (8, [.ref t0, .ref sf, .int 1, .int 0, .int 1, .int (-1)]))]) [0] (by decide) rfl
  refine go_i (k1 := 0) (n1 := 0) (wr := []) [0] [] (rn_V (As := [.ref sq_5]) (rest := []) (c_X8_isWord l D ct rd t0 sf 1 0 1 (-1) sq_5 (by decide) _) (cb_of (n := 1) hn mw_525 mw_8 mw_522 mhX8_isWord ⟨Nat.le_of_ble_eq_true rfl, Nat.le_of_ble_eq_true rfl⟩) hx hb hml hown hn hK hPc hDc mw_524 mw_s17 (ci := 8) (q0 := 0) rfl rfl rfl rfl hl.1 (Nat.le_of_ble_eq_true rfl) dX8_readSided_10 ⟨(Nat.le_of_ble_eq_true rfl), (Nat.le_of_ble_eq_true rfl)⟩) hP hD hS hA rfl rfl (by decide) (by decide) (Nat.le_of_ble_eq_true rfl) (Nat.le_of_ble_eq_true rfl) (fun r_6 u_7 H locs hp_8 hP hD hS => ?_)
  have hr_6 := hp_8
  rw [show r_6 = 0 from hr_6]
  have hP : va_P D vwCl [(rd, .inr (8, [.ref t0, .ref sf, .int 1, .int 0, .int 1, .int (-1)]))] _ := hP
  have hD : va_D A [(rd, .inr (8, [.ref t0, .ref sf, .int 1, .int 0, .int 1, .int (-1)]))] := hD
  refine lv_istore (lv' := [(4, .int 0), (3, .int 0), (0, .ref rd), (1, .int 3), (2, .int 2)]) hx hb dX8_readSided_13 hl (by decide) rfl (fun ls hl => ?_)
  refine lv_iload_n hx hb dX8_readSided_15 rfl (lv_at hl 1 rfl) ?_
  refine lv_if_eq (tgt := 23) hx hb dX8_readSided_16 (by decide) (fun c_9 => ?_) (fun c_9 => absurd (by decide) c_9)
  refine lv_iload hx hb dX8_readSided_23 (lv_at hl 0 rfl) ?_
  refine lv_if_eq (tgt := 32) hx hb dX8_readSided_25 (by decide) (fun c_10 => ?_) (fun c_10 => absurd (by decide) c_10)
  refine lv_iconst (v := 0) hx hb dX8_readSided_32 (by decide) ?_
  refine lv_istore (lv' := [(5, .int 0), (4, .int 0), (3, .int 0), (0, .ref rd), (1, .int 3), (2, .int 2)]) hx hb dX8_readSided_33 hl (by decide) rfl (fun ls hl => ?_)
  refine lv_iload_n hx hb dX8_readSided_35 rfl (lv_at hl 2 rfl) ?_
  refine lv_if_ne (tgt := 44) hx hb dX8_readSided_36 (by decide) (fun c_11 => absurd (by decide) c_11) (fun c_11 => ?_)
  refine lv_iload hx hb dX8_readSided_39 (lv_at hl 1 rfl) ?_
  refine lv_if_eq (tgt := 48) hx hb dX8_readSided_41 (by decide) (fun c_12 => ?_) (fun c_12 => absurd (by decide) c_12)
  refine lv_aload_n hx hb dX8_readSided_48 rfl (lv_at hl 3 rfl) ?_
  obtain ⟨sq_13, hsq_13⟩ := hn.2.1 _ _ _ mw_x742
  refine va_ldcS hx hb hown hsq_13 dX8_readSided_49 ?_
  have hPc := hP.sub (ws' := [(rd, .inr (8, [.ref t0, .ref sf, .int 1, .int 0, .int 1, .int (-1)]))]) [0] rfl
  have hDc := hD.sub (ws' := [(rd, .inr (8, [.ref t0, .ref sf, .int 1, .int 0, .int 1, .int (-1)]))]) [0] (by decide) rfl
  refine go_i (k1 := 0) (n1 := 0) (wr := []) [0] [] (rn_V (As := [.ref sq_13]) (rest := []) (c_X8_isWord l D ct rd t0 sf 1 0 1 (-1) sq_13 (by decide) _) (cb_of (n := 1) hn mw_525 mw_8 mw_522 mhX8_isWord ⟨Nat.le_of_ble_eq_true rfl, Nat.le_of_ble_eq_true rfl⟩) hx hb hml hown hn hK hPc hDc mw_524 mw_s17 (ci := 8) (q0 := 0) rfl rfl rfl rfl hl.1 (Nat.le_of_ble_eq_true rfl) dX8_readSided_51 ⟨(Nat.le_of_ble_eq_true rfl), (Nat.le_of_ble_eq_true rfl)⟩) hP hD hS hA rfl rfl (by decide) (by decide) (Nat.le_of_ble_eq_true rfl) (Nat.le_of_ble_eq_true rfl) (fun r_14 u_15 H locs hp_16 hP hD hS => ?_)
  have hr_14 := hp_16
  rw [show r_14 = 0 from hr_14]
  have hP : va_P D vwCl [(rd, .inr (8, [.ref t0, .ref sf, .int 1, .int 0, .int 1, .int (-1)]))] _ := hP
  have hD : va_D A [(rd, .inr (8, [.ref t0, .ref sf, .int 1, .int 0, .int 1, .int (-1)]))] := hD
  refine lv_if_eq (tgt := 81) hx hb dX8_readSided_54 (by decide) (fun c_17 => ?_) (fun c_17 => absurd (by decide) c_17)
  refine lv_aload_n hx hb dX8_readSided_81 rfl (lv_at hl 3 rfl) ?_
  obtain ⟨sq_18, hsq_18⟩ := hn.2.1 _ _ _ mw_x763
  refine va_ldcS hx hb hown hsq_18 dX8_readSided_82 ?_
  have hPc := hP.sub (ws' := [(rd, .inr (8, [.ref t0, .ref sf, .int 1, .int 0, .int 1, .int (-1)]))]) [0] rfl
  have hDc := hD.sub (ws' := [(rd, .inr (8, [.ref t0, .ref sf, .int 1, .int 0, .int 1, .int (-1)]))]) [0] (by decide) rfl
  refine go_i (k1 := 0) (n1 := 0) (wr := []) [0] [] (rn_V (As := [.ref sq_18]) (rest := []) (c_X8_isWord l D ct rd t0 sf 1 0 1 (-1) sq_18 (by decide) _) (cb_of (n := 1) hn mw_525 mw_8 mw_522 mhX8_isWord ⟨Nat.le_of_ble_eq_true rfl, Nat.le_of_ble_eq_true rfl⟩) hx hb hml hown hn hK hPc hDc mw_524 mw_s17 (ci := 8) (q0 := 0) rfl rfl rfl rfl hl.1 (Nat.le_of_ble_eq_true rfl) dX8_readSided_84 ⟨(Nat.le_of_ble_eq_true rfl), (Nat.le_of_ble_eq_true rfl)⟩) hP hD hS hA rfl rfl (by decide) (by decide) (Nat.le_of_ble_eq_true rfl) (Nat.le_of_ble_eq_true rfl) (fun r_19 u_20 H locs hp_21 hP hD hS => ?_)
  have hr_19 := hp_21
  rw [show r_19 = 0 from hr_19]
  have hP : va_P D vwCl [(rd, .inr (8, [.ref t0, .ref sf, .int 1, .int 0, .int 1, .int (-1)]))] _ := hP
  have hD : va_D A [(rd, .inr (8, [.ref t0, .ref sf, .int 1, .int 0, .int 1, .int (-1)]))] := hD
  refine lv_if_eq (tgt := 101) hx hb dX8_readSided_87 (by decide) (fun c_22 => ?_) (fun c_22 => absurd (by decide) c_22)
  refine lv_aload_n hx hb dX8_readSided_101 rfl (lv_at hl 3 rfl) ?_
  obtain ⟨sq_23, hsq_23⟩ := hn.2.1 _ _ _ mw_x769
  refine va_ldcS hx hb hown hsq_23 dX8_readSided_102 ?_
  have hPc := hP.sub (ws' := [(rd, .inr (8, [.ref t0, .ref sf, .int 1, .int 0, .int 1, .int (-1)]))]) [0] rfl
  have hDc := hD.sub (ws' := [(rd, .inr (8, [.ref t0, .ref sf, .int 1, .int 0, .int 1, .int (-1)]))]) [0] (by decide) rfl
  refine go_i (k1 := 0) (n1 := 0) (wr := []) [0] [] (rn_V (As := [.ref sq_23]) (rest := []) (c_X8_isWord l D ct rd t0 sf 1 0 1 (-1) sq_23 (by decide) _) (cb_of (n := 1) hn mw_525 mw_8 mw_522 mhX8_isWord ⟨Nat.le_of_ble_eq_true rfl, Nat.le_of_ble_eq_true rfl⟩) hx hb hml hown hn hK hPc hDc mw_524 mw_s17 (ci := 8) (q0 := 0) rfl rfl rfl rfl hl.1 (Nat.le_of_ble_eq_true rfl) dX8_readSided_104 ⟨(Nat.le_of_ble_eq_true rfl), (Nat.le_of_ble_eq_true rfl)⟩) hP hD hS hA rfl rfl (by decide) (by decide) (Nat.le_of_ble_eq_true rfl) (Nat.le_of_ble_eq_true rfl) (fun r_24 u_25 H locs hp_26 hP hD hS => ?_)
  have hr_24 := hp_26
  rw [show r_24 = 0 from hr_24]
  have hP : va_P D vwCl [(rd, .inr (8, [.ref t0, .ref sf, .int 1, .int 0, .int 1, .int (-1)]))] _ := hP
  have hD : va_D A [(rd, .inr (8, [.ref t0, .ref sf, .int 1, .int 0, .int 1, .int (-1)]))] := hD
  refine lv_if_eq (tgt := 141) hx hb dX8_readSided_107 (by decide) (fun c_27 => ?_) (fun c_27 => absurd (by decide) c_27)
  refine lv_aload_n hx hb dX8_readSided_141 rfl (lv_at hl 3 rfl) ?_
  obtain ⟨sq_28, hsq_28⟩ := hn.2.1 _ _ _ mw_x786
  refine va_ldcS hx hb hown hsq_28 dX8_readSided_142 ?_
  have hPc := hP.sub (ws' := [(rd, .inr (8, [.ref t0, .ref sf, .int 1, .int 0, .int 1, .int (-1)]))]) [0] rfl
  have hDc := hD.sub (ws' := [(rd, .inr (8, [.ref t0, .ref sf, .int 1, .int 0, .int 1, .int (-1)]))]) [0] (by decide) rfl
  refine go_i (k1 := 0) (n1 := 0) (wr := []) [0] [] (rn_V (As := [.ref sq_28]) (rest := []) (c_X8_isWord l D ct rd t0 sf 1 0 1 (-1) sq_28 (by decide) _) (cb_of (n := 1) hn mw_525 mw_8 mw_522 mhX8_isWord ⟨Nat.le_of_ble_eq_true rfl, Nat.le_of_ble_eq_true rfl⟩) hx hb hml hown hn hK hPc hDc mw_524 mw_s17 (ci := 8) (q0 := 0) rfl rfl rfl rfl hl.1 (Nat.le_of_ble_eq_true rfl) dX8_readSided_144 ⟨(Nat.le_of_ble_eq_true rfl), (Nat.le_of_ble_eq_true rfl)⟩) hP hD hS hA rfl rfl (by decide) (by decide) (Nat.le_of_ble_eq_true rfl) (Nat.le_of_ble_eq_true rfl) (fun r_29 u_30 H locs hp_31 hP hD hS => ?_)
  have hr_29 := hp_31
  rw [show r_29 = 0 from hr_29]
  have hP : va_P D vwCl [(rd, .inr (8, [.ref t0, .ref sf, .int 1, .int 0, .int 1, .int (-1)]))] _ := hP
  have hD : va_D A [(rd, .inr (8, [.ref t0, .ref sf, .int 1, .int 0, .int 1, .int (-1)]))] := hD
  refine lv_if_eq (tgt := 196) hx hb dX8_readSided_147 (by decide) (fun c_32 => ?_) (fun c_32 => absurd (by decide) c_32)
  refine lv_iload hx hb dX8_readSided_196 (lv_at hl 0 rfl) ?_
  refine lv_if_ne (tgt := 210) hx hb dX8_readSided_198 (by decide) (fun c_33 => absurd (by decide) c_33) (fun c_33 => ?_)
  refine lv_aload_n hx hb dX8_readSided_201 rfl (lv_at hl 3 rfl) ?_
  refine lv_iload_n hx hb dX8_readSided_202 rfl (lv_at hl 4 rfl) ?_
  refine lv_iload_n hx hb dX8_readSided_203 rfl (lv_at hl 5 rfl) ?_
  have hPc := hP.sub (ws' := [(rd, .inr (8, [.ref t0, .ref sf, .int 1, .int 0, .int 1, .int (-1)]))]) [0] rfl
  have hDc := hD.sub (ws' := [(rd, .inr (8, [.ref t0, .ref sf, .int 1, .int 0, .int 1, .int (-1)]))]) [0] (by decide) rfl
  refine go_v (k1 := 0) (n1 := 0) (wr := []) [0] [] (rn_V (As := [.int 3, .int 2]) (rest := []) (c_X8_readLength l D ct rd t0 sf  _) (cb_of (n := 2) hn mw_790 mw_8 mw_787 mhX8_readLength ⟨Nat.le_of_ble_eq_true rfl, Nat.le_of_ble_eq_true rfl⟩) hx hb hml hown hn hK hPc hDc mw_789 mw_s62 (ci := 8) (q0 := 0) rfl rfl rfl rfl hl.1 (Nat.le_of_ble_eq_true rfl) dX8_readSided_204 ⟨(Nat.le_of_ble_eq_true rfl), (Nat.le_of_ble_eq_true rfl)⟩) hP hD hS hA rfl rfl (by decide) (by decide) (Nat.le_of_ble_eq_true rfl) (Nat.le_of_ble_eq_true rfl) (fun u_35 H locs hp_36 hP hD hS => ?_)
  have hP : va_P D vwCl [(rd, .inr (8, [.ref t0, .ref sf, .int 3, .int 0, .int 1, .int 0]))] _ := hP
  have hD : va_D A [(rd, .inr (8, [.ref t0, .ref sf, .int 3, .int 0, .int 1, .int 0]))] := hD
  refine lv_goto (tgt := 214) hx hb dX8_readSided_207 (by decide) ?_
  exact end_v hx hb hr hlocks dX8_readSided_214 () trivial hP hD hS [0] rfl (by decide) rfl (Nat.le_of_ble_eq_true rfl) (Nat.le_of_ble_eq_true rfl)
set_option maxHeartbeats 4000000 in
set_option maxRecDepth 100000 in
theorem c_X8_readOne (l : Launch) (D : va_G) (ct : Nat → ClassId) (rd : Nat) (t0 : Nat) (sf : Nat)  : KV (S := Unit) l yX8_readOne cX8_readOne 5 none 4 91 D ct [.ref rd, .int 3, .int 2, .int 0] [(rd, .inr (8, [.ref t0, .ref sf, .int 1, .int 0, .int 1, .int (-1)]))] 0 0 (fun _ => True) (fun (_ : Unit) => [(rd, .inr (8, [.ref t0, .ref sf, .int 3, .int 0, .int 1, .int 0]))]) := by
  refine KV_of (by decide) (Nat.le_of_ble_eq_true rfl) (fun p e s m below meth c A C0 hA hS hP hD ls hl => ?_)
  obtain ⟨hx, hb, hr, hown, hin, hml, hlocks, hn, hK⟩ := C0
  have hl : lv_has ls 5 [(0, .ref rd), (1, .int 3), (2, .int 2), (3, .int 0)] := hl
  refine lv_aload_n hx hb dX8_readOne_0 rfl (lv_at hl 0 rfl) ?_
  obtain ⟨sq_1, hsq_1⟩ := hn.2.1 _ _ _ mw_x521
  refine va_ldcS hx hb hown hsq_1 dX8_readOne_1 ?_
  have hPc := hP.sub (ws' := [(rd, .inr (8, [.ref t0, .ref sf, .int 1, .int 0, .int 1, .int (-1)]))]) [0] rfl
  have hDc := hD.sub (ws' := [(rd, .inr (8, [.ref t0, .ref sf, .int 1, .int 0, .int 1, .int (-1)]))]) [0] (by decide) rfl
  refine go_i (k1 := 0) (n1 := 0) (wr := []) [0] [] (rn_V (As := [.ref sq_1]) (rest := []) (c_X8_isWord l D ct rd t0 sf 1 0 1 (-1) sq_1 (by decide) _) (cb_of (n := 1) hn mw_525 mw_8 mw_522 mhX8_isWord ⟨Nat.le_of_ble_eq_true rfl, Nat.le_of_ble_eq_true rfl⟩) hx hb hml hown hn hK hPc hDc mw_524 mw_s17 (ci := 8) (q0 := 0) rfl rfl rfl rfl hl.1 (Nat.le_of_ble_eq_true rfl) dX8_readOne_3 ⟨(Nat.le_of_ble_eq_true rfl), (Nat.le_of_ble_eq_true rfl)⟩) hP hD hS hA rfl rfl (by decide) (by decide) (Nat.le_of_ble_eq_true rfl) (Nat.le_of_ble_eq_true rfl) (fun r_2 u_3 H locs hp_4 hP hD hS => ?_)
  have hr_2 := hp_4
  rw [show r_2 = 0 from hr_2]
  have hP : va_P D vwCl [(rd, .inr (8, [.ref t0, .ref sf, .int 1, .int 0, .int 1, .int (-1)]))] _ := hP
  have hD : va_D A [(rd, .inr (8, [.ref t0, .ref sf, .int 1, .int 0, .int 1, .int (-1)]))] := hD
  refine lv_istore (lv' := [(4, .int 0), (0, .ref rd), (1, .int 3), (2, .int 2), (3, .int 0)]) hx hb dX8_readOne_6 hl (by decide) rfl (fun ls hl => ?_)
  refine lv_iload hx hb dX8_readOne_8 (lv_at hl 0 rfl) ?_
  refine lv_if_ne (tgt := 65) hx hb dX8_readOne_10 (by decide) (fun c_5 => absurd (by decide) c_5) (fun c_5 => ?_)
  refine lv_aload_n hx hb dX8_readOne_13 rfl (lv_at hl 1 rfl) ?_
  refine va_get (D := D) (ci := 8) (v := .int 1) (C := RX8) (T := TX8) (N := 6) hx hb (htX8 hn) (fun _ h => h) hown hK hP 0 rfl rfl 2 (by decide) (hn.get mw_243 rfl) (fun _ h9 => h9) rfl dX8_readOne_14 ?_
  refine lv_bipush (v := 40) hx hb dX8_readOne_17 (by decide) ?_
  refine lv_icmp_eq (tgt := 65) hx hb dX8_readOne_19 (by decide) (fun c_6 => absurd c_6 (by decide)) (fun c_6 => ?_)
  refine lv_aload_n hx hb dX8_readOne_22 rfl (lv_at hl 1 rfl) ?_
  have hPc := hP.sub (ws' := [(rd, .inr (8, [.ref t0, .ref sf, .int 1, .int 0, .int 1, .int (-1)]))]) [0] rfl
  have hDc := hD.sub (ws' := [(rd, .inr (8, [.ref t0, .ref sf, .int 1, .int 0, .int 1, .int (-1)]))]) [0] (by decide) rfl
  refine go_i (k1 := 0) (n1 := 0) (wr := []) [0] [] (rn_V (As := []) (rest := []) (c_X8_beginsRelation l D ct rd t0 sf  _) (cb_of (n := 0) hn mw_577 mw_8 mw_574 mhX8_beginsRelation ⟨Nat.le_of_ble_eq_true rfl, Nat.le_of_ble_eq_true rfl⟩) hx hb hml hown hn hK hPc hDc mw_576 mw_s18 (ci := 8) (q0 := 0) rfl rfl rfl rfl hl.1 (Nat.le_of_ble_eq_true rfl) dX8_readOne_23 ⟨(Nat.le_of_ble_eq_true rfl), (Nat.le_of_ble_eq_true rfl)⟩) hP hD hS hA rfl rfl (by decide) (by decide) (Nat.le_of_ble_eq_true rfl) (Nat.le_of_ble_eq_true rfl) (fun r_7 u_8 H locs hp_9 hP hD hS => ?_)
  have hr_7 := hp_9
  rw [show r_7 = 0 from hr_7]
  have hP : va_P D vwCl [(rd, .inr (8, [.ref t0, .ref sf, .int 1, .int 0, .int 1, .int (-1)]))] _ := hP
  have hD : va_D A [(rd, .inr (8, [.ref t0, .ref sf, .int 1, .int 0, .int 1, .int (-1)]))] := hD
  refine lv_if_eq (tgt := 38) hx hb dX8_readOne_26 (by decide) (fun c_10 => ?_) (fun c_10 => absurd (by decide) c_10)
  refine lv_aload_n hx hb dX8_readOne_38 rfl (lv_at hl 1 rfl) ?_
  have hPc := hP.sub (ws' := [(rd, .inr (8, [.ref t0, .ref sf, .int 1, .int 0, .int 1, .int (-1)]))]) [0] rfl
  have hDc := hD.sub (ws' := [(rd, .inr (8, [.ref t0, .ref sf, .int 1, .int 0, .int 1, .int (-1)]))]) [0] (by decide) rfl
  refine go_i (k1 := 0) (n1 := 0) (wr := []) [0] [] (rn_V (As := []) (rest := []) (c_X8_protocol l D ct rd t0 sf  _) (cb_of (n := 0) hn mw_602 mw_8 mw_599 mhX8_protocol ⟨Nat.le_of_ble_eq_true rfl, Nat.le_of_ble_eq_true rfl⟩) hx hb hml hown hn hK hPc hDc mw_601 mw_s22 (ci := 8) (q0 := 0) rfl rfl rfl rfl hl.1 (Nat.le_of_ble_eq_true rfl) dX8_readOne_39 ⟨(Nat.le_of_ble_eq_true rfl), (Nat.le_of_ble_eq_true rfl)⟩) hP hD hS hA rfl rfl (by decide) (by decide) (Nat.le_of_ble_eq_true rfl) (Nat.le_of_ble_eq_true rfl) (fun r_11 u_12 H locs hp_13 hP hD hS => ?_)
  have hr_11 := hp_13
  rw [show r_11 = (-1) from hr_11]
  have hP : va_P D vwCl [(rd, .inr (8, [.ref t0, .ref sf, .int 1, .int 0, .int 1, .int (-1)]))] _ := hP
  have hD : va_D A [(rd, .inr (8, [.ref t0, .ref sf, .int 1, .int 0, .int 1, .int (-1)]))] := hD
  refine lv_if_lt (tgt := 58) hx hb dX8_readOne_42 (by decide) (fun c_14 => ?_) (fun c_14 => absurd (by decide) c_14)
  refine lv_aload_n hx hb dX8_readOne_58 rfl (lv_at hl 1 rfl) ?_
  refine lv_iload_n hx hb dX8_readOne_59 rfl (lv_at hl 2 rfl) ?_
  refine lv_iload_n hx hb dX8_readOne_60 rfl (lv_at hl 3 rfl) ?_
  have hPc := hP.sub (ws' := [(rd, .inr (8, [.ref t0, .ref sf, .int 1, .int 0, .int 1, .int (-1)]))]) [0] rfl
  have hDc := hD.sub (ws' := [(rd, .inr (8, [.ref t0, .ref sf, .int 1, .int 0, .int 1, .int (-1)]))]) [0] (by decide) rfl
  refine go_v (k1 := 0) (n1 := 0) (wr := []) [0] [] (rn_V (As := [.int 3, .int 2]) (rest := []) (c_X8_readSided l D ct rd t0 sf  _) (cb_of (n := 2) hn mw_739 mw_8 mw_736 mhX8_readSided ⟨Nat.le_of_ble_eq_true rfl, Nat.le_of_ble_eq_true rfl⟩) hx hb hml hown hn hK hPc hDc mw_738 mw_s51 (ci := 8) (q0 := 0) rfl rfl rfl rfl hl.1 (Nat.le_of_ble_eq_true rfl) dX8_readOne_61 ⟨(Nat.le_of_ble_eq_true rfl), (Nat.le_of_ble_eq_true rfl)⟩) hP hD hS hA rfl rfl (by decide) (by decide) (Nat.le_of_ble_eq_true rfl) (Nat.le_of_ble_eq_true rfl) (fun u_16 H locs hp_17 hP hD hS => ?_)
  have hP : va_P D vwCl [(rd, .inr (8, [.ref t0, .ref sf, .int 3, .int 0, .int 1, .int 0]))] _ := hP
  have hD : va_D A [(rd, .inr (8, [.ref t0, .ref sf, .int 3, .int 0, .int 1, .int 0]))] := hD
  exact end_v hx hb hr hlocks dX8_readOne_64 () trivial hP hD hS [0] rfl (by decide) rfl (Nat.le_of_ble_eq_true rfl) (Nat.le_of_ble_eq_true rfl)
set_option maxHeartbeats 4000000 in
set_option maxRecDepth 100000 in
theorem c_X8_readRow (l : Launch) (D : va_G) (ct : Nat → ClassId) (rd : Nat) (t0 : Nat) (sf : Nat) (a0 : Nat) (a1 : Nat) (a2 : Nat) (a4 : Nat) (a5 : Nat) (a6 : Nat) (a7 : Nat) (a8 : Nat) (a9 : Nat) (a10 : Nat) (a13 : Nat) (a15 : Nat) (a17 : Nat) (ac : Int32) (f : Nat → Int32)  : KV (S := Nat → Int32) l yX8_readRow cX8_readRow 7 none 5 115 D ct [.ref rd, .int 0, .int 2, .int 0] [(rd, .inr (8, [.ref t0, .ref sf, .int 1, .int 0, .int 1, .int (-1)])), (sf, .inr (2, [.ref a0, .ref a1, .ref a2, .int 0, .ref a4, .ref a5, .ref a6, .ref a7, .ref a8, .ref a9, .ref a10, .int 0, .int 0, .ref a13, .int 3, .ref a15, .int ac, .ref a17])), (a13, .inl (ct 1, 5000, .inl f))] 0 0 (fun _ => True) (fun (g : Nat → Int32) => [(rd, .inr (8, [.ref t0, .ref sf, .int 3, .int 0, .int 1, .int 0])), (sf, .inr (2, [.ref a0, .ref a1, .ref a2, .int 0, .ref a4, .ref a5, .ref a6, .ref a7, .ref a8, .ref a9, .ref a10, .int 0, .int 0, .ref a13, .int 4, .ref a15, .int ac, .ref a17])), (a13, .inl (ct 1, 5000, .inl g))]) := by
  refine KV_of (by decide) (Nat.le_of_ble_eq_true rfl) (fun p e s m below meth c A C0 hA hS hP hD ls hl => ?_)
  obtain ⟨hx, hb, hr, hown, hin, hml, hlocks, hn, hK⟩ := C0
  have hl : lv_has ls 7 [(0, .ref rd), (1, .int 0), (2, .int 2), (3, .int 0)] := hl
  refine lv_iconst (v := 1) hx hb dX8_readRow_0 (by decide) ?_
  refine lv_istore (lv' := [(4, .int 1), (0, .ref rd), (1, .int 0), (2, .int 2), (3, .int 0)]) hx hb dX8_readRow_1 hl (by decide) rfl (fun ls hl => ?_)
  refine lv_iconst (v := 0) hx hb dX8_readRow_3 (by decide) ?_
  refine lv_istore (lv' := [(5, .int 0), (4, .int 1), (0, .ref rd), (1, .int 0), (2, .int 2), (3, .int 0)]) hx hb dX8_readRow_4 hl (by decide) rfl (fun ls hl => ?_)
  refine lv_iload hx hb dX8_readRow_6 (lv_at hl 1 rfl) ?_
  refine lv_if_eq (tgt := 81) hx hb dX8_readRow_8 (by decide) (fun c_1 => absurd c_1 (by decide)) (fun c_1 => ?_)
  refine lv_iload hx hb dX8_readRow_11 (lv_at hl 0 rfl) ?_
  refine lv_sipush (v := 2000) hx hb dX8_readRow_13 (by decide) ?_
  refine lv_icmp_ge (tgt := 81) hx hb dX8_readRow_16 (by decide) (fun c_2 => absurd c_2 (by decide)) (fun c_2 => ?_)
  refine lv_aload_n hx hb dX8_readRow_19 rfl (lv_at hl 2 rfl) ?_
  refine va_get (D := D) (ci := 8) (v := .ref sf) (C := RX8) (T := TX8) (N := 6) hx hb (htX8 hn) (fun _ h => h) hown hK hP 0 rfl rfl 1 (by decide) (hn.get mw_242 rfl) (fun _ h9 => h9) rfl dX8_readRow_20 ?_
  have hPc := hP.sub (ws' := [(sf, .inr (2, [.ref a0, .ref a1, .ref a2, .int 0, .ref a4, .ref a5, .ref a6, .ref a7, .ref a8, .ref a9, .ref a10, .int 0, .int 0, .ref a13, .int 3, .ref a15, .int ac, .ref a17]))]) [1] rfl
  have hDc := hD.sub (ws' := [(sf, .inr (2, [.ref a0, .ref a1, .ref a2, .int 0, .ref a4, .ref a5, .ref a6, .ref a7, .ref a8, .ref a9, .ref a10, .int 0, .int 0, .ref a13, .int 3, .ref a15, .int ac, .ref a17]))]) [1] (by decide) rfl
  refine go_i (k1 := 0) (n1 := 0) (wr := [(rd, .inr (8, [.ref t0, .ref sf, .int 1, .int 0, .int 1, .int (-1)])), (a13, .inl (ct 1, 5000, .inl f))]) [1] [0, 2] (rn_VN (As := []) (rest := []) (c_X2_newLabel_3 l D ct sf a0 a1 a2 a4 a5 a6 a7 a8 a9 a10 a13 a15 a17 ac  _) (cn_of (n := 0) hn mw_512 mw_6 mw_509 mhX2_newLabel ⟨Nat.le_of_ble_eq_true rfl, Nat.le_of_ble_eq_true rfl⟩) hx hb hml hown hn hK hPc hDc mw_511 mw_s14 (ci := 2) (q0 := 0) rfl rfl rfl rfl hl.1 (Nat.le_of_ble_eq_true rfl) dX8_readRow_23 ⟨(Nat.le_of_ble_eq_true rfl), (Nat.le_of_ble_eq_true rfl)⟩) hP hD hS hA rfl rfl (by decide) (by decide) (Nat.le_of_ble_eq_true rfl) (Nat.le_of_ble_eq_true rfl) (fun r_3 u_4 H locs hp_5 hP hD hS => ?_)
  have hr_3 := hp_5
  rw [show r_3 = 3 from hr_3]
  have hP : va_P D vwCl [(rd, .inr (8, [.ref t0, .ref sf, .int 1, .int 0, .int 1, .int (-1)])), (a13, .inl (ct 1, 5000, .inl f)), (sf, .inr (2, [.ref a0, .ref a1, .ref a2, .int 0, .ref a4, .ref a5, .ref a6, .ref a7, .ref a8, .ref a9, .ref a10, .int 0, .int 0, .ref a13, .int 4, .ref a15, .int ac, .ref a17]))] _ := hP
  have hD : va_D A [(rd, .inr (8, [.ref t0, .ref sf, .int 1, .int 0, .int 1, .int (-1)])), (a13, .inl (ct 1, 5000, .inl f)), (sf, .inr (2, [.ref a0, .ref a1, .ref a2, .int 0, .ref a4, .ref a5, .ref a6, .ref a7, .ref a8, .ref a9, .ref a10, .int 0, .int 0, .ref a13, .int 4, .ref a15, .int ac, .ref a17]))] := hD
  refine lv_istore (lv' := [(6, .int 3), (5, .int 0), (4, .int 1), (0, .ref rd), (1, .int 0), (2, .int 2), (3, .int 0)]) hx hb dX8_readRow_26 hl (by decide) rfl (fun ls hl => ?_)
  refine lv_aload_n hx hb dX8_readRow_28 rfl (lv_at hl 3 rfl) ?_
  refine lv_iload hx hb dX8_readRow_29 (lv_at hl 0 rfl) ?_
  refine lv_iload_n hx hb dX8_readRow_31 rfl (lv_at hl 5 rfl) ?_
  refine lv_iload_n hx hb dX8_readRow_32 rfl (lv_at hl 6 rfl) ?_
  have hPc := hP.sub (ws' := [(rd, .inr (8, [.ref t0, .ref sf, .int 1, .int 0, .int 1, .int (-1)]))]) [0] rfl
  have hDc := hD.sub (ws' := [(rd, .inr (8, [.ref t0, .ref sf, .int 1, .int 0, .int 1, .int (-1)]))]) [0] (by decide) rfl
  refine go_v (k1 := 0) (n1 := 0) (wr := [(a13, .inl (ct 1, 5000, .inl f)), (sf, .inr (2, [.ref a0, .ref a1, .ref a2, .int 0, .ref a4, .ref a5, .ref a6, .ref a7, .ref a8, .ref a9, .ref a10, .int 0, .int 0, .ref a13, .int 4, .ref a15, .int ac, .ref a17]))]) [0] [1, 2] (rn_V (As := [.int 3, .int 2, .int 0]) (rest := []) (c_X8_readOne l D ct rd t0 sf  _) (cb_of (n := 3) hn mw_520 mw_8 mw_517 mhX8_readOne ⟨Nat.le_of_ble_eq_true rfl, Nat.le_of_ble_eq_true rfl⟩) hx hb hml hown hn hK hPc hDc mw_519 mw_s16 (ci := 8) (q0 := 0) rfl rfl rfl rfl hl.1 (Nat.le_of_ble_eq_true rfl) dX8_readRow_33 ⟨(Nat.le_of_ble_eq_true rfl), (Nat.le_of_ble_eq_true rfl)⟩) hP hD hS hA rfl rfl (by decide) (by decide) (Nat.le_of_ble_eq_true rfl) (Nat.le_of_ble_eq_true rfl) (fun u_7 H locs hp_8 hP hD hS => ?_)
  have hP : va_P D vwCl [(a13, .inl (ct 1, 5000, .inl f)), (sf, .inr (2, [.ref a0, .ref a1, .ref a2, .int 0, .ref a4, .ref a5, .ref a6, .ref a7, .ref a8, .ref a9, .ref a10, .int 0, .int 0, .ref a13, .int 4, .ref a15, .int ac, .ref a17])), (rd, .inr (8, [.ref t0, .ref sf, .int 3, .int 0, .int 1, .int 0]))] _ := hP
  have hD : va_D A [(a13, .inl (ct 1, 5000, .inl f)), (sf, .inr (2, [.ref a0, .ref a1, .ref a2, .int 0, .ref a4, .ref a5, .ref a6, .ref a7, .ref a8, .ref a9, .ref a10, .int 0, .int 0, .ref a13, .int 4, .ref a15, .int ac, .ref a17])), (rd, .inr (8, [.ref t0, .ref sf, .int 3, .int 0, .int 1, .int 0]))] := hD
  refine lv_aload_n hx hb dX8_readRow_36 rfl (lv_at hl 3 rfl) ?_
  obtain ⟨sq_9, hsq_9⟩ := hn.2.1 _ _ _ mw_x798
  refine va_ldcS hx hb hown hsq_9 dX8_readRow_37 ?_
  have hPc := hP.sub (ws' := [(rd, .inr (8, [.ref t0, .ref sf, .int 3, .int 0, .int 1, .int 0]))]) [2] rfl
  have hDc := hD.sub (ws' := [(rd, .inr (8, [.ref t0, .ref sf, .int 3, .int 0, .int 1, .int 0]))]) [2] (by decide) rfl
  refine go_i (k1 := 0) (n1 := 0) (wr := [(a13, .inl (ct 1, 5000, .inl f)), (sf, .inr (2, [.ref a0, .ref a1, .ref a2, .int 0, .ref a4, .ref a5, .ref a6, .ref a7, .ref a8, .ref a9, .ref a10, .int 0, .int 0, .ref a13, .int 4, .ref a15, .int ac, .ref a17]))]) [2] [0, 1] (rn_V (As := [.ref sq_9]) (rest := []) (c_X8_isWord l D ct rd t0 sf 3 0 1 0 sq_9 (by decide) _) (cb_of (n := 1) hn mw_525 mw_8 mw_522 mhX8_isWord ⟨Nat.le_of_ble_eq_true rfl, Nat.le_of_ble_eq_true rfl⟩) hx hb hml hown hn hK hPc hDc mw_524 mw_s17 (ci := 8) (q0 := 0) rfl rfl rfl rfl hl.1 (Nat.le_of_ble_eq_true rfl) dX8_readRow_39 ⟨(Nat.le_of_ble_eq_true rfl), (Nat.le_of_ble_eq_true rfl)⟩) hP hD hS hA rfl rfl (by decide) (by decide) (Nat.le_of_ble_eq_true rfl) (Nat.le_of_ble_eq_true rfl) (fun r_10 u_11 H locs hp_12 hP hD hS => ?_)
  have hr_10 := hp_12
  rw [show r_10 = 0 from hr_10]
  have hP : va_P D vwCl [(a13, .inl (ct 1, 5000, .inl f)), (sf, .inr (2, [.ref a0, .ref a1, .ref a2, .int 0, .ref a4, .ref a5, .ref a6, .ref a7, .ref a8, .ref a9, .ref a10, .int 0, .int 0, .ref a13, .int 4, .ref a15, .int ac, .ref a17])), (rd, .inr (8, [.ref t0, .ref sf, .int 3, .int 0, .int 1, .int 0]))] _ := hP
  have hD : va_D A [(a13, .inl (ct 1, 5000, .inl f)), (sf, .inr (2, [.ref a0, .ref a1, .ref a2, .int 0, .ref a4, .ref a5, .ref a6, .ref a7, .ref a8, .ref a9, .ref a10, .int 0, .int 0, .ref a13, .int 4, .ref a15, .int ac, .ref a17])), (rd, .inr (8, [.ref t0, .ref sf, .int 3, .int 0, .int 1, .int 0]))] := hD
  refine lv_istore (lv' := [(4, .int 0), (6, .int 3), (5, .int 0), (0, .ref rd), (1, .int 0), (2, .int 2), (3, .int 0)]) hx hb dX8_readRow_42 hl (by decide) rfl (fun ls hl => ?_)
  refine lv_iload hx hb dX8_readRow_44 (lv_at hl 0 rfl) ?_
  refine lv_if_eq (tgt := 65) hx hb dX8_readRow_46 (by decide) (fun c_13 => ?_) (fun c_13 => absurd (by decide) c_13)
  refine lv_aload_n hx hb dX8_readRow_65 rfl (lv_at hl 3 rfl) ?_
  refine va_get (D := D) (ci := 8) (v := .ref sf) (C := RX8) (T := TX8) (N := 6) hx hb (htX8 hn) (fun _ h => h) hown hK hP 2 rfl rfl 1 (by decide) (hn.get mw_242 rfl) (fun _ h9 => h9) rfl dX8_readRow_66 ?_
  refine lv_iload hx hb dX8_readRow_69 (lv_at hl 1 rfl) ?_
  refine lv_iload_n hx hb dX8_readRow_71 rfl (lv_at hl 4 rfl) ?_
  have hPc := hP.sub (ws' := [(sf, .inr (2, [.ref a0, .ref a1, .ref a2, .int 0, .ref a4, .ref a5, .ref a6, .ref a7, .ref a8, .ref a9, .ref a10, .int 0, .int 0, .ref a13, .int 4, .ref a15, .int ac, .ref a17])), (a13, .inl (ct 1, 5000, .inl f))]) [1, 0] rfl
  have hDc := hD.sub (ws' := [(sf, .inr (2, [.ref a0, .ref a1, .ref a2, .int 0, .ref a4, .ref a5, .ref a6, .ref a7, .ref a8, .ref a9, .ref a10, .int 0, .int 0, .ref a13, .int 4, .ref a15, .int ac, .ref a17])), (a13, .inl (ct 1, 5000, .inl f))]) [1, 0] (by decide) rfl
  refine go_v (k1 := 0) (n1 := 0) (wr := [(rd, .inr (8, [.ref t0, .ref sf, .int 3, .int 0, .int 1, .int 0]))]) [1, 0] [2] (rn_VN (As := [.int 3, .int 0]) (rest := []) (c_X2_joinLabel_30 l D ct sf a0 a1 a2 a4 a5 a6 a7 a8 a9 a10 a13 a15 a17 ac f  _) (cn_of (n := 2) hn mw_803 mw_6 mw_800 mhX2_joinLabel ⟨Nat.le_of_ble_eq_true rfl, Nat.le_of_ble_eq_true rfl⟩) hx hb hml hown hn hK hPc hDc mw_802 mw_s64 (ci := 2) (q0 := 0) rfl rfl rfl rfl hl.1 (Nat.le_of_ble_eq_true rfl) dX8_readRow_72 ⟨(Nat.le_of_ble_eq_true rfl), (Nat.le_of_ble_eq_true rfl)⟩) hP hD hS hA rfl rfl (by decide) (by decide) (Nat.le_of_ble_eq_true rfl) (Nat.le_of_ble_eq_true rfl) (fun u_15 H locs hp_16 hP hD hS => ?_)
  obtain ⟨g_17, rfl⟩ : ∃ z, z = u_15 := ⟨_, rfl⟩
  have hP : va_P D vwCl [(rd, .inr (8, [.ref t0, .ref sf, .int 3, .int 0, .int 1, .int 0])), (sf, .inr (2, [.ref a0, .ref a1, .ref a2, .int 0, .ref a4, .ref a5, .ref a6, .ref a7, .ref a8, .ref a9, .ref a10, .int 0, .int 0, .ref a13, .int 4, .ref a15, .int ac, .ref a17])), (a13, .inl (ct 1, 5000, .inl g_17))] _ := hP
  have hD : va_D A [(rd, .inr (8, [.ref t0, .ref sf, .int 3, .int 0, .int 1, .int 0])), (sf, .inr (2, [.ref a0, .ref a1, .ref a2, .int 0, .ref a4, .ref a5, .ref a6, .ref a7, .ref a8, .ref a9, .ref a10, .int 0, .int 0, .ref a13, .int 4, .ref a15, .int ac, .ref a17])), (a13, .inl (ct 1, 5000, .inl g_17))] := hD
  refine lv_iinc (v := 1) (lv' := [(5, .int 1), (4, .int 0), (6, .int 3), (0, .ref rd), (1, .int 0), (2, .int 2), (3, .int 0)]) hx hb dX8_readRow_75 hl (k := 2) rfl (by decide) (by decide) rfl (fun ls hl => ?_)
  refine lv_goto (tgt := 6) hx hb dX8_readRow_78 (by decide) ?_
  refine lv_iload hx hb dX8_readRow_6 (lv_at hl 1 rfl) ?_
  refine lv_if_eq (tgt := 81) hx hb dX8_readRow_8 (by decide) (fun c_18 => ?_) (fun c_18 => absurd (by decide) c_18)
  exact end_v hx hb hr hlocks dX8_readRow_81 g_17 trivial hP hD hS [0, 1, 2] rfl (by decide) rfl (Nat.le_of_ble_eq_true rfl) (Nat.le_of_ble_eq_true rfl)
set_option maxHeartbeats 4000000 in
set_option maxRecDepth 100000 in
theorem c_X8_readFilter (l : Launch) (D : va_G) (ct : Nat → ClassId) (rd : Nat) (t0 : Nat) (sf : Nat) (a0 : Nat) (a1 : Nat) (a2 : Nat) (a4 : Nat) (a5 : Nat) (a6 : Nat) (a7 : Nat) (a8 : Nat) (a9 : Nat) (a10 : Nat) (a13 : Nat) (a15 : Nat) (a17 : Nat) (ac : Int32) (f : Nat → Int32)  : KV (S := Unit) l yX8_readFilter cX8_readFilter 7 none 6 141 D ct [.ref rd, .int 0, .int 1, .int 0] [(rd, .inr (8, [.ref t0, .ref sf, .int 1, .int 0, .int 1, .int (-1)])), (sf, .inr (2, [.ref a0, .ref a1, .ref a2, .int 0, .ref a4, .ref a5, .ref a6, .ref a7, .ref a8, .ref a9, .ref a10, .int 0, .int 0, .ref a13, .int 2, .ref a15, .int ac, .ref a17])), (a13, .inl (ct 1, 5000, .inl f))] 0 0 (fun _ => True) (fun (_ : Unit) => [(rd, .inr (8, [.ref t0, .ref sf, .int 3, .int 0, .int 1, .int 0]))]) := by
  refine KV_of (by decide) (Nat.le_of_ble_eq_true rfl) (fun p e s m below meth c A C0 hA hS hP hD ls hl => ?_)
  obtain ⟨hx, hb, hr, hown, hin, hml, hlocks, hn, hK⟩ := C0
  have hl : lv_has ls 7 [(0, .ref rd), (1, .int 0), (2, .int 1), (3, .int 0)] := hl
  refine lv_iconst (v := 1) hx hb dX8_readFilter_0 (by decide) ?_
  refine lv_istore (lv' := [(4, .int 1), (0, .ref rd), (1, .int 0), (2, .int 1), (3, .int 0)]) hx hb dX8_readFilter_1 hl (by decide) rfl (fun ls hl => ?_)
  refine lv_iconst (v := 0) hx hb dX8_readFilter_3 (by decide) ?_
  refine lv_istore (lv' := [(5, .int 0), (4, .int 1), (0, .ref rd), (1, .int 0), (2, .int 1), (3, .int 0)]) hx hb dX8_readFilter_4 hl (by decide) rfl (fun ls hl => ?_)
  refine lv_iload hx hb dX8_readFilter_6 (lv_at hl 1 rfl) ?_
  refine lv_if_eq (tgt := 81) hx hb dX8_readFilter_8 (by decide) (fun c_1 => absurd c_1 (by decide)) (fun c_1 => ?_)
  refine lv_iload hx hb dX8_readFilter_11 (lv_at hl 0 rfl) ?_
  refine lv_sipush (v := 2000) hx hb dX8_readFilter_13 (by decide) ?_
  refine lv_icmp_ge (tgt := 81) hx hb dX8_readFilter_16 (by decide) (fun c_2 => absurd c_2 (by decide)) (fun c_2 => ?_)
  refine lv_aload_n hx hb dX8_readFilter_19 rfl (lv_at hl 2 rfl) ?_
  refine va_get (D := D) (ci := 8) (v := .ref sf) (C := RX8) (T := TX8) (N := 6) hx hb (htX8 hn) (fun _ h => h) hown hK hP 0 rfl rfl 1 (by decide) (hn.get mw_242 rfl) (fun _ h9 => h9) rfl dX8_readFilter_20 ?_
  have hPc := hP.sub (ws' := [(sf, .inr (2, [.ref a0, .ref a1, .ref a2, .int 0, .ref a4, .ref a5, .ref a6, .ref a7, .ref a8, .ref a9, .ref a10, .int 0, .int 0, .ref a13, .int 2, .ref a15, .int ac, .ref a17]))]) [1] rfl
  have hDc := hD.sub (ws' := [(sf, .inr (2, [.ref a0, .ref a1, .ref a2, .int 0, .ref a4, .ref a5, .ref a6, .ref a7, .ref a8, .ref a9, .ref a10, .int 0, .int 0, .ref a13, .int 2, .ref a15, .int ac, .ref a17]))]) [1] (by decide) rfl
  refine go_i (k1 := 0) (n1 := 0) (wr := [(rd, .inr (8, [.ref t0, .ref sf, .int 1, .int 0, .int 1, .int (-1)])), (a13, .inl (ct 1, 5000, .inl f))]) [1] [0, 2] (rn_VN (As := []) (rest := []) (c_X2_newLabel_2 l D ct sf a0 a1 a2 a4 a5 a6 a7 a8 a9 a10 a13 a15 a17 ac  _) (cn_of (n := 0) hn mw_512 mw_6 mw_509 mhX2_newLabel ⟨Nat.le_of_ble_eq_true rfl, Nat.le_of_ble_eq_true rfl⟩) hx hb hml hown hn hK hPc hDc mw_511 mw_s14 (ci := 2) (q0 := 0) rfl rfl rfl rfl hl.1 (Nat.le_of_ble_eq_true rfl) dX8_readFilter_23 ⟨(Nat.le_of_ble_eq_true rfl), (Nat.le_of_ble_eq_true rfl)⟩) hP hD hS hA rfl rfl (by decide) (by decide) (Nat.le_of_ble_eq_true rfl) (Nat.le_of_ble_eq_true rfl) (fun r_3 u_4 H locs hp_5 hP hD hS => ?_)
  have hr_3 := hp_5
  rw [show r_3 = 2 from hr_3]
  have hP : va_P D vwCl [(rd, .inr (8, [.ref t0, .ref sf, .int 1, .int 0, .int 1, .int (-1)])), (a13, .inl (ct 1, 5000, .inl f)), (sf, .inr (2, [.ref a0, .ref a1, .ref a2, .int 0, .ref a4, .ref a5, .ref a6, .ref a7, .ref a8, .ref a9, .ref a10, .int 0, .int 0, .ref a13, .int 3, .ref a15, .int ac, .ref a17]))] _ := hP
  have hD : va_D A [(rd, .inr (8, [.ref t0, .ref sf, .int 1, .int 0, .int 1, .int (-1)])), (a13, .inl (ct 1, 5000, .inl f)), (sf, .inr (2, [.ref a0, .ref a1, .ref a2, .int 0, .ref a4, .ref a5, .ref a6, .ref a7, .ref a8, .ref a9, .ref a10, .int 0, .int 0, .ref a13, .int 3, .ref a15, .int ac, .ref a17]))] := hD
  refine lv_istore (lv' := [(6, .int 2), (5, .int 0), (4, .int 1), (0, .ref rd), (1, .int 0), (2, .int 1), (3, .int 0)]) hx hb dX8_readFilter_26 hl (by decide) rfl (fun ls hl => ?_)
  refine lv_aload_n hx hb dX8_readFilter_28 rfl (lv_at hl 3 rfl) ?_
  refine lv_iload_n hx hb dX8_readFilter_29 rfl (lv_at hl 4 rfl) ?_
  refine lv_iload hx hb dX8_readFilter_30 (lv_at hl 0 rfl) ?_
  refine lv_iload_n hx hb dX8_readFilter_32 rfl (lv_at hl 6 rfl) ?_
  have hPc := hP.sub (ws' := [(rd, .inr (8, [.ref t0, .ref sf, .int 1, .int 0, .int 1, .int (-1)])), (sf, .inr (2, [.ref a0, .ref a1, .ref a2, .int 0, .ref a4, .ref a5, .ref a6, .ref a7, .ref a8, .ref a9, .ref a10, .int 0, .int 0, .ref a13, .int 3, .ref a15, .int ac, .ref a17])), (a13, .inl (ct 1, 5000, .inl f))]) [0, 2, 1] rfl
  have hDc := hD.sub (ws' := [(rd, .inr (8, [.ref t0, .ref sf, .int 1, .int 0, .int 1, .int (-1)])), (sf, .inr (2, [.ref a0, .ref a1, .ref a2, .int 0, .ref a4, .ref a5, .ref a6, .ref a7, .ref a8, .ref a9, .ref a10, .int 0, .int 0, .ref a13, .int 3, .ref a15, .int ac, .ref a17])), (a13, .inl (ct 1, 5000, .inl f))]) [0, 2, 1] (by decide) rfl
  refine go_v (k1 := 0) (n1 := 0) (wr := []) [0, 2, 1] [] (rn_V (As := [.int 0, .int 2, .int 0]) (rest := []) (c_X8_readRow l D ct rd t0 sf a0 a1 a2 a4 a5 a6 a7 a8 a9 a10 a13 a15 a17 ac f  _) (cb_of (n := 3) hn mw_516 mw_8 mw_513 mhX8_readRow ⟨Nat.le_of_ble_eq_true rfl, Nat.le_of_ble_eq_true rfl⟩) hx hb hml hown hn hK hPc hDc mw_515 mw_s15 (ci := 8) (q0 := 0) rfl rfl rfl rfl hl.1 (Nat.le_of_ble_eq_true rfl) dX8_readFilter_33 ⟨(Nat.le_of_ble_eq_true rfl), (Nat.le_of_ble_eq_true rfl)⟩) hP hD hS hA rfl rfl (by decide) (by decide) (Nat.le_of_ble_eq_true rfl) (Nat.le_of_ble_eq_true rfl) (fun u_7 H locs hp_8 hP hD hS => ?_)
  obtain ⟨g_9, rfl⟩ : ∃ z, z = u_7 := ⟨_, rfl⟩
  have hP : va_P D vwCl [(rd, .inr (8, [.ref t0, .ref sf, .int 3, .int 0, .int 1, .int 0])), (sf, .inr (2, [.ref a0, .ref a1, .ref a2, .int 0, .ref a4, .ref a5, .ref a6, .ref a7, .ref a8, .ref a9, .ref a10, .int 0, .int 0, .ref a13, .int 4, .ref a15, .int ac, .ref a17])), (a13, .inl (ct 1, 5000, .inl g_9))] _ := hP
  have hD : va_D A [(rd, .inr (8, [.ref t0, .ref sf, .int 3, .int 0, .int 1, .int 0])), (sf, .inr (2, [.ref a0, .ref a1, .ref a2, .int 0, .ref a4, .ref a5, .ref a6, .ref a7, .ref a8, .ref a9, .ref a10, .int 0, .int 0, .ref a13, .int 4, .ref a15, .int ac, .ref a17])), (a13, .inl (ct 1, 5000, .inl g_9))] := hD
  refine lv_aload_n hx hb dX8_readFilter_36 rfl (lv_at hl 3 rfl) ?_
  obtain ⟨sq_10, hsq_10⟩ := hn.2.1 _ _ _ mw_x804
  refine va_ldcS hx hb hown hsq_10 dX8_readFilter_37 ?_
  have hPc := hP.sub (ws' := [(rd, .inr (8, [.ref t0, .ref sf, .int 3, .int 0, .int 1, .int 0]))]) [0] rfl
  have hDc := hD.sub (ws' := [(rd, .inr (8, [.ref t0, .ref sf, .int 3, .int 0, .int 1, .int 0]))]) [0] (by decide) rfl
  refine go_i (k1 := 0) (n1 := 0) (wr := [(sf, .inr (2, [.ref a0, .ref a1, .ref a2, .int 0, .ref a4, .ref a5, .ref a6, .ref a7, .ref a8, .ref a9, .ref a10, .int 0, .int 0, .ref a13, .int 4, .ref a15, .int ac, .ref a17])), (a13, .inl (ct 1, 5000, .inl g_9))]) [0] [1, 2] (rn_V (As := [.ref sq_10]) (rest := []) (c_X8_isWord l D ct rd t0 sf 3 0 1 0 sq_10 (by decide) _) (cb_of (n := 1) hn mw_525 mw_8 mw_522 mhX8_isWord ⟨Nat.le_of_ble_eq_true rfl, Nat.le_of_ble_eq_true rfl⟩) hx hb hml hown hn hK hPc hDc mw_524 mw_s17 (ci := 8) (q0 := 0) rfl rfl rfl rfl hl.1 (Nat.le_of_ble_eq_true rfl) dX8_readFilter_39 ⟨(Nat.le_of_ble_eq_true rfl), (Nat.le_of_ble_eq_true rfl)⟩) hP hD hS hA rfl rfl (by decide) (by decide) (Nat.le_of_ble_eq_true rfl) (Nat.le_of_ble_eq_true rfl) (fun r_11 u_12 H locs hp_13 hP hD hS => ?_)
  have hr_11 := hp_13
  rw [show r_11 = 0 from hr_11]
  have hP : va_P D vwCl [(sf, .inr (2, [.ref a0, .ref a1, .ref a2, .int 0, .ref a4, .ref a5, .ref a6, .ref a7, .ref a8, .ref a9, .ref a10, .int 0, .int 0, .ref a13, .int 4, .ref a15, .int ac, .ref a17])), (a13, .inl (ct 1, 5000, .inl g_9)), (rd, .inr (8, [.ref t0, .ref sf, .int 3, .int 0, .int 1, .int 0]))] _ := hP
  have hD : va_D A [(sf, .inr (2, [.ref a0, .ref a1, .ref a2, .int 0, .ref a4, .ref a5, .ref a6, .ref a7, .ref a8, .ref a9, .ref a10, .int 0, .int 0, .ref a13, .int 4, .ref a15, .int ac, .ref a17])), (a13, .inl (ct 1, 5000, .inl g_9)), (rd, .inr (8, [.ref t0, .ref sf, .int 3, .int 0, .int 1, .int 0]))] := hD
  refine lv_istore (lv' := [(4, .int 0), (6, .int 2), (5, .int 0), (0, .ref rd), (1, .int 0), (2, .int 1), (3, .int 0)]) hx hb dX8_readFilter_42 hl (by decide) rfl (fun ls hl => ?_)
  refine lv_iload hx hb dX8_readFilter_44 (lv_at hl 0 rfl) ?_
  refine lv_if_eq (tgt := 65) hx hb dX8_readFilter_46 (by decide) (fun c_14 => ?_) (fun c_14 => absurd (by decide) c_14)
  refine lv_aload_n hx hb dX8_readFilter_65 rfl (lv_at hl 3 rfl) ?_
  refine va_get (D := D) (ci := 8) (v := .ref sf) (C := RX8) (T := TX8) (N := 6) hx hb (htX8 hn) (fun _ h => h) hown hK hP 2 rfl rfl 1 (by decide) (hn.get mw_242 rfl) (fun _ h9 => h9) rfl dX8_readFilter_66 ?_
  refine lv_iload hx hb dX8_readFilter_69 (lv_at hl 1 rfl) ?_
  refine lv_iload_n hx hb dX8_readFilter_71 rfl (lv_at hl 5 rfl) ?_
  have hPc := hP.sub (ws' := [(sf, .inr (2, [.ref a0, .ref a1, .ref a2, .int 0, .ref a4, .ref a5, .ref a6, .ref a7, .ref a8, .ref a9, .ref a10, .int 0, .int 0, .ref a13, .int 4, .ref a15, .int ac, .ref a17])), (a13, .inl (ct 1, 5000, .inl g_9))]) [0, 1] rfl
  have hDc := hD.sub (ws' := [(sf, .inr (2, [.ref a0, .ref a1, .ref a2, .int 0, .ref a4, .ref a5, .ref a6, .ref a7, .ref a8, .ref a9, .ref a10, .int 0, .int 0, .ref a13, .int 4, .ref a15, .int ac, .ref a17])), (a13, .inl (ct 1, 5000, .inl g_9))]) [0, 1] (by decide) rfl
  refine go_v (k1 := 0) (n1 := 0) (wr := [(rd, .inr (8, [.ref t0, .ref sf, .int 3, .int 0, .int 1, .int 0]))]) [0, 1] [2] (rn_VN (As := [.int 2, .int 1]) (rest := []) (c_X2_joinLabel_21 l D ct sf a0 a1 a2 a4 a5 a6 a7 a8 a9 a10 a13 a15 a17 ac g_9  _) (cn_of (n := 2) hn mw_803 mw_6 mw_800 mhX2_joinLabel ⟨Nat.le_of_ble_eq_true rfl, Nat.le_of_ble_eq_true rfl⟩) hx hb hml hown hn hK hPc hDc mw_802 mw_s64 (ci := 2) (q0 := 0) rfl rfl rfl rfl hl.1 (Nat.le_of_ble_eq_true rfl) dX8_readFilter_72 ⟨(Nat.le_of_ble_eq_true rfl), (Nat.le_of_ble_eq_true rfl)⟩) hP hD hS hA rfl rfl (by decide) (by decide) (Nat.le_of_ble_eq_true rfl) (Nat.le_of_ble_eq_true rfl) (fun u_16 H locs hp_17 hP hD hS => ?_)
  obtain ⟨g_18, rfl⟩ : ∃ z, z = u_16 := ⟨_, rfl⟩
  have hP : va_P D vwCl [(rd, .inr (8, [.ref t0, .ref sf, .int 3, .int 0, .int 1, .int 0])), (sf, .inr (2, [.ref a0, .ref a1, .ref a2, .int 0, .ref a4, .ref a5, .ref a6, .ref a7, .ref a8, .ref a9, .ref a10, .int 0, .int 0, .ref a13, .int 4, .ref a15, .int ac, .ref a17])), (a13, .inl (ct 1, 5000, .inl g_18))] _ := hP
  have hD : va_D A [(rd, .inr (8, [.ref t0, .ref sf, .int 3, .int 0, .int 1, .int 0])), (sf, .inr (2, [.ref a0, .ref a1, .ref a2, .int 0, .ref a4, .ref a5, .ref a6, .ref a7, .ref a8, .ref a9, .ref a10, .int 0, .int 0, .ref a13, .int 4, .ref a15, .int ac, .ref a17])), (a13, .inl (ct 1, 5000, .inl g_18))] := hD
  refine lv_iinc (v := 1) (lv' := [(5, .int 1), (4, .int 0), (6, .int 2), (0, .ref rd), (1, .int 0), (2, .int 1), (3, .int 0)]) hx hb dX8_readFilter_75 hl (k := 2) rfl (by decide) (by decide) rfl (fun ls hl => ?_)
  refine lv_goto (tgt := 6) hx hb dX8_readFilter_78 (by decide) ?_
  refine lv_iload hx hb dX8_readFilter_6 (lv_at hl 1 rfl) ?_
  refine lv_if_eq (tgt := 81) hx hb dX8_readFilter_8 (by decide) (fun c_19 => ?_) (fun c_19 => absurd (by decide) c_19)
  exact end_v hx hb hr hlocks dX8_readFilter_81 () trivial hP hD hS [0] rfl (by decide) rfl (Nat.le_of_ble_eq_true rfl) (Nat.le_of_ble_eq_true rfl)
set_option maxHeartbeats 4000000 in
set_option maxRecDepth 100000 in
theorem c_X8_wrongPlace (l : Launch) (D : va_G) (ct : Nat → ClassId) (rd : Nat) (t0 : Nat) (sf : Nat)  : KI (S := Unit) l yX8_wrongPlace cX8_wrongPlace 1 (some .int) 2 40 D ct [.ref rd] [(rd, .inr (8, [.ref t0, .ref sf, .int 3, .int 0, .int 1, .int 0]))] 0 0 (fun r _ => r = 0) (fun (_ : Unit) => [(rd, .inr (8, [.ref t0, .ref sf, .int 3, .int 0, .int 1, .int 0]))]) := by
  refine KI_of (by decide) (Nat.le_of_ble_eq_true rfl) (fun p e s m below meth c A C0 hA hS hP hD ls hl => ?_)
  obtain ⟨hx, hb, hr, hown, hin, hml, hlocks, hn, hK⟩ := C0
  have hl : lv_has ls 1 [(0, .ref rd)] := hl
  refine lv_aload_n hx hb dX8_wrongPlace_0 rfl (lv_at hl 0 rfl) ?_
  refine va_get (D := D) (ci := 8) (v := .int 3) (C := RX8) (T := TX8) (N := 6) hx hb (htX8 hn) (fun _ h => h) hown hK hP 0 rfl rfl 2 (by decide) (hn.get mw_243 rfl) (fun _ h9 => h9) rfl dX8_wrongPlace_1 ?_
  refine lv_iconst (v := 1) hx hb dX8_wrongPlace_4 (by decide) ?_
  refine lv_icmp_eq (tgt := 12) hx hb dX8_wrongPlace_5 (by decide) (fun c_1 => absurd c_1 (by decide)) (fun c_1 => ?_)
  refine lv_aload_n hx hb dX8_wrongPlace_8 rfl (lv_at hl 0 rfl) ?_
  have hPc := hP.sub (ws' := [(rd, .inr (8, [.ref t0, .ref sf, .int 3, .int 0, .int 1, .int 0]))]) [0] rfl
  have hDc := hD.sub (ws' := [(rd, .inr (8, [.ref t0, .ref sf, .int 3, .int 0, .int 1, .int 0]))]) [0] (by decide) rfl
  refine go_v (k1 := 0) (n1 := 0) (wr := []) [0] [] (rn_V (As := []) (rest := []) (c_X8_fail_b l D ct rd t0 sf 3 0 1  _) (cb_of (n := 0) hn mw_504 mw_8 mw_501 mhX8_fail ⟨Nat.le_of_ble_eq_true rfl, Nat.le_of_ble_eq_true rfl⟩) hx hb hml hown hn hK hPc hDc mw_503 mw_s12 (ci := 8) (q0 := 0) rfl rfl rfl rfl hl.1 (Nat.le_of_ble_eq_true rfl) dX8_wrongPlace_9 ⟨(Nat.le_of_ble_eq_true rfl), (Nat.le_of_ble_eq_true rfl)⟩) hP hD hS hA rfl rfl (by decide) (by decide) (Nat.le_of_ble_eq_true rfl) (Nat.le_of_ble_eq_true rfl) (fun u_3 H locs hp_4 hP hD hS => ?_)
  have hP : va_P D vwCl [(rd, .inr (8, [.ref t0, .ref sf, .int 3, .int 0, .int 1, .int 0]))] _ := hP
  have hD : va_D A [(rd, .inr (8, [.ref t0, .ref sf, .int 3, .int 0, .int 1, .int 0]))] := hD
  refine lv_aload_n hx hb dX8_wrongPlace_12 rfl (lv_at hl 0 rfl) ?_
  refine va_get (D := D) (ci := 8) (v := .int 0) (C := RX8) (T := TX8) (N := 6) hx hb (htX8 hn) (fun _ h => h) hown hK hP 0 rfl rfl 5 (by decide) (hn.get mw_246 rfl) (fun _ h9 => h9) rfl dX8_wrongPlace_13 ?_
  exact end_i hx hb hr hlocks dX8_wrongPlace_16 rfl () rfl hP hD hS [0] rfl (by decide) rfl (Nat.le_of_ble_eq_true rfl) (Nat.le_of_ble_eq_true rfl)
