set_option maxHeartbeats 4000000 in
set_option maxRecDepth 100000 in
theorem c_X9_init (l : Launch) (D : va_G) (ct : Nat → ClassId) (h0 : Nat)  : KV (S := Nat) l yX9_init cX9_init 1 none 2 20 D ct [.ref h0] [(h0, .inr (9, [.null, .int 0]))] 1 2000 (fun _ => True) (fun (r : Nat) => [(h0, .inr (9, [.ref r, .int 0])), (r, .inl (ct 0, 2000, .inl (fun _ => 0)))]) := by
  refine KV_of (by decide) (Nat.le_of_ble_eq_true rfl) (fun p e s m below meth c A C0 hA hS hP hD ls hl => ?_)
  obtain ⟨hx, hb, hr, hown, hin, hml, hlocks, hn, hK⟩ := C0
  have hl : lv_has ls 1 [(0, .ref h0)] := hl
  refine lv_aload_n hx hb dX9_init_0 rfl (lv_at hl 0 rfl) ?_
  refine W.objInit hx hb hown (hn.get mw_41 rfl) (hn.get mw_34 rfl) (hn.get mw_oi rfl) rfl (by rw [hml]; exact hl.1) rfl dX9_init_1 (Nat.le_of_ble_eq_true rfl) (Nat.le_of_ble_eq_true rfl) ?_
  refine W.eq (g2 := F0 m 4 ls []) rfl ?_
  refine lv_aload_n hx hb dX9_init_4 rfl (lv_at hl 0 rfl) ?_
  refine lv_sipush (v := 2000) hx hb dX9_init_5 (by decide) ?_
  refine na_new (atype := .byte) (k1 := 1) (n1 := 2000) hx hb hn mw_54 rfl hK hP hD hS hA 0 rfl 2000 (2000, .inl (fun _ => 0)) (fun _ => rfl) (by decide) (by decide) (Nat.le_of_ble_eq_true rfl) (Nat.le_of_ble_eq_true rfl) (Nat.le_of_ble_eq_true rfl) (Nat.le_of_ble_eq_true rfl) (Nat.le_of_ble_eq_true rfl) dX9_init_8 (fun q_1 H hP hD hS => ?_)
  have hP : va_P D vwCl [(h0, .inr (9, [.null, .int 0])), (q_1, .inl (ct 0, 2000, .inl (fun _ => 0)))] _ := hP
  have hD : va_D A [(h0, .inr (9, [.null, .int 0])), (q_1, .inl (ct 0, 2000, .inl (fun _ => 0)))] := hD
  refine va_putF (D := D) (ci := 9) (v := .ref q_1) (ty := .array .byte) (C := RX9) (T := TX9) (N := 2) hx hb (htX9 hn) (fun _ h => h) tyX9 tyX9_ok nmX9 hown hK hP hD hS 0 rfl rfl 0 (by decide) (hn.get mw_42 rfl) (fun _ h9 => h9) rfl hin rfl (by decide +kernel) rfl rfl (Nat.le_of_ble_eq_true rfl) dX9_init_10 (fun H locs hP hD hS => ?_)
  have hP : va_P D vwCl [(h0, .inr (9, [.ref q_1, .int 0])), (q_1, .inl (ct 0, 2000, .inl (fun _ => 0)))] _ := hP
  have hD : va_D A [(h0, .inr (9, [.ref q_1, .int 0])), (q_1, .inl (ct 0, 2000, .inl (fun _ => 0)))] := hD
  exact end_v hx hb hr hlocks dX9_init_13 q_1 trivial hP hD hS [0, 1] rfl (by decide) rfl (Nat.le_of_ble_eq_true rfl) (Nat.le_of_ble_eq_true rfl)
set_option maxHeartbeats 4000000 in
set_option maxRecDepth 100000 in
theorem c_X9_hasRoom (l : Launch) (D : va_G) (ct : Nat → ClassId) (h0 : Nat) (r : Nat) (k : Nat) (j : Nat) (hk : k + j ≤ 2000) : KI (S := Unit) l yX9_hasRoom cX9_hasRoom 2 (some .boolean) 1 20 D ct [.ref h0, .int (nI j)] [(h0, .inr (9, [.ref r, .int (nI k)]))] 0 0 (fun r _ => r = 1) (fun (_ : Unit) => [(h0, .inr (9, [.ref r, .int (nI k)]))]) := by
  refine KI_of (by decide) (Nat.le_of_ble_eq_true rfl) (fun p e s m below meth c A C0 hA hS hP hD ls hl => ?_)
  obtain ⟨hx, hb, hr, hown, hin, hml, hlocks, hn, hK⟩ := C0
  have hl : lv_has ls 2 [(0, .ref h0), (1, .int (nI j))] := hl
  refine lv_aload_n hx hb dX9_hasRoom_0 rfl (lv_at hl 0 rfl) ?_
  refine va_get (D := D) (ci := 9) (v := .int (nI k)) (C := RX9) (T := TX9) (N := 2) hx hb (htX9 hn) (fun _ h => h) hown hK hP 0 rfl rfl 1 (by decide) (hn.get mw_43 rfl) (fun _ h9 => h9) rfl dX9_hasRoom_1 ?_
  refine lv_iload_n hx hb dX9_hasRoom_4 rfl (lv_at hl 1 rfl) ?_
  refine lv_iadd hx hb dX9_hasRoom_5 ?_
  refine top_c (v := nI (k + j)) (nI_add k j) ?_
  refine lv_sipush (v := 2000) hx hb dX9_hasRoom_6 (by decide) ?_
  refine lv_icmp_gt (tgt := 16) hx hb dX9_hasRoom_9 (by decide) (fun c_1 => absurd c_1 (nn_nlt (a := 2000) (b := k + j) rfl rfl (by decide) (by omega) hk)) (fun c_1 => ?_)
  refine lv_iconst (v := 1) hx hb dX9_hasRoom_12 (by decide) ?_
  refine lv_goto (tgt := 17) hx hb dX9_hasRoom_13 (by decide) ?_
  exact end_i hx hb hr hlocks dX9_hasRoom_17 (by decide) () rfl hP hD hS [0] rfl (by decide) rfl (Nat.le_of_ble_eq_true rfl) (Nat.le_of_ble_eq_true rfl)
set_option maxHeartbeats 4000000 in
set_option maxRecDepth 100000 in
theorem c_X9_put (l : Launch) (D : va_G) (ct : Nat → ClassId) (h0 : Nat) (r : Nat) (k : Nat) (v : Int32) (f : Nat → Int32) (hk : k + 4 ≤ 2000) : KV (S := Nat → Int32) l yX9_put cX9_put 3 none 2 41 D ct [.ref h0, .int v] [(h0, .inr (9, [.ref r, .int (nI k)])), (r, .inl (ct 0, 2000, .inl f))] 0 0 (fun _ => True) (fun (g : Nat → Int32) => [(h0, .inr (9, [.ref r, .int (nI (k + 4))])), (r, .inl (ct 0, 2000, .inl g))]) := by
  refine KV_of (by decide) (Nat.le_of_ble_eq_true rfl) (fun p e s m below meth c A C0 hA hS hP hD ls hl => ?_)
  obtain ⟨hx, hb, hr, hown, hin, hml, hlocks, hn, hK⟩ := C0
  have hl : lv_has ls 3 [(0, .ref h0), (1, .int v)] := hl
  refine lv_aload_n hx hb dX9_put_0 rfl (lv_at hl 0 rfl) ?_
  refine lv_iconst (v := 4) hx hb dX9_put_1 (by decide) ?_
  have hPc := hP.sub (ws' := [(h0, .inr (9, [.ref r, .int (nI k)]))]) [0] rfl
  have hDc := hD.sub (ws' := [(h0, .inr (9, [.ref r, .int (nI k)]))]) [0] (by decide) rfl
  refine go_i (k1 := 0) (n1 := 0) (wr := [(r, .inl (ct 0, 2000, .inl f))]) [0] [1] (rn_V (As := [.int 4]) (rest := []) (c_X9_hasRoom l D ct h0 r k 4 hk _) (cb_of (n := 1) hn mw_431 mw_2 mw_436 mhX9_hasRoom ⟨Nat.le_of_ble_eq_true rfl, Nat.le_of_ble_eq_true rfl⟩) hx hb hml hown hn hK hPc hDc mw_430 mw_s0 (ci := 9) (q0 := 0) rfl rfl rfl rfl hl.1 (Nat.le_of_ble_eq_true rfl) dX9_put_2 ⟨(Nat.le_of_ble_eq_true rfl), (Nat.le_of_ble_eq_true rfl)⟩) hP hD hS hA rfl rfl (by decide) (by decide) (Nat.le_of_ble_eq_true rfl) (Nat.le_of_ble_eq_true rfl) (fun r_1 u_2 H locs hp_3 hP hD hS => ?_)
  have hr_1 := hp_3
  rw [show r_1 = 1 from hr_1]
  have hP : va_P D vwCl [(r, .inl (ct 0, 2000, .inl f)), (h0, .inr (9, [.ref r, .int (nI k)]))] _ := hP
  have hD : va_D A [(r, .inl (ct 0, 2000, .inl f)), (h0, .inr (9, [.ref r, .int (nI k)]))] := hD
  refine lv_if_ne (tgt := 9) hx hb dX9_put_5 (by decide) (fun c_4 => ?_) (fun c_4 => absurd c_4 (by decide))
  refine lv_bipush (v := 24) hx hb dX9_put_9 (by decide) ?_
  refine lv_istore_n (lv' := [(2, .int 24), (0, .ref h0), (1, .int v)]) hx hb dX9_put_11 rfl hl (by decide) rfl (fun ls hl => ?_)
  refine lv_iload_n hx hb dX9_put_12 rfl (lv_at hl 0 rfl) ?_
  refine lv_if_lt (tgt := 45) hx hb dX9_put_13 (by decide) (fun c_5 => absurd c_5 (by decide)) (fun c_5 => ?_)
  refine lv_aload_n hx hb dX9_put_16 rfl (lv_at hl 1 rfl) ?_
  refine va_get (D := D) (ci := 9) (v := .ref r) (C := RX9) (T := TX9) (N := 2) hx hb (htX9 hn) (fun _ h => h) hown hK hP 1 rfl rfl 0 (by decide) (hn.get mw_42 rfl) (fun _ h9 => h9) rfl dX9_put_17 ?_
  refine lv_aload_n hx hb dX9_put_20 rfl (lv_at hl 1 rfl) ?_
  refine va_get (D := D) (ci := 9) (v := .int (nI k)) (C := RX9) (T := TX9) (N := 2) hx hb (htX9 hn) (fun _ h => h) hown hK hP 1 rfl rfl 1 (by decide) (hn.get mw_43 rfl) (fun _ h9 => h9) rfl dX9_put_21 ?_
  refine lv_iload_n hx hb dX9_put_24 rfl (lv_at hl 2 rfl) ?_
  refine lv_iload_n hx hb dX9_put_25 rfl (lv_at hl 0 rfl) ?_
  refine lv_ishr hx hb dX9_put_26 ?_
  refine lv_topi (fun z_6 ez_6 => ?_)
  refine lv_i2b hx hb dX9_put_27 rfl ?_
  refine lv_topi (fun z_7 ez_7 => ?_)
  refine va_bast hx hb hK hP hD hS 0 0 rfl rfl (vp_in_nI (by omega) (by decide)) dX9_put_28 (fun H locs hP hD hS => ?_)
  have hP : va_P D vwCl [(r, .inl (ct 0, 2000, .inl (upd f (nI k).toNatClampNeg (vp_nar .byte z_7)))), (h0, .inr (9, [.ref r, .int (nI k)]))] _ := hP
  have hD : va_D A [(r, .inl (ct 0, 2000, .inl (upd f (nI k).toNatClampNeg (vp_nar .byte z_7)))), (h0, .inr (9, [.ref r, .int (nI k)]))] := hD
  generalize (upd f (nI k).toNatClampNeg (vp_nar .byte z_7)) = f_8 at hP hD
  refine lv_aload_n hx hb dX9_put_29 rfl (lv_at hl 1 rfl) ?_
  refine lv_dup hx hb dX9_put_30 rfl ?_
  refine va_get (D := D) (ci := 9) (v := .int (nI k)) (C := RX9) (T := TX9) (N := 2) hx hb (htX9 hn) (fun _ h => h) hown hK hP 1 rfl rfl 1 (by decide) (hn.get mw_43 rfl) (fun _ h9 => h9) rfl dX9_put_31 ?_
  refine lv_iconst (v := 1) hx hb dX9_put_34 (by decide) ?_
  refine lv_iadd hx hb dX9_put_35 ?_
  refine top_c (v := nI (k + 1)) (nI_1 _) ?_
  refine va_put (D := D) (ci := 9) (v := .int (nI (k + 1))) (ty := .int) (C := RX9) (T := TX9) (N := 2) hx hb (htX9 hn) (fun _ h => h) tyX9 tyX9_ok nmX9 hown hK hP hD hS 1 rfl rfl 1 (by decide) (hn.get mw_43 rfl) (fun _ h9 => h9) rfl (by decide +kernel) rfl rfl (Nat.le_of_ble_eq_true rfl) dX9_put_36 (fun H locs hP hD hS => ?_)
  have hP : va_P D vwCl [(r, .inl (ct 0, 2000, .inl f_8)), (h0, .inr (9, [.ref r, .int (nI (k + 1))]))] _ := hP
  have hD : va_D A [(r, .inl (ct 0, 2000, .inl f_8)), (h0, .inr (9, [.ref r, .int (nI (k + 1))]))] := hD
  refine lv_iinc (v := 16) (lv' := [(2, .int 16), (0, .ref h0), (1, .int v)]) hx hb dX9_put_39 hl (k := 0) rfl (by decide) (by decide) rfl (fun ls hl => ?_)
  refine lv_goto (tgt := 12) hx hb dX9_put_42 (by decide) ?_
  refine lv_iload_n hx hb dX9_put_12 rfl (lv_at hl 0 rfl) ?_
  refine lv_if_lt (tgt := 45) hx hb dX9_put_13 (by decide) (fun c_9 => absurd c_9 (by decide)) (fun c_9 => ?_)
  refine lv_aload_n hx hb dX9_put_16 rfl (lv_at hl 1 rfl) ?_
  refine va_get (D := D) (ci := 9) (v := .ref r) (C := RX9) (T := TX9) (N := 2) hx hb (htX9 hn) (fun _ h => h) hown hK hP 1 rfl rfl 0 (by decide) (hn.get mw_42 rfl) (fun _ h9 => h9) rfl dX9_put_17 ?_
  refine lv_aload_n hx hb dX9_put_20 rfl (lv_at hl 1 rfl) ?_
  refine va_get (D := D) (ci := 9) (v := .int (nI (k + 1))) (C := RX9) (T := TX9) (N := 2) hx hb (htX9 hn) (fun _ h => h) hown hK hP 1 rfl rfl 1 (by decide) (hn.get mw_43 rfl) (fun _ h9 => h9) rfl dX9_put_21 ?_
  refine lv_iload_n hx hb dX9_put_24 rfl (lv_at hl 2 rfl) ?_
  refine lv_iload_n hx hb dX9_put_25 rfl (lv_at hl 0 rfl) ?_
  refine lv_ishr hx hb dX9_put_26 ?_
  refine lv_topi (fun z_10 ez_10 => ?_)
  refine lv_i2b hx hb dX9_put_27 rfl ?_
  refine lv_topi (fun z_11 ez_11 => ?_)
  refine va_bast hx hb hK hP hD hS 0 0 rfl rfl (vp_in_nI (by omega) (by decide)) dX9_put_28 (fun H locs hP hD hS => ?_)
  have hP : va_P D vwCl [(r, .inl (ct 0, 2000, .inl (upd f_8 (nI (k + 1)).toNatClampNeg (vp_nar .byte z_11)))), (h0, .inr (9, [.ref r, .int (nI (k + 1))]))] _ := hP
  have hD : va_D A [(r, .inl (ct 0, 2000, .inl (upd f_8 (nI (k + 1)).toNatClampNeg (vp_nar .byte z_11)))), (h0, .inr (9, [.ref r, .int (nI (k + 1))]))] := hD
  generalize (upd f_8 (nI (k + 1)).toNatClampNeg (vp_nar .byte z_11)) = f_12 at hP hD
  refine lv_aload_n hx hb dX9_put_29 rfl (lv_at hl 1 rfl) ?_
  refine lv_dup hx hb dX9_put_30 rfl ?_
  refine va_get (D := D) (ci := 9) (v := .int (nI (k + 1))) (C := RX9) (T := TX9) (N := 2) hx hb (htX9 hn) (fun _ h => h) hown hK hP 1 rfl rfl 1 (by decide) (hn.get mw_43 rfl) (fun _ h9 => h9) rfl dX9_put_31 ?_
  refine lv_iconst (v := 1) hx hb dX9_put_34 (by decide) ?_
  refine lv_iadd hx hb dX9_put_35 ?_
  refine top_c (v := nI (k + 2)) (nI_1 _) ?_
  refine va_put (D := D) (ci := 9) (v := .int (nI (k + 2))) (ty := .int) (C := RX9) (T := TX9) (N := 2) hx hb (htX9 hn) (fun _ h => h) tyX9 tyX9_ok nmX9 hown hK hP hD hS 1 rfl rfl 1 (by decide) (hn.get mw_43 rfl) (fun _ h9 => h9) rfl (by decide +kernel) rfl rfl (Nat.le_of_ble_eq_true rfl) dX9_put_36 (fun H locs hP hD hS => ?_)
  have hP : va_P D vwCl [(r, .inl (ct 0, 2000, .inl f_12)), (h0, .inr (9, [.ref r, .int (nI (k + 2))]))] _ := hP
  have hD : va_D A [(r, .inl (ct 0, 2000, .inl f_12)), (h0, .inr (9, [.ref r, .int (nI (k + 2))]))] := hD
  refine lv_iinc (v := 8) (lv' := [(2, .int 8), (0, .ref h0), (1, .int v)]) hx hb dX9_put_39 hl (k := 0) rfl (by decide) (by decide) rfl (fun ls hl => ?_)
  refine lv_goto (tgt := 12) hx hb dX9_put_42 (by decide) ?_
  refine lv_iload_n hx hb dX9_put_12 rfl (lv_at hl 0 rfl) ?_
  refine lv_if_lt (tgt := 45) hx hb dX9_put_13 (by decide) (fun c_13 => absurd c_13 (by decide)) (fun c_13 => ?_)
  refine lv_aload_n hx hb dX9_put_16 rfl (lv_at hl 1 rfl) ?_
  refine va_get (D := D) (ci := 9) (v := .ref r) (C := RX9) (T := TX9) (N := 2) hx hb (htX9 hn) (fun _ h => h) hown hK hP 1 rfl rfl 0 (by decide) (hn.get mw_42 rfl) (fun _ h9 => h9) rfl dX9_put_17 ?_
  refine lv_aload_n hx hb dX9_put_20 rfl (lv_at hl 1 rfl) ?_
  refine va_get (D := D) (ci := 9) (v := .int (nI (k + 2))) (C := RX9) (T := TX9) (N := 2) hx hb (htX9 hn) (fun _ h => h) hown hK hP 1 rfl rfl 1 (by decide) (hn.get mw_43 rfl) (fun _ h9 => h9) rfl dX9_put_21 ?_
  refine lv_iload_n hx hb dX9_put_24 rfl (lv_at hl 2 rfl) ?_
  refine lv_iload_n hx hb dX9_put_25 rfl (lv_at hl 0 rfl) ?_
  refine lv_ishr hx hb dX9_put_26 ?_
  refine lv_topi (fun z_14 ez_14 => ?_)
  refine lv_i2b hx hb dX9_put_27 rfl ?_
  refine lv_topi (fun z_15 ez_15 => ?_)
  refine va_bast hx hb hK hP hD hS 0 0 rfl rfl (vp_in_nI (by omega) (by decide)) dX9_put_28 (fun H locs hP hD hS => ?_)
  have hP : va_P D vwCl [(r, .inl (ct 0, 2000, .inl (upd f_12 (nI (k + 2)).toNatClampNeg (vp_nar .byte z_15)))), (h0, .inr (9, [.ref r, .int (nI (k + 2))]))] _ := hP
  have hD : va_D A [(r, .inl (ct 0, 2000, .inl (upd f_12 (nI (k + 2)).toNatClampNeg (vp_nar .byte z_15)))), (h0, .inr (9, [.ref r, .int (nI (k + 2))]))] := hD
  generalize (upd f_12 (nI (k + 2)).toNatClampNeg (vp_nar .byte z_15)) = f_16 at hP hD
  refine lv_aload_n hx hb dX9_put_29 rfl (lv_at hl 1 rfl) ?_
  refine lv_dup hx hb dX9_put_30 rfl ?_
  refine va_get (D := D) (ci := 9) (v := .int (nI (k + 2))) (C := RX9) (T := TX9) (N := 2) hx hb (htX9 hn) (fun _ h => h) hown hK hP 1 rfl rfl 1 (by decide) (hn.get mw_43 rfl) (fun _ h9 => h9) rfl dX9_put_31 ?_
  refine lv_iconst (v := 1) hx hb dX9_put_34 (by decide) ?_
  refine lv_iadd hx hb dX9_put_35 ?_
  refine top_c (v := nI (k + 3)) (nI_1 _) ?_
  refine va_put (D := D) (ci := 9) (v := .int (nI (k + 3))) (ty := .int) (C := RX9) (T := TX9) (N := 2) hx hb (htX9 hn) (fun _ h => h) tyX9 tyX9_ok nmX9 hown hK hP hD hS 1 rfl rfl 1 (by decide) (hn.get mw_43 rfl) (fun _ h9 => h9) rfl (by decide +kernel) rfl rfl (Nat.le_of_ble_eq_true rfl) dX9_put_36 (fun H locs hP hD hS => ?_)
  have hP : va_P D vwCl [(r, .inl (ct 0, 2000, .inl f_16)), (h0, .inr (9, [.ref r, .int (nI (k + 3))]))] _ := hP
  have hD : va_D A [(r, .inl (ct 0, 2000, .inl f_16)), (h0, .inr (9, [.ref r, .int (nI (k + 3))]))] := hD
  refine lv_iinc (v := 0) (lv' := [(2, .int 0), (0, .ref h0), (1, .int v)]) hx hb dX9_put_39 hl (k := 0) rfl (by decide) (by decide) rfl (fun ls hl => ?_)
  refine lv_goto (tgt := 12) hx hb dX9_put_42 (by decide) ?_
  refine lv_iload_n hx hb dX9_put_12 rfl (lv_at hl 0 rfl) ?_
  refine lv_if_lt (tgt := 45) hx hb dX9_put_13 (by decide) (fun c_17 => absurd c_17 (by decide)) (fun c_17 => ?_)
  refine lv_aload_n hx hb dX9_put_16 rfl (lv_at hl 1 rfl) ?_
  refine va_get (D := D) (ci := 9) (v := .ref r) (C := RX9) (T := TX9) (N := 2) hx hb (htX9 hn) (fun _ h => h) hown hK hP 1 rfl rfl 0 (by decide) (hn.get mw_42 rfl) (fun _ h9 => h9) rfl dX9_put_17 ?_
  refine lv_aload_n hx hb dX9_put_20 rfl (lv_at hl 1 rfl) ?_
  refine va_get (D := D) (ci := 9) (v := .int (nI (k + 3))) (C := RX9) (T := TX9) (N := 2) hx hb (htX9 hn) (fun _ h => h) hown hK hP 1 rfl rfl 1 (by decide) (hn.get mw_43 rfl) (fun _ h9 => h9) rfl dX9_put_21 ?_
  refine lv_iload_n hx hb dX9_put_24 rfl (lv_at hl 2 rfl) ?_
  refine lv_iload_n hx hb dX9_put_25 rfl (lv_at hl 0 rfl) ?_
  refine lv_ishr hx hb dX9_put_26 ?_
  refine lv_topi (fun z_18 ez_18 => ?_)
  refine lv_i2b hx hb dX9_put_27 rfl ?_
  refine lv_topi (fun z_19 ez_19 => ?_)
  refine va_bast hx hb hK hP hD hS 0 0 rfl rfl (vp_in_nI (by omega) (by decide)) dX9_put_28 (fun H locs hP hD hS => ?_)
  have hP : va_P D vwCl [(r, .inl (ct 0, 2000, .inl (upd f_16 (nI (k + 3)).toNatClampNeg (vp_nar .byte z_19)))), (h0, .inr (9, [.ref r, .int (nI (k + 3))]))] _ := hP
  have hD : va_D A [(r, .inl (ct 0, 2000, .inl (upd f_16 (nI (k + 3)).toNatClampNeg (vp_nar .byte z_19)))), (h0, .inr (9, [.ref r, .int (nI (k + 3))]))] := hD
  generalize (upd f_16 (nI (k + 3)).toNatClampNeg (vp_nar .byte z_19)) = f_20 at hP hD
  refine lv_aload_n hx hb dX9_put_29 rfl (lv_at hl 1 rfl) ?_
  refine lv_dup hx hb dX9_put_30 rfl ?_
  refine va_get (D := D) (ci := 9) (v := .int (nI (k + 3))) (C := RX9) (T := TX9) (N := 2) hx hb (htX9 hn) (fun _ h => h) hown hK hP 1 rfl rfl 1 (by decide) (hn.get mw_43 rfl) (fun _ h9 => h9) rfl dX9_put_31 ?_
  refine lv_iconst (v := 1) hx hb dX9_put_34 (by decide) ?_
  refine lv_iadd hx hb dX9_put_35 ?_
  refine top_c (v := nI (k + 4)) (nI_1 _) ?_
  refine va_put (D := D) (ci := 9) (v := .int (nI (k + 4))) (ty := .int) (C := RX9) (T := TX9) (N := 2) hx hb (htX9 hn) (fun _ h => h) tyX9 tyX9_ok nmX9 hown hK hP hD hS 1 rfl rfl 1 (by decide) (hn.get mw_43 rfl) (fun _ h9 => h9) rfl (by decide +kernel) rfl rfl (Nat.le_of_ble_eq_true rfl) dX9_put_36 (fun H locs hP hD hS => ?_)
  have hP : va_P D vwCl [(r, .inl (ct 0, 2000, .inl f_20)), (h0, .inr (9, [.ref r, .int (nI (k + 4))]))] _ := hP
  have hD : va_D A [(r, .inl (ct 0, 2000, .inl f_20)), (h0, .inr (9, [.ref r, .int (nI (k + 4))]))] := hD
  refine lv_iinc (v := (-8)) (lv' := [(2, .int (-8)), (0, .ref h0), (1, .int v)]) hx hb dX9_put_39 hl (k := 0) rfl (by decide) (by decide) rfl (fun ls hl => ?_)
  refine lv_goto (tgt := 12) hx hb dX9_put_42 (by decide) ?_
  refine lv_iload_n hx hb dX9_put_12 rfl (lv_at hl 0 rfl) ?_
  refine lv_if_lt (tgt := 45) hx hb dX9_put_13 (by decide) (fun c_21 => ?_) (fun c_21 => absurd (by decide) c_21)
  exact end_v hx hb hr hlocks dX9_put_45 f_20 trivial hP hD hS [1, 0] rfl (by decide) rfl (Nat.le_of_ble_eq_true rfl) (Nat.le_of_ble_eq_true rfl)
set_option maxHeartbeats 4000000 in
set_option maxRecDepth 100000 in
theorem c_X9_at (l : Launch) (D : va_G) (ct : Nat → ClassId) (h0 : Nat) (r : Nat) (px : Int32)  : KI (S := Unit) l yX9_at cX9_at 2 (some .int) 1 20 D ct [.ref h0, .int px] [(h0, .inr (9, [.ref r, .int 0]))] 0 0 (fun r _ => r = -1) (fun (_ : Unit) => [(h0, .inr (9, [.ref r, .int 0]))]) := by
  refine KI_of (by decide) (Nat.le_of_ble_eq_true rfl) (fun p e s m below meth c A C0 hA hS hP hD ls hl => ?_)
  obtain ⟨hx, hb, hr, hown, hin, hml, hlocks, hn, hK⟩ := C0
  have hl : lv_has ls 2 [(0, .ref h0), (1, .int px)] := hl
  refine lv_iload_n hx hb dX9_at_0 rfl (lv_at hl 1 rfl) ?_
  refine lv_if_lt (tgt := 19) hx hb dX9_at_1 (by decide) (fun c_1 => ?_) (fun c_1 => ?_)
  · refine lv_iconst (v := (-1)) hx hb dX9_at_19 (by decide) ?_
    refine lv_goto (tgt := 33) hx hb dX9_at_20 (by decide) ?_
    exact end_i hx hb hr hlocks dX9_at_33 rfl () rfl hP hD hS [0] rfl (by decide) rfl (Nat.le_of_ble_eq_true rfl) (Nat.le_of_ble_eq_true rfl)
  · refine lv_iload_n hx hb dX9_at_4 rfl (lv_at hl 1 rfl) ?_
    refine lv_aload_n hx hb dX9_at_5 rfl (lv_at hl 0 rfl) ?_
    refine va_get (D := D) (ci := 9) (v := .int 0) (C := RX9) (T := TX9) (N := 2) hx hb (htX9 hn) (fun _ h => h) hown hK hP 0 rfl rfl 1 (by decide) (hn.get mw_43 rfl) (fun _ h9 => h9) rfl dX9_at_6 ?_
    refine lv_icmp_ge (tgt := 19) hx hb dX9_at_9 (by decide) (fun c_2 => ?_) (fun c_2 => absurd (nle_of_nlt c_1) c_2)
    refine lv_iconst (v := (-1)) hx hb dX9_at_19 (by decide) ?_
    refine lv_goto (tgt := 33) hx hb dX9_at_20 (by decide) ?_
    exact end_i hx hb hr hlocks dX9_at_33 rfl () rfl hP hD hS [0] rfl (by decide) rfl (Nat.le_of_ble_eq_true rfl) (Nat.le_of_ble_eq_true rfl)
set_option maxHeartbeats 4000000 in
set_option maxRecDepth 100000 in
theorem c_X6_init (l : Launch) (D : va_G) (ct : Nat → ClassId) (h0 : Nat)  : KV (S := Nat × Nat) l yX6_init cX6_init 1 none 2 20 D ct [.ref h0] [(h0, .inr (6, [.null, .null, .int 0]))] 2 4112 (fun _ => True) (fun (u : Nat × Nat) => match u with | (a, b) => [(h0, .inr (6, [.ref a, .ref b, .int 0])), (a, .inl (ct 0, 4096, .inl (fun _ => 0))), (b, .inl (ct 1, 16, .inl (fun _ => 0)))]) := by
  refine KV_of (by decide) (Nat.le_of_ble_eq_true rfl) (fun p e s m below meth c A C0 hA hS hP hD ls hl => ?_)
  obtain ⟨hx, hb, hr, hown, hin, hml, hlocks, hn, hK⟩ := C0
  have hl : lv_has ls 1 [(0, .ref h0)] := hl
  refine lv_aload_n hx hb dX6_init_0 rfl (lv_at hl 0 rfl) ?_
  refine W.objInit hx hb hown (hn.get mw_60 rfl) (hn.get mw_34 rfl) (hn.get mw_oi rfl) rfl (by rw [hml]; exact hl.1) rfl dX6_init_1 (Nat.le_of_ble_eq_true rfl) (Nat.le_of_ble_eq_true rfl) ?_
  refine W.eq (g2 := F0 m 4 ls []) rfl ?_
  refine lv_aload_n hx hb dX6_init_4 rfl (lv_at hl 0 rfl) ?_
  refine lv_sipush (v := 4096) hx hb dX6_init_5 (by decide) ?_
  refine na_new (atype := .byte) (k1 := 1) (n1 := 4096) hx hb hn mw_54 rfl hK hP hD hS hA 0 rfl 4096 (4096, .inl (fun _ => 0)) (fun _ => rfl) (by decide) (by decide) (Nat.le_of_ble_eq_true rfl) (Nat.le_of_ble_eq_true rfl) (Nat.le_of_ble_eq_true rfl) (Nat.le_of_ble_eq_true rfl) (Nat.le_of_ble_eq_true rfl) dX6_init_8 (fun q_1 H hP hD hS => ?_)
  have hP : va_P D vwCl [(h0, .inr (6, [.null, .null, .int 0])), (q_1, .inl (ct 0, 4096, .inl (fun _ => 0)))] _ := hP
  have hD : va_D A [(h0, .inr (6, [.null, .null, .int 0])), (q_1, .inl (ct 0, 4096, .inl (fun _ => 0)))] := hD
  refine va_putF (D := D) (ci := 6) (v := .ref q_1) (ty := .array .byte) (C := RX6) (T := TX6) (N := 3) hx hb (htX6 hn) (fun _ h => h) tyX6 tyX6_ok nmX6 hown hK hP hD hS 0 rfl rfl 0 (by decide) (hn.get mw_61 rfl) (fun _ h9 => h9) rfl hin rfl (by decide +kernel) rfl rfl (Nat.le_of_ble_eq_true rfl) dX6_init_10 (fun H locs hP hD hS => ?_)
  have hP : va_P D vwCl [(h0, .inr (6, [.ref q_1, .null, .int 0])), (q_1, .inl (ct 0, 4096, .inl (fun _ => 0)))] _ := hP
  have hD : va_D A [(h0, .inr (6, [.ref q_1, .null, .int 0])), (q_1, .inl (ct 0, 4096, .inl (fun _ => 0)))] := hD
  refine lv_aload_n hx hb dX6_init_13 rfl (lv_at hl 0 rfl) ?_
  refine lv_bipush (v := 16) hx hb dX6_init_14 (by decide) ?_
  refine na_new (atype := .int) (k1 := 2) (n1 := 4112) hx hb hn mw_72 rfl hK hP hD hS hA 1 rfl 16 (16, .inl (fun _ => 0)) (fun _ => rfl) (by decide) (by decide) (Nat.le_of_ble_eq_true rfl) (Nat.le_of_ble_eq_true rfl) (Nat.le_of_ble_eq_true rfl) (Nat.le_of_ble_eq_true rfl) (Nat.le_of_ble_eq_true rfl) dX6_init_16 (fun q_2 H hP hD hS => ?_)
  have hP : va_P D vwCl [(h0, .inr (6, [.ref q_1, .null, .int 0])), (q_1, .inl (ct 0, 4096, .inl (fun _ => 0))), (q_2, .inl (ct 1, 16, .inl (fun _ => 0)))] _ := hP
  have hD : va_D A [(h0, .inr (6, [.ref q_1, .null, .int 0])), (q_1, .inl (ct 0, 4096, .inl (fun _ => 0))), (q_2, .inl (ct 1, 16, .inl (fun _ => 0)))] := hD
  refine va_putF (D := D) (ci := 6) (v := .ref q_2) (ty := .array .int) (C := RX6) (T := TX6) (N := 3) hx hb (htX6 hn) (fun _ h => h) tyX6 tyX6_ok nmX6 hown hK hP hD hS 0 rfl rfl 1 (by decide) (hn.get mw_62 rfl) (fun _ h9 => h9) rfl hin rfl (by decide +kernel) rfl rfl (Nat.le_of_ble_eq_true rfl) dX6_init_18 (fun H locs hP hD hS => ?_)
  have hP : va_P D vwCl [(h0, .inr (6, [.ref q_1, .ref q_2, .int 0])), (q_1, .inl (ct 0, 4096, .inl (fun _ => 0))), (q_2, .inl (ct 1, 16, .inl (fun _ => 0)))] _ := hP
  have hD : va_D A [(h0, .inr (6, [.ref q_1, .ref q_2, .int 0])), (q_1, .inl (ct 0, 4096, .inl (fun _ => 0))), (q_2, .inl (ct 1, 16, .inl (fun _ => 0)))] := hD
  exact end_v hx hb hr hlocks dX6_init_21 (q_1, q_2) trivial hP hD hS [0, 1, 2] rfl (by decide) rfl (Nat.le_of_ble_eq_true rfl) (Nat.le_of_ble_eq_true rfl)
set_option maxHeartbeats 4000000 in
set_option maxRecDepth 100000 in
theorem c_X6_add (l : Launch) (D : va_G) (ct : Nat → ClassId) (k0 : Nat) (ka : Nat) (kb : Nat) (t0 : Nat) (tr : Nat) (f : Nat → Int32)  : KI (S := Nat → Int32) l yX6_add cX6_add 3 (some .int) 1 20 D ct [.ref k0, .ref t0] [(k0, .inr (6, [.ref ka, .ref kb, .int 0])), (kb, .inl (ct 1, 16, .inl f)), (t0, .inr (9, [.ref tr, .int 0]))] 0 0 (fun r _ => r = 0) (fun (g : Nat → Int32) => [(k0, .inr (6, [.ref ka, .ref kb, .int 1])), (kb, .inl (ct 1, 16, .inl g)), (t0, .inr (9, [.ref tr, .int 0]))]) := by
  refine KI_of (by decide) (Nat.le_of_ble_eq_true rfl) (fun p e s m below meth c A C0 hA hS hP hD ls hl => ?_)
  obtain ⟨hx, hb, hr, hown, hin, hml, hlocks, hn, hK⟩ := C0
  have hl : lv_has ls 3 [(0, .ref k0), (1, .ref t0)] := hl
  refine lv_aload_n hx hb dX6_add_0 rfl (lv_at hl 0 rfl) ?_
  refine va_get (D := D) (ci := 6) (v := .int 0) (C := RX6) (T := TX6) (N := 3) hx hb (htX6 hn) (fun _ h => h) hown hK hP 0 rfl rfl 2 (by decide) (hn.get mw_63 rfl) (fun _ h9 => h9) rfl dX6_add_1 ?_
  refine lv_bipush (v := 16) hx hb dX6_add_4 (by decide) ?_
  refine lv_icmp_lt (tgt := 11) hx hb dX6_add_6 (by decide) (fun c_1 => ?_) (fun c_1 => absurd (by decide) c_1)
  refine lv_aload_n hx hb dX6_add_11 rfl (lv_at hl 1 rfl) ?_
  refine va_getN (D := D) (ci := 9) (v := .int 0) (C := RX9) (T := TX9) (N := 2) hx hb (htX9 hn) (fun _ h => h) hown hK hP 2 rfl rfl 1 (by decide) (hn.get mw_46 rfl) (fun _ h9 => h9) rfl dX6_add_12 ?_
  refine lv_sipush (v := 256) hx hb dX6_add_15 (by decide) ?_
  refine lv_icmp_le (tgt := 24) hx hb dX6_add_18 (by decide) (fun c_2 => ?_) (fun c_2 => absurd (by decide) c_2)
  refine lv_iconst (v := 0) hx hb dX6_add_24 (by decide) ?_
  refine lv_istore_n (lv' := [(2, .int 0), (0, .ref k0), (1, .ref t0)]) hx hb dX6_add_25 rfl hl (by decide) rfl (fun ls hl => ?_)
  refine lv_iload_n hx hb dX6_add_26 rfl (lv_at hl 0 rfl) ?_
  refine lv_aload_n hx hb dX6_add_27 rfl (lv_at hl 2 rfl) ?_
  refine va_getN (D := D) (ci := 9) (v := .int 0) (C := RX9) (T := TX9) (N := 2) hx hb (htX9 hn) (fun _ h => h) hown hK hP 2 rfl rfl 1 (by decide) (hn.get mw_46 rfl) (fun _ h9 => h9) rfl dX6_add_28 ?_
  refine lv_icmp_ge (tgt := 61) hx hb dX6_add_31 (by decide) (fun c_3 => ?_) (fun c_3 => absurd (by decide) c_3)
  refine lv_aload_n hx hb dX6_add_61 rfl (lv_at hl 1 rfl) ?_
  refine va_get (D := D) (ci := 6) (v := .ref kb) (C := RX6) (T := TX6) (N := 3) hx hb (htX6 hn) (fun _ h => h) hown hK hP 0 rfl rfl 1 (by decide) (hn.get mw_62 rfl) (fun _ h9 => h9) rfl dX6_add_62 ?_
  refine lv_aload_n hx hb dX6_add_65 rfl (lv_at hl 1 rfl) ?_
  refine va_get (D := D) (ci := 6) (v := .int 0) (C := RX6) (T := TX6) (N := 3) hx hb (htX6 hn) (fun _ h => h) hown hK hP 0 rfl rfl 2 (by decide) (hn.get mw_63 rfl) (fun _ h9 => h9) rfl dX6_add_66 ?_
  refine lv_aload_n hx hb dX6_add_69 rfl (lv_at hl 2 rfl) ?_
  refine va_getN (D := D) (ci := 9) (v := .int 0) (C := RX9) (T := TX9) (N := 2) hx hb (htX9 hn) (fun _ h => h) hown hK hP 2 rfl rfl 1 (by decide) (hn.get mw_46 rfl) (fun _ h9 => h9) rfl dX6_add_70 ?_
  refine va_iast hx hb hK hP hD hS 1 1 rfl rfl (vp_in_nI (n := 0) (by decide) (by decide)) dX6_add_73 (fun H locs hP hD hS => ?_)
  have hP : va_P D vwCl [(k0, .inr (6, [.ref ka, .ref kb, .int 0])), (kb, .inl (ct 1, 16, .inl (upd f (0 : Int32).toNatClampNeg 0))), (t0, .inr (9, [.ref tr, .int 0]))] _ := hP
  have hD : va_D A [(k0, .inr (6, [.ref ka, .ref kb, .int 0])), (kb, .inl (ct 1, 16, .inl (upd f (0 : Int32).toNatClampNeg 0))), (t0, .inr (9, [.ref tr, .int 0]))] := hD
  generalize (upd f (0 : Int32).toNatClampNeg 0) = f_4 at hP hD
  refine lv_aload_n hx hb dX6_add_74 rfl (lv_at hl 1 rfl) ?_
  refine lv_dup hx hb dX6_add_75 rfl ?_
  refine va_get (D := D) (ci := 6) (v := .int 0) (C := RX6) (T := TX6) (N := 3) hx hb (htX6 hn) (fun _ h => h) hown hK hP 0 rfl rfl 2 (by decide) (hn.get mw_63 rfl) (fun _ h9 => h9) rfl dX6_add_76 ?_
  refine lv_iconst (v := 1) hx hb dX6_add_79 (by decide) ?_
  refine lv_iadd hx hb dX6_add_80 ?_
  refine top_c (v := 1) (by decide) ?_
  refine va_put (D := D) (ci := 6) (v := .int 1) (ty := .int) (C := RX6) (T := TX6) (N := 3) hx hb (htX6 hn) (fun _ h => h) tyX6 tyX6_ok nmX6 hown hK hP hD hS 0 rfl rfl 2 (by decide) (hn.get mw_63 rfl) (fun _ h9 => h9) rfl (by decide +kernel) rfl rfl (Nat.le_of_ble_eq_true rfl) dX6_add_81 (fun H locs hP hD hS => ?_)
  have hP : va_P D vwCl [(k0, .inr (6, [.ref ka, .ref kb, .int 1])), (kb, .inl (ct 1, 16, .inl f_4)), (t0, .inr (9, [.ref tr, .int 0]))] _ := hP
  have hD : va_D A [(k0, .inr (6, [.ref ka, .ref kb, .int 1])), (kb, .inl (ct 1, 16, .inl f_4)), (t0, .inr (9, [.ref tr, .int 0]))] := hD
  refine lv_aload_n hx hb dX6_add_84 rfl (lv_at hl 1 rfl) ?_
  refine va_get (D := D) (ci := 6) (v := .int 1) (C := RX6) (T := TX6) (N := 3) hx hb (htX6 hn) (fun _ h => h) hown hK hP 0 rfl rfl 2 (by decide) (hn.get mw_63 rfl) (fun _ h9 => h9) rfl dX6_add_85 ?_
  refine lv_iconst (v := 1) hx hb dX6_add_88 (by decide) ?_
  refine lv_isub hx hb dX6_add_89 ?_
  refine top_c (v := 0) (by decide) ?_
  exact end_i hx hb hr hlocks dX6_add_90 rfl f_4 rfl hP hD hS [0, 1, 2] rfl (by decide) rfl (Nat.le_of_ble_eq_true rfl) (Nat.le_of_ble_eq_true rfl)
set_option maxHeartbeats 4000000 in
set_option maxRecDepth 100000 in
theorem c_X6_lengthOf (l : Launch) (D : va_G) (ct : Nat → ClassId) (k0 : Nat) (ka : Nat) (kb : Nat) (px : Int32)  : KI (S := Unit) l yX6_lengthOf cX6_lengthOf 2 (some .int) 1 20 D ct [.ref k0, .int px] [(k0, .inr (6, [.ref ka, .ref kb, .int 0]))] 0 0 (fun r _ => r = -1) (fun (_ : Unit) => [(k0, .inr (6, [.ref ka, .ref kb, .int 0]))]) := by
  refine KI_of (by decide) (Nat.le_of_ble_eq_true rfl) (fun p e s m below meth c A C0 hA hS hP hD ls hl => ?_)
  obtain ⟨hx, hb, hr, hown, hin, hml, hlocks, hn, hK⟩ := C0
  have hl : lv_has ls 2 [(0, .ref k0), (1, .int px)] := hl
  refine lv_iload_n hx hb dX6_lengthOf_0 rfl (lv_at hl 1 rfl) ?_
  refine lv_if_lt (tgt := 12) hx hb dX6_lengthOf_1 (by decide) (fun c_1 => ?_) (fun c_1 => ?_)
  · refine lv_iconst (v := (-1)) hx hb dX6_lengthOf_12 (by decide) ?_
    refine lv_goto (tgt := 22) hx hb dX6_lengthOf_13 (by decide) ?_
    exact end_i hx hb hr hlocks dX6_lengthOf_22 rfl () rfl hP hD hS [0] rfl (by decide) rfl (Nat.le_of_ble_eq_true rfl) (Nat.le_of_ble_eq_true rfl)
  · refine lv_iload_n hx hb dX6_lengthOf_4 rfl (lv_at hl 1 rfl) ?_
    refine lv_aload_n hx hb dX6_lengthOf_5 rfl (lv_at hl 0 rfl) ?_
    refine va_get (D := D) (ci := 6) (v := .int 0) (C := RX6) (T := TX6) (N := 3) hx hb (htX6 hn) (fun _ h => h) hown hK hP 0 rfl rfl 2 (by decide) (hn.get mw_63 rfl) (fun _ h9 => h9) rfl dX6_lengthOf_6 ?_
    refine lv_icmp_lt (tgt := 16) hx hb dX6_lengthOf_9 (by decide) (fun c_2 => absurd c_2 (c_1)) (fun c_2 => ?_)
    refine lv_iconst (v := (-1)) hx hb dX6_lengthOf_12 (by decide) ?_
    refine lv_goto (tgt := 22) hx hb dX6_lengthOf_13 (by decide) ?_
    exact end_i hx hb hr hlocks dX6_lengthOf_22 rfl () rfl hP hD hS [0] rfl (by decide) rfl (Nat.le_of_ble_eq_true rfl) (Nat.le_of_ble_eq_true rfl)
set_option maxHeartbeats 4000000 in
set_option maxRecDepth 100000 in
theorem c_X6_at (l : Launch) (D : va_G) (ct : Nat → ClassId) (k0 : Nat) (ka : Nat) (kb : Nat) (px : Int32) (j : Int64)  : KI (S := Unit) l yX6_at cX6_at 4 (some .int) 2 41 D ct [.ref k0, .int px, .long j] [(k0, .inr (6, [.ref ka, .ref kb, .int 0]))] 0 0 (fun r _ => r = -1) (fun (_ : Unit) => [(k0, .inr (6, [.ref ka, .ref kb, .int 0]))]) := by
  refine KI_of (by decide) (Nat.le_of_ble_eq_true rfl) (fun p e s m below meth c A C0 hA hS hP hD ls hl => ?_)
  obtain ⟨hx, hb, hr, hown, hin, hml, hlocks, hn, hK⟩ := C0
  have hl : lv_has ls 4 [(0, .ref k0), (1, .int px), (2, .long j)] := hl
  refine lv_lload_n hx hb dX6_at_0 rfl (lv_at hl 2 rfl) ?_
  refine lv_lconst (v := 0) hx hb dX6_at_1 (by decide) ?_
  refine W.lcmp hx hb dX6_at_2 ?_
  refine lv_topi (fun z_1 ez_1 => ?_)
  refine lv_if_lt (tgt := 17) hx hb dX6_at_3 (by decide) (fun c_2 => ?_) (fun c_2 => ?_)
  · refine lv_iconst (v := (-1)) hx hb dX6_at_17 (by decide) ?_
    refine lv_goto (tgt := 38) hx hb dX6_at_18 (by decide) ?_
    exact end_i hx hb hr hlocks dX6_at_38 rfl () rfl hP hD hS [0] rfl (by decide) rfl (Nat.le_of_ble_eq_true rfl) (Nat.le_of_ble_eq_true rfl)
  · refine lv_lload_n hx hb dX6_at_6 rfl (lv_at hl 2 rfl) ?_
    refine lv_aload_n hx hb dX6_at_7 rfl (lv_at hl 0 rfl) ?_
    refine lv_iload_n hx hb dX6_at_8 rfl (lv_at hl 1 rfl) ?_
    have hPc := hP.sub (ws' := [(k0, .inr (6, [.ref ka, .ref kb, .int 0]))]) [0] rfl
    have hDc := hD.sub (ws' := [(k0, .inr (6, [.ref ka, .ref kb, .int 0]))]) [0] (by decide) rfl
    refine go_i (k1 := 0) (n1 := 0) (wr := []) [0] [] (rn_V (As := [.int px]) (rest := [.long j]) (c_X6_lengthOf l D ct k0 ka kb px  _) (cb_of (n := 1) hn mw_468 mw_3 mw_465 mhX6_lengthOf ⟨Nat.le_of_ble_eq_true rfl, Nat.le_of_ble_eq_true rfl⟩) hx hb hml hown hn hK hPc hDc mw_467 mw_s6 (ci := 6) (q0 := 0) rfl rfl rfl rfl hl.1 (Nat.le_of_ble_eq_true rfl) dX6_at_9 ⟨(Nat.le_of_ble_eq_true rfl), (Nat.le_of_ble_eq_true rfl)⟩) hP hD hS hA rfl rfl (by decide) (by decide) (Nat.le_of_ble_eq_true rfl) (Nat.le_of_ble_eq_true rfl) (fun r_3 u_4 H locs hp_5 hP hD hS => ?_)
    have hr_3 := hp_5
    rw [show r_3 = (-1) from hr_3]
    have hP : va_P D vwCl [(k0, .inr (6, [.ref ka, .ref kb, .int 0]))] _ := hP
    have hD : va_D A [(k0, .inr (6, [.ref ka, .ref kb, .int 0]))] := hD
    refine lv_i2l (v := (-1)) hx hb dX6_at_12 (by decide) ?_
    refine W.lcmp hx hb dX6_at_13 ?_
    refine lv_topi (fun z_6 ez_6 => ?_)
    refine lv_if_lt (tgt := 21) hx hb dX6_at_14 (by decide) (fun c_7 => absurd c_7 (cmp_m1 ez_1 ez_6 c_2)) (fun c_7 => ?_)
    refine lv_iconst (v := (-1)) hx hb dX6_at_17 (by decide) ?_
    refine lv_goto (tgt := 38) hx hb dX6_at_18 (by decide) ?_
    exact end_i hx hb hr hlocks dX6_at_38 rfl () rfl hP hD hS [0] rfl (by decide) rfl (Nat.le_of_ble_eq_true rfl) (Nat.le_of_ble_eq_true rfl)
set_option maxHeartbeats 4000000 in
set_option maxRecDepth 100000 in
theorem c_X6_eightFrom (l : Launch) (D : va_G) (ct : Nat → ClassId) (k0 : Nat) (ka : Nat) (kb : Nat) (px : Int32) (j : Int32)  : KL (S := Unit) l yX6_eightFrom cX6_eightFrom 7 (some .long) 3 64 D ct [.ref k0, .int px, .int j] [(k0, .inr (6, [.ref ka, .ref kb, .int 0]))] 0 0 (fun r _ => r = -1) (fun (_ : Unit) => [(k0, .inr (6, [.ref ka, .ref kb, .int 0]))]) := by
  refine KL_of (by decide) (Nat.le_of_ble_eq_true rfl) (fun p e s m below meth c A C0 hA hS hP hD ls hl => ?_)
  obtain ⟨hx, hb, hr, hown, hin, hml, hlocks, hn, hK⟩ := C0
  have hl : lv_has ls 7 [(0, .ref k0), (1, .int px), (2, .int j)] := hl
  refine lv_aload_n hx hb dX6_eightFrom_0 rfl (lv_at hl 0 rfl) ?_
  refine lv_iload_n hx hb dX6_eightFrom_1 rfl (lv_at hl 1 rfl) ?_
  refine lv_iload_n hx hb dX6_eightFrom_2 rfl (lv_at hl 2 rfl) ?_
  refine lv_i2l hx hb dX6_eightFrom_3 rfl ?_
  refine lv_topl (fun z_1 ez_1 => ?_)
  have hPc := hP.sub (ws' := [(k0, .inr (6, [.ref ka, .ref kb, .int 0]))]) [0] rfl
  have hDc := hD.sub (ws' := [(k0, .inr (6, [.ref ka, .ref kb, .int 0]))]) [0] (by decide) rfl
  refine go_i (k1 := 0) (n1 := 0) (wr := []) [0] [] (rn_V (As := [.int px, .long z_1]) (rest := []) (c_X6_at l D ct k0 ka kb px z_1  _) (cb_of (n := 2) hn mw_464 mw_3 mw_461 mhX6_at ⟨Nat.le_of_ble_eq_true rfl, Nat.le_of_ble_eq_true rfl⟩) hx hb hml hown hn hK hPc hDc mw_463 mw_s5 (ci := 6) (q0 := 0) rfl rfl rfl rfl hl.1 (Nat.le_of_ble_eq_true rfl) dX6_eightFrom_4 ⟨(Nat.le_of_ble_eq_true rfl), (Nat.le_of_ble_eq_true rfl)⟩) hP hD hS hA rfl rfl (by decide) (by decide) (Nat.le_of_ble_eq_true rfl) (Nat.le_of_ble_eq_true rfl) (fun r_2 u_3 H locs hp_4 hP hD hS => ?_)
  have hr_2 := hp_4
  rw [show r_2 = (-1) from hr_2]
  have hP : va_P D vwCl [(k0, .inr (6, [.ref ka, .ref kb, .int 0]))] _ := hP
  have hD : va_D A [(k0, .inr (6, [.ref ka, .ref kb, .int 0]))] := hD
  refine lv_if_ge (tgt := 14) hx hb dX6_eightFrom_7 (by decide) (fun c_5 => absurd c_5 (by decide)) (fun c_5 => ?_)
  refine lv_ldc2 (v := (-1)) hx hb hown (hn.get mw_469 rfl) dX6_eightFrom_10 ?_
  exact end_l hx hb hr hlocks dX6_eightFrom_13 () rfl hP hD hS [0] rfl (by decide) rfl (Nat.le_of_ble_eq_true rfl) (Nat.le_of_ble_eq_true rfl)
set_option maxHeartbeats 4000000 in
set_option maxRecDepth 100000 in
theorem c_X4_init (l : Launch) (D : va_G) (ct : Nat → ClassId) (h0 : Nat) (k0 : Nat)  : KV (S := Nat × Nat) l yX4_init cX4_init 2 none 2 20 D ct [.ref h0, .ref k0] [(h0, .inr (4, [.null, .null, .null, .int 0, .int 0, .int 0, .int 0, .int 0, .long 0, .int 0]))] 2 96 (fun _ => True) (fun (u : Nat × Nat) => match u with | (a, b) => [(h0, .inr (4, [.ref a, .ref b, .ref k0, .int 0, .int 0, .int 0, .int 0, .int 0, .long 0, .int 0])), (a, .inl (ct 2, 32, .inr (.inl (fun _ => 0)))), (b, .inl (ct 0, 64, .inl (fun _ => 0)))]) := by
  refine KV_of (by decide) (Nat.le_of_ble_eq_true rfl) (fun p e s m below meth c A C0 hA hS hP hD ls hl => ?_)
  obtain ⟨hx, hb, hr, hown, hin, hml, hlocks, hn, hK⟩ := C0
  have hl : lv_has ls 2 [(0, .ref h0), (1, .ref k0)] := hl
  refine lv_aload_n hx hb dX4_init_0 rfl (lv_at hl 0 rfl) ?_
  refine W.objInit hx hb hown (hn.get mw_78 rfl) (hn.get mw_34 rfl) (hn.get mw_oi rfl) rfl (by rw [hml]; exact hl.1) rfl dX4_init_1 (Nat.le_of_ble_eq_true rfl) (Nat.le_of_ble_eq_true rfl) ?_
  refine W.eq (g2 := F0 m 4 ls []) rfl ?_
  refine lv_aload_n hx hb dX4_init_4 rfl (lv_at hl 0 rfl) ?_
  refine lv_bipush (v := 32) hx hb dX4_init_5 (by decide) ?_
  refine na_new (atype := .long) (k1 := 1) (n1 := 32) hx hb hn mw_123 rfl hK hP hD hS hA 2 rfl 32 (32, .inr (.inl (fun _ => 0))) (fun _ => rfl) (by decide) (by decide) (Nat.le_of_ble_eq_true rfl) (Nat.le_of_ble_eq_true rfl) (Nat.le_of_ble_eq_true rfl) (Nat.le_of_ble_eq_true rfl) (Nat.le_of_ble_eq_true rfl) dX4_init_7 (fun q_1 H hP hD hS => ?_)
  have hP : va_P D vwCl [(h0, .inr (4, [.null, .null, .null, .int 0, .int 0, .int 0, .int 0, .int 0, .long 0, .int 0])), (q_1, .inl (ct 2, 32, .inr (.inl (fun _ => 0))))] _ := hP
  have hD : va_D A [(h0, .inr (4, [.null, .null, .null, .int 0, .int 0, .int 0, .int 0, .int 0, .long 0, .int 0])), (q_1, .inl (ct 2, 32, .inr (.inl (fun _ => 0))))] := hD
  refine va_putF (D := D) (ci := 4) (v := .ref q_1) (ty := .array .long) (C := RX4) (T := TX4) (N := 10) hx hb (htX4 hn) (fun _ h => h) tyX4 tyX4_ok nmX4 hown hK hP hD hS 0 rfl rfl 0 (by decide) (hn.get mw_79 rfl) (fun _ h9 => h9) rfl hin rfl (by decide +kernel) rfl rfl (Nat.le_of_ble_eq_true rfl) dX4_init_9 (fun H locs hP hD hS => ?_)
  have hP : va_P D vwCl [(h0, .inr (4, [.ref q_1, .null, .null, .int 0, .int 0, .int 0, .int 0, .int 0, .long 0, .int 0])), (q_1, .inl (ct 2, 32, .inr (.inl (fun _ => 0))))] _ := hP
  have hD : va_D A [(h0, .inr (4, [.ref q_1, .null, .null, .int 0, .int 0, .int 0, .int 0, .int 0, .long 0, .int 0])), (q_1, .inl (ct 2, 32, .inr (.inl (fun _ => 0))))] := hD
  refine lv_aload_n hx hb dX4_init_12 rfl (lv_at hl 0 rfl) ?_
  refine lv_bipush (v := 64) hx hb dX4_init_13 (by decide) ?_
  refine na_new (atype := .byte) (k1 := 2) (n1 := 96) hx hb hn mw_54 rfl hK hP hD hS hA 0 rfl 64 (64, .inl (fun _ => 0)) (fun _ => rfl) (by decide) (by decide) (Nat.le_of_ble_eq_true rfl) (Nat.le_of_ble_eq_true rfl) (Nat.le_of_ble_eq_true rfl) (Nat.le_of_ble_eq_true rfl) (Nat.le_of_ble_eq_true rfl) dX4_init_15 (fun q_2 H hP hD hS => ?_)
  have hP : va_P D vwCl [(h0, .inr (4, [.ref q_1, .null, .null, .int 0, .int 0, .int 0, .int 0, .int 0, .long 0, .int 0])), (q_1, .inl (ct 2, 32, .inr (.inl (fun _ => 0)))), (q_2, .inl (ct 0, 64, .inl (fun _ => 0)))] _ := hP
  have hD : va_D A [(h0, .inr (4, [.ref q_1, .null, .null, .int 0, .int 0, .int 0, .int 0, .int 0, .long 0, .int 0])), (q_1, .inl (ct 2, 32, .inr (.inl (fun _ => 0)))), (q_2, .inl (ct 0, 64, .inl (fun _ => 0)))] := hD
  refine va_putF (D := D) (ci := 4) (v := .ref q_2) (ty := .array .byte) (C := RX4) (T := TX4) (N := 10) hx hb (htX4 hn) (fun _ h => h) tyX4 tyX4_ok nmX4 hown hK hP hD hS 0 rfl rfl 1 (by decide) (hn.get mw_80 rfl) (fun _ h9 => h9) rfl hin rfl (by decide +kernel) rfl rfl (Nat.le_of_ble_eq_true rfl) dX4_init_17 (fun H locs hP hD hS => ?_)
  have hP : va_P D vwCl [(h0, .inr (4, [.ref q_1, .ref q_2, .null, .int 0, .int 0, .int 0, .int 0, .int 0, .long 0, .int 0])), (q_1, .inl (ct 2, 32, .inr (.inl (fun _ => 0)))), (q_2, .inl (ct 0, 64, .inl (fun _ => 0)))] _ := hP
  have hD : va_D A [(h0, .inr (4, [.ref q_1, .ref q_2, .null, .int 0, .int 0, .int 0, .int 0, .int 0, .long 0, .int 0])), (q_1, .inl (ct 2, 32, .inr (.inl (fun _ => 0)))), (q_2, .inl (ct 0, 64, .inl (fun _ => 0)))] := hD
  refine lv_aload_n hx hb dX4_init_20 rfl (lv_at hl 0 rfl) ?_
  refine lv_aload_n hx hb dX4_init_21 rfl (lv_at hl 1 rfl) ?_
  refine va_putF (D := D) (ci := 4) (v := .ref k0) (ty := .object "FilterForge$Packets") (C := RX4) (T := TX4) (N := 10) hx hb (htX4 hn) (fun _ h => h) tyX4 tyX4_ok nmX4 hown hK hP hD hS 0 rfl rfl 2 (by decide) (hn.get mw_82 rfl) (fun _ h9 => h9) rfl hin rfl (by decide +kernel) rfl rfl (Nat.le_of_ble_eq_true rfl) dX4_init_22 (fun H locs hP hD hS => ?_)
  have hP : va_P D vwCl [(h0, .inr (4, [.ref q_1, .ref q_2, .ref k0, .int 0, .int 0, .int 0, .int 0, .int 0, .long 0, .int 0])), (q_1, .inl (ct 2, 32, .inr (.inl (fun _ => 0)))), (q_2, .inl (ct 0, 64, .inl (fun _ => 0)))] _ := hP
  have hD : va_D A [(h0, .inr (4, [.ref q_1, .ref q_2, .ref k0, .int 0, .int 0, .int 0, .int 0, .int 0, .long 0, .int 0])), (q_1, .inl (ct 2, 32, .inr (.inl (fun _ => 0)))), (q_2, .inl (ct 0, 64, .inl (fun _ => 0)))] := hD
  exact end_v hx hb hr hlocks dX4_init_25 (q_1, q_2) trivial hP hD hS [0, 1, 2] rfl (by decide) rfl (Nat.le_of_ble_eq_true rfl) (Nat.le_of_ble_eq_true rfl)
set_option maxHeartbeats 4000000 in
set_option maxRecDepth 100000 in
theorem c_X5_init (l : Launch) (D : va_G) (ct : Nat → ClassId) (h0 : Nat)  : KV (S := Nat) l yX5_init cX5_init 1 none 2 20 D ct [.ref h0] [(h0, .inr (5, [.null, .int 0]))] 1 60000 (fun _ => True) (fun (r : Nat) => [(h0, .inr (5, [.ref r, .int 0])), (r, .inl (ct 1, 60000, .inl (fun _ => 0)))]) := by
  refine KV_of (by decide) (Nat.le_of_ble_eq_true rfl) (fun p e s m below meth c A C0 hA hS hP hD ls hl => ?_)
  obtain ⟨hx, hb, hr, hown, hin, hml, hlocks, hn, hK⟩ := C0
  have hl : lv_has ls 1 [(0, .ref h0)] := hl
  refine lv_aload_n hx hb dX5_init_0 rfl (lv_at hl 0 rfl) ?_
  refine W.objInit hx hb hown (hn.get mw_129 rfl) (hn.get mw_34 rfl) (hn.get mw_oi rfl) rfl (by rw [hml]; exact hl.1) rfl dX5_init_1 (Nat.le_of_ble_eq_true rfl) (Nat.le_of_ble_eq_true rfl) ?_
  refine W.eq (g2 := F0 m 4 ls []) rfl ?_
  refine lv_aload_n hx hb dX5_init_4 rfl (lv_at hl 0 rfl) ?_
  refine lv_ldc (v := 60000) hx hb hown (hn.get mw_130 rfl) dX5_init_5 ?_
  refine na_new (atype := .int) (k1 := 1) (n1 := 60000) hx hb hn mw_72 rfl hK hP hD hS hA 1 rfl 60000 (60000, .inl (fun _ => 0)) (fun _ => rfl) (by decide) (by decide) (Nat.le_of_ble_eq_true rfl) (Nat.le_of_ble_eq_true rfl) (Nat.le_of_ble_eq_true rfl) (Nat.le_of_ble_eq_true rfl) (Nat.le_of_ble_eq_true rfl) dX5_init_7 (fun q_1 H hP hD hS => ?_)
  have hP : va_P D vwCl [(h0, .inr (5, [.null, .int 0])), (q_1, .inl (ct 1, 60000, .inl (fun _ => 0)))] _ := hP
  have hD : va_D A [(h0, .inr (5, [.null, .int 0])), (q_1, .inl (ct 1, 60000, .inl (fun _ => 0)))] := hD
  refine va_putF (D := D) (ci := 5) (v := .ref q_1) (ty := .array .int) (C := RX5) (T := TX5) (N := 2) hx hb (htX5 hn) (fun _ h => h) tyX5 tyX5_ok nmX5 hown hK hP hD hS 0 rfl rfl 0 (by decide) (hn.get mw_131 rfl) (fun _ h9 => h9) rfl hin rfl (by decide +kernel) rfl rfl (Nat.le_of_ble_eq_true rfl) dX5_init_9 (fun H locs hP hD hS => ?_)
  have hP : va_P D vwCl [(h0, .inr (5, [.ref q_1, .int 0])), (q_1, .inl (ct 1, 60000, .inl (fun _ => 0)))] _ := hP
  have hD : va_D A [(h0, .inr (5, [.ref q_1, .int 0])), (q_1, .inl (ct 1, 60000, .inl (fun _ => 0)))] := hD
  exact end_v hx hb hr hlocks dX5_init_12 q_1 trivial hP hD hS [0, 1] rfl (by decide) rfl (Nat.le_of_ble_eq_true rfl) (Nat.le_of_ble_eq_true rfl)
set_option maxHeartbeats 4000000 in
set_option maxRecDepth 100000 in
theorem c_X7_init (l : Launch) (D : va_G) (ct : Nat → ClassId) (h0 : Nat)  : KV (S := Nat) l yX7_init cX7_init 1 none 2 20 D ct [.ref h0] [(h0, .inr (7, [.null, .int 0]))] 1 4000 (fun _ => True) (fun (r : Nat) => [(h0, .inr (7, [.ref r, .int 0])), (r, .inl (ct 2, 4000, .inr (.inl (fun _ => 0))))]) := by
  refine KV_of (by decide) (Nat.le_of_ble_eq_true rfl) (fun p e s m below meth c A C0 hA hS hP hD ls hl => ?_)
  obtain ⟨hx, hb, hr, hown, hin, hml, hlocks, hn, hK⟩ := C0
  have hl : lv_has ls 1 [(0, .ref h0)] := hl
  refine lv_aload_n hx hb dX7_init_0 rfl (lv_at hl 0 rfl) ?_
  refine W.objInit hx hb hown (hn.get mw_222 rfl) (hn.get mw_34 rfl) (hn.get mw_oi rfl) rfl (by rw [hml]; exact hl.1) rfl dX7_init_1 (Nat.le_of_ble_eq_true rfl) (Nat.le_of_ble_eq_true rfl) ?_
  refine W.eq (g2 := F0 m 4 ls []) rfl ?_
  refine lv_aload_n hx hb dX7_init_4 rfl (lv_at hl 0 rfl) ?_
  refine lv_sipush (v := 4000) hx hb dX7_init_5 (by decide) ?_
  refine na_new (atype := .long) (k1 := 1) (n1 := 4000) hx hb hn mw_123 rfl hK hP hD hS hA 2 rfl 4000 (4000, .inr (.inl (fun _ => 0))) (fun _ => rfl) (by decide) (by decide) (Nat.le_of_ble_eq_true rfl) (Nat.le_of_ble_eq_true rfl) (Nat.le_of_ble_eq_true rfl) (Nat.le_of_ble_eq_true rfl) (Nat.le_of_ble_eq_true rfl) dX7_init_8 (fun q_1 H hP hD hS => ?_)
  have hP : va_P D vwCl [(h0, .inr (7, [.null, .int 0])), (q_1, .inl (ct 2, 4000, .inr (.inl (fun _ => 0))))] _ := hP
  have hD : va_D A [(h0, .inr (7, [.null, .int 0])), (q_1, .inl (ct 2, 4000, .inr (.inl (fun _ => 0))))] := hD
  refine va_putF (D := D) (ci := 7) (v := .ref q_1) (ty := .array .long) (C := RX7) (T := TX7) (N := 2) hx hb (htX7 hn) (fun _ h => h) tyX7 tyX7_ok nmX7 hown hK hP hD hS 0 rfl rfl 0 (by decide) (hn.get mw_223 rfl) (fun _ h9 => h9) rfl hin rfl (by decide +kernel) rfl rfl (Nat.le_of_ble_eq_true rfl) dX7_init_10 (fun H locs hP hD hS => ?_)
  have hP : va_P D vwCl [(h0, .inr (7, [.ref q_1, .int 0])), (q_1, .inl (ct 2, 4000, .inr (.inl (fun _ => 0))))] _ := hP
  have hD : va_D A [(h0, .inr (7, [.ref q_1, .int 0])), (q_1, .inl (ct 2, 4000, .inr (.inl (fun _ => 0))))] := hD
  exact end_v hx hb hr hlocks dX7_init_13 q_1 trivial hP hD hS [0, 1] rfl (by decide) rfl (Nat.le_of_ble_eq_true rfl) (Nat.le_of_ble_eq_true rfl)
set_option maxHeartbeats 4000000 in
set_option maxRecDepth 100000 in
theorem c_X7_takeTape (l : Launch) (D : va_G) (ct : Nat → ClassId) (p0 : Nat) (pr : Nat) (t0 : Nat) (tr : Nat)  : KI (S := Unit) l yX7_takeTape cX7_takeTape 3 (some .int) 1 20 D ct [.ref p0, .ref t0] [(p0, .inr (7, [.ref pr, .int 0])), (t0, .inr (9, [.ref tr, .int 0]))] 0 0 (fun r _ => r = -1) (fun (_ : Unit) => [(p0, .inr (7, [.ref pr, .int 0])), (t0, .inr (9, [.ref tr, .int 0]))]) := by
  refine KI_of (by decide) (Nat.le_of_ble_eq_true rfl) (fun p e s m below meth c A C0 hA hS hP hD ls hl => ?_)
  obtain ⟨hx, hb, hr, hown, hin, hml, hlocks, hn, hK⟩ := C0
  have hl : lv_has ls 3 [(0, .ref p0), (1, .ref t0)] := hl
  refine lv_aload_n hx hb dX7_takeTape_0 rfl (lv_at hl 1 rfl) ?_
  refine va_getN (D := D) (ci := 9) (v := .int 0) (C := RX9) (T := TX9) (N := 2) hx hb (htX9 hn) (fun _ h => h) hown hK hP 1 rfl rfl 1 (by decide) (hn.get mw_44 rfl) (fun _ h9 => h9) rfl dX7_takeTape_1 ?_
  refine lv_if_eq (tgt := 17) hx hb dX7_takeTape_4 (by decide) (fun c_1 => ?_) (fun c_1 => absurd (by decide) c_1)
  refine lv_iconst (v := (-1)) hx hb dX7_takeTape_17 (by decide) ?_
  exact end_i hx hb hr hlocks dX7_takeTape_18 rfl () rfl hP hD hS [0, 1] rfl (by decide) rfl (Nat.le_of_ble_eq_true rfl) (Nat.le_of_ble_eq_true rfl)
set_option maxHeartbeats 4000000 in
set_option maxRecDepth 100000 in
theorem c_X5_takeTape (l : Launch) (D : va_G) (ct : Nat → ClassId) (o0 : Nat) (or : Nat) (t0 : Nat) (tr : Nat)  : KI (S := Unit) l yX5_takeTape cX5_takeTape 3 (some .int) 1 20 D ct [.ref o0, .ref t0] [(o0, .inr (5, [.ref or, .int 0])), (t0, .inr (9, [.ref tr, .int 0]))] 0 0 (fun r _ => r = -1) (fun (_ : Unit) => [(o0, .inr (5, [.ref or, .int 0])), (t0, .inr (9, [.ref tr, .int 0]))]) := by
  refine KI_of (by decide) (Nat.le_of_ble_eq_true rfl) (fun p e s m below meth c A C0 hA hS hP hD ls hl => ?_)
  obtain ⟨hx, hb, hr, hown, hin, hml, hlocks, hn, hK⟩ := C0
  have hl : lv_has ls 3 [(0, .ref o0), (1, .ref t0)] := hl
  refine lv_aload_n hx hb dX5_takeTape_0 rfl (lv_at hl 1 rfl) ?_
  refine va_getN (D := D) (ci := 9) (v := .int 0) (C := RX9) (T := TX9) (N := 2) hx hb (htX9 hn) (fun _ h => h) hown hK hP 1 rfl rfl 1 (by decide) (hn.get mw_45 rfl) (fun _ h9 => h9) rfl dX5_takeTape_1 ?_
  refine lv_if_eq (tgt := 16) hx hb dX5_takeTape_4 (by decide) (fun c_1 => ?_) (fun c_1 => absurd (by decide) c_1)
  refine lv_iconst (v := (-1)) hx hb dX5_takeTape_16 (by decide) ?_
  exact end_i hx hb hr hlocks dX5_takeTape_17 rfl () rfl hP hD hS [0, 1] rfl (by decide) rfl (Nat.le_of_ble_eq_true rfl) (Nat.le_of_ble_eq_true rfl)
set_option maxHeartbeats 4000000 in
set_option maxRecDepth 100000 in
theorem c_X7_at (l : Launch) (D : va_G) (ct : Nat → ClassId) (p0 : Nat) (pr : Nat) (j : Int32)  : KL (S := Unit) l yX7_at cX7_at 2 (some .long) 1 20 D ct [.ref p0, .int j] [(p0, .inr (7, [.ref pr, .int 0]))] 0 0 (fun r _ => r = 0) (fun (_ : Unit) => [(p0, .inr (7, [.ref pr, .int 0]))]) := by
  refine KL_of (by decide) (Nat.le_of_ble_eq_true rfl) (fun p e s m below meth c A C0 hA hS hP hD ls hl => ?_)
  obtain ⟨hx, hb, hr, hown, hin, hml, hlocks, hn, hK⟩ := C0
  have hl : lv_has ls 2 [(0, .ref p0), (1, .int j)] := hl
  refine lv_iload_n hx hb dX7_at_0 rfl (lv_at hl 1 rfl) ?_
  refine lv_if_lt (tgt := 12) hx hb dX7_at_1 (by decide) (fun c_1 => ?_) (fun c_1 => ?_)
  · refine lv_lconst (v := 0) hx hb dX7_at_12 (by decide) ?_
    refine lv_goto (tgt := 22) hx hb dX7_at_13 (by decide) ?_
    exact end_l hx hb hr hlocks dX7_at_22 () rfl hP hD hS [0] rfl (by decide) rfl (Nat.le_of_ble_eq_true rfl) (Nat.le_of_ble_eq_true rfl)
  · refine lv_iload_n hx hb dX7_at_4 rfl (lv_at hl 1 rfl) ?_
    refine lv_aload_n hx hb dX7_at_5 rfl (lv_at hl 0 rfl) ?_
    refine va_get (D := D) (ci := 7) (v := .int 0) (C := RX7) (T := TX7) (N := 2) hx hb (htX7 hn) (fun _ h => h) hown hK hP 0 rfl rfl 1 (by decide) (hn.get mw_226 rfl) (fun _ h9 => h9) rfl dX7_at_6 ?_
    refine lv_icmp_lt (tgt := 16) hx hb dX7_at_9 (by decide) (fun c_2 => absurd c_2 (c_1)) (fun c_2 => ?_)
    refine lv_lconst (v := 0) hx hb dX7_at_12 (by decide) ?_
    refine lv_goto (tgt := 22) hx hb dX7_at_13 (by decide) ?_
    exact end_l hx hb hr hlocks dX7_at_22 () rfl hP hD hS [0] rfl (by decide) rfl (Nat.le_of_ble_eq_true rfl) (Nat.le_of_ble_eq_true rfl)
set_option maxHeartbeats 4000000 in
set_option maxRecDepth 100000 in
theorem c_X5_at (l : Launch) (D : va_G) (ct : Nat → ClassId) (o0 : Nat) (or : Nat) (j : Int32)  : KI (S := Unit) l yX5_at cX5_at 2 (some .int) 1 20 D ct [.ref o0, .int j] [(o0, .inr (5, [.ref or, .int 0]))] 0 0 (fun r _ => r = 0) (fun (_ : Unit) => [(o0, .inr (5, [.ref or, .int 0]))]) := by
  refine KI_of (by decide) (Nat.le_of_ble_eq_true rfl) (fun p e s m below meth c A C0 hA hS hP hD ls hl => ?_)
  obtain ⟨hx, hb, hr, hown, hin, hml, hlocks, hn, hK⟩ := C0
  have hl : lv_has ls 2 [(0, .ref o0), (1, .int j)] := hl
  refine lv_iload_n hx hb dX5_at_0 rfl (lv_at hl 1 rfl) ?_
  refine lv_if_lt (tgt := 12) hx hb dX5_at_1 (by decide) (fun c_1 => ?_) (fun c_1 => ?_)
  · refine lv_iconst (v := 0) hx hb dX5_at_12 (by decide) ?_
    refine lv_goto (tgt := 22) hx hb dX5_at_13 (by decide) ?_
    exact end_i hx hb hr hlocks dX5_at_22 rfl () rfl hP hD hS [0] rfl (by decide) rfl (Nat.le_of_ble_eq_true rfl) (Nat.le_of_ble_eq_true rfl)
  · refine lv_iload_n hx hb dX5_at_4 rfl (lv_at hl 1 rfl) ?_
    refine lv_aload_n hx hb dX5_at_5 rfl (lv_at hl 0 rfl) ?_
    refine va_get (D := D) (ci := 5) (v := .int 0) (C := RX5) (T := TX5) (N := 2) hx hb (htX5 hn) (fun _ h => h) hown hK hP 0 rfl rfl 1 (by decide) (hn.get mw_133 rfl) (fun _ h9 => h9) rfl dX5_at_6 ?_
    refine lv_icmp_lt (tgt := 16) hx hb dX5_at_9 (by decide) (fun c_2 => absurd c_2 (c_1)) (fun c_2 => ?_)
    refine lv_iconst (v := 0) hx hb dX5_at_12 (by decide) ?_
    refine lv_goto (tgt := 22) hx hb dX5_at_13 (by decide) ?_
    exact end_i hx hb hr hlocks dX5_at_22 rfl () rfl hP hD hS [0] rfl (by decide) rfl (Nat.le_of_ble_eq_true rfl) (Nat.le_of_ble_eq_true rfl)
set_option maxHeartbeats 4000000 in
set_option maxRecDepth 100000 in
theorem c_X2_init (l : Launch) (D : va_G) (ct : Nat → ClassId) (h0 : Nat)  : KV (S := Nat × Nat × Nat × Nat × Nat × Nat × Nat × Nat × Nat × Nat × Nat × Nat × Nat) l yX2_init cX2_init 1 none 2 20 D ct [.ref h0] [(h0, .inr (2, [.null, .null, .null, .int 0, .null, .null, .null, .null, .null, .null, .null, .int 0, .int 0, .null, .int 0, .null, .int 0, .null]))] 13 47014 (fun _ => True) (fun (u : Nat × Nat × Nat × Nat × Nat × Nat × Nat × Nat × Nat × Nat × Nat × Nat × Nat) => match u with | (a0, a1, a2, a4, a5, a6, a7, a8, a9, a10, a13, a15, a17) => [(h0, .inr (2, [.ref a0, .ref a1, .ref a2, .int 0, .ref a4, .ref a5, .ref a6, .ref a7, .ref a8, .ref a9, .ref a10, .int 0, .int 0, .ref a13, .int 0, .ref a15, .int 0, .ref a17])), (a13, .inl (ct 1, 5000, .inl (fun _ => 0)))]) := by
  refine KV_of (by decide) (Nat.le_of_ble_eq_true rfl) (fun p e s m below meth c A C0 hA hS hP hD ls hl => ?_)
  obtain ⟨hx, hb, hr, hown, hin, hml, hlocks, hn, hK⟩ := C0
  have hl : lv_has ls 1 [(0, .ref h0)] := hl
  refine lv_aload_n hx hb dX2_init_0 rfl (lv_at hl 0 rfl) ?_
  refine W.objInit hx hb hown (hn.get mw_146 rfl) (hn.get mw_34 rfl) (hn.get mw_oi rfl) rfl (by rw [hml]; exact hl.1) rfl dX2_init_1 (Nat.le_of_ble_eq_true rfl) (Nat.le_of_ble_eq_true rfl) ?_
  refine W.eq (g2 := F0 m 4 ls []) rfl ?_
  refine lv_aload_n hx hb dX2_init_4 rfl (lv_at hl 0 rfl) ?_
  refine lv_sipush (v := 7000) hx hb dX2_init_5 (by decide) ?_
  refine na_new (atype := .int) (k1 := 1) (n1 := 7000) hx hb hn mw_72 rfl hK hP hD hS hA 1 rfl 7000 (7000, .inl (fun _ => 0)) (fun _ => rfl) (by decide) (by decide) (Nat.le_of_ble_eq_true rfl) (Nat.le_of_ble_eq_true rfl) (Nat.le_of_ble_eq_true rfl) (Nat.le_of_ble_eq_true rfl) (Nat.le_of_ble_eq_true rfl) dX2_init_8 (fun q_1 H hP hD hS => ?_)
  have hP : va_P D vwCl [(h0, .inr (2, [.null, .null, .null, .int 0, .null, .null, .null, .null, .null, .null, .null, .int 0, .int 0, .null, .int 0, .null, .int 0, .null])), (q_1, .inl (ct 1, 7000, .inl (fun _ => 0)))] _ := hP
  have hD : va_D A [(h0, .inr (2, [.null, .null, .null, .int 0, .null, .null, .null, .null, .null, .null, .null, .int 0, .int 0, .null, .int 0, .null, .int 0, .null])), (q_1, .inl (ct 1, 7000, .inl (fun _ => 0)))] := hD
  refine va_putF (D := D) (ci := 2) (v := .ref q_1) (ty := .array .int) (C := RX2) (T := TX2) (N := 18) hx hb (htX2 hn) (fun _ h => h) tyX2 tyX2_ok nmX2 hown hK hP hD hS 0 rfl rfl 0 (by decide) (hn.get mw_147 rfl) (fun _ h9 => h9) rfl hin rfl (by decide +kernel) rfl rfl (Nat.le_of_ble_eq_true rfl) dX2_init_10 (fun H locs hP hD hS => ?_)
  have hP : va_P D vwCl [(h0, .inr (2, [.ref q_1, .null, .null, .int 0, .null, .null, .null, .null, .null, .null, .null, .int 0, .int 0, .null, .int 0, .null, .int 0, .null])), (q_1, .inl (ct 1, 7000, .inl (fun _ => 0)))] _ := hP
  have hD : va_D A [(h0, .inr (2, [.ref q_1, .null, .null, .int 0, .null, .null, .null, .null, .null, .null, .null, .int 0, .int 0, .null, .int 0, .null, .int 0, .null])), (q_1, .inl (ct 1, 7000, .inl (fun _ => 0)))] := hD
  refine lv_aload_n hx hb dX2_init_13 rfl (lv_at hl 0 rfl) ?_
  refine lv_sipush (v := 7000) hx hb dX2_init_14 (by decide) ?_
  refine na_new (atype := .int) (k1 := 2) (n1 := 14000) hx hb hn mw_72 rfl hK hP hD hS hA 1 rfl 7000 (7000, .inl (fun _ => 0)) (fun _ => rfl) (by decide) (by decide) (Nat.le_of_ble_eq_true rfl) (Nat.le_of_ble_eq_true rfl) (Nat.le_of_ble_eq_true rfl) (Nat.le_of_ble_eq_true rfl) (Nat.le_of_ble_eq_true rfl) dX2_init_17 (fun q_2 H hP hD hS => ?_)
  have hP : va_P D vwCl [(h0, .inr (2, [.ref q_1, .null, .null, .int 0, .null, .null, .null, .null, .null, .null, .null, .int 0, .int 0, .null, .int 0, .null, .int 0, .null])), (q_1, .inl (ct 1, 7000, .inl (fun _ => 0))), (q_2, .inl (ct 1, 7000, .inl (fun _ => 0)))] _ := hP
  have hD : va_D A [(h0, .inr (2, [.ref q_1, .null, .null, .int 0, .null, .null, .null, .null, .null, .null, .null, .int 0, .int 0, .null, .int 0, .null, .int 0, .null])), (q_1, .inl (ct 1, 7000, .inl (fun _ => 0))), (q_2, .inl (ct 1, 7000, .inl (fun _ => 0)))] := hD
  refine va_putF (D := D) (ci := 2) (v := .ref q_2) (ty := .array .int) (C := RX2) (T := TX2) (N := 18) hx hb (htX2 hn) (fun _ h => h) tyX2 tyX2_ok nmX2 hown hK hP hD hS 0 rfl rfl 1 (by decide) (hn.get mw_149 rfl) (fun _ h9 => h9) rfl hin rfl (by decide +kernel) rfl rfl (Nat.le_of_ble_eq_true rfl) dX2_init_19 (fun H locs hP hD hS => ?_)
  have hP : va_P D vwCl [(h0, .inr (2, [.ref q_1, .ref q_2, .null, .int 0, .null, .null, .null, .null, .null, .null, .null, .int 0, .int 0, .null, .int 0, .null, .int 0, .null])), (q_1, .inl (ct 1, 7000, .inl (fun _ => 0))), (q_2, .inl (ct 1, 7000, .inl (fun _ => 0)))] _ := hP
  have hD : va_D A [(h0, .inr (2, [.ref q_1, .ref q_2, .null, .int 0, .null, .null, .null, .null, .null, .null, .null, .int 0, .int 0, .null, .int 0, .null, .int 0, .null])), (q_1, .inl (ct 1, 7000, .inl (fun _ => 0))), (q_2, .inl (ct 1, 7000, .inl (fun _ => 0)))] := hD
  refine lv_aload_n hx hb dX2_init_22 rfl (lv_at hl 0 rfl) ?_
  refine lv_sipush (v := 7000) hx hb dX2_init_23 (by decide) ?_
  refine na_new (atype := .int) (k1 := 3) (n1 := 21000) hx hb hn mw_72 rfl hK hP hD hS hA 1 rfl 7000 (7000, .inl (fun _ => 0)) (fun _ => rfl) (by decide) (by decide) (Nat.le_of_ble_eq_true rfl) (Nat.le_of_ble_eq_true rfl) (Nat.le_of_ble_eq_true rfl) (Nat.le_of_ble_eq_true rfl) (Nat.le_of_ble_eq_true rfl) dX2_init_26 (fun q_3 H hP hD hS => ?_)
  have hP : va_P D vwCl [(h0, .inr (2, [.ref q_1, .ref q_2, .null, .int 0, .null, .null, .null, .null, .null, .null, .null, .int 0, .int 0, .null, .int 0, .null, .int 0, .null])), (q_1, .inl (ct 1, 7000, .inl (fun _ => 0))), (q_2, .inl (ct 1, 7000, .inl (fun _ => 0))), (q_3, .inl (ct 1, 7000, .inl (fun _ => 0)))] _ := hP
  have hD : va_D A [(h0, .inr (2, [.ref q_1, .ref q_2, .null, .int 0, .null, .null, .null, .null, .null, .null, .null, .int 0, .int 0, .null, .int 0, .null, .int 0, .null])), (q_1, .inl (ct 1, 7000, .inl (fun _ => 0))), (q_2, .inl (ct 1, 7000, .inl (fun _ => 0))), (q_3, .inl (ct 1, 7000, .inl (fun _ => 0)))] := hD
  refine va_putF (D := D) (ci := 2) (v := .ref q_3) (ty := .array .int) (C := RX2) (T := TX2) (N := 18) hx hb (htX2 hn) (fun _ h => h) tyX2 tyX2_ok nmX2 hown hK hP hD hS 0 rfl rfl 2 (by decide) (hn.get mw_151 rfl) (fun _ h9 => h9) rfl hin rfl (by decide +kernel) rfl rfl (Nat.le_of_ble_eq_true rfl) dX2_init_28 (fun H locs hP hD hS => ?_)
  have hP : va_P D vwCl [(h0, .inr (2, [.ref q_1, .ref q_2, .ref q_3, .int 0, .null, .null, .null, .null, .null, .null, .null, .int 0, .int 0, .null, .int 0, .null, .int 0, .null])), (q_1, .inl (ct 1, 7000, .inl (fun _ => 0))), (q_2, .inl (ct 1, 7000, .inl (fun _ => 0))), (q_3, .inl (ct 1, 7000, .inl (fun _ => 0)))] _ := hP
  have hD : va_D A [(h0, .inr (2, [.ref q_1, .ref q_2, .ref q_3, .int 0, .null, .null, .null, .null, .null, .null, .null, .int 0, .int 0, .null, .int 0, .null, .int 0, .null])), (q_1, .inl (ct 1, 7000, .inl (fun _ => 0))), (q_2, .inl (ct 1, 7000, .inl (fun _ => 0))), (q_3, .inl (ct 1, 7000, .inl (fun _ => 0)))] := hD
  refine lv_aload_n hx hb dX2_init_31 rfl (lv_at hl 0 rfl) ?_
  refine lv_sipush (v := 3000) hx hb dX2_init_32 (by decide) ?_
  refine na_new (atype := .int) (k1 := 4) (n1 := 24000) hx hb hn mw_72 rfl hK hP hD hS hA 1 rfl 3000 (3000, .inl (fun _ => 0)) (fun _ => rfl) (by decide) (by decide) (Nat.le_of_ble_eq_true rfl) (Nat.le_of_ble_eq_true rfl) (Nat.le_of_ble_eq_true rfl) (Nat.le_of_ble_eq_true rfl) (Nat.le_of_ble_eq_true rfl) dX2_init_35 (fun q_4 H hP hD hS => ?_)
  have hP : va_P D vwCl [(h0, .inr (2, [.ref q_1, .ref q_2, .ref q_3, .int 0, .null, .null, .null, .null, .null, .null, .null, .int 0, .int 0, .null, .int 0, .null, .int 0, .null])), (q_1, .inl (ct 1, 7000, .inl (fun _ => 0))), (q_2, .inl (ct 1, 7000, .inl (fun _ => 0))), (q_3, .inl (ct 1, 7000, .inl (fun _ => 0))), (q_4, .inl (ct 1, 3000, .inl (fun _ => 0)))] _ := hP
  have hD : va_D A [(h0, .inr (2, [.ref q_1, .ref q_2, .ref q_3, .int 0, .null, .null, .null, .null, .null, .null, .null, .int 0, .int 0, .null, .int 0, .null, .int 0, .null])), (q_1, .inl (ct 1, 7000, .inl (fun _ => 0))), (q_2, .inl (ct 1, 7000, .inl (fun _ => 0))), (q_3, .inl (ct 1, 7000, .inl (fun _ => 0))), (q_4, .inl (ct 1, 3000, .inl (fun _ => 0)))] := hD
  refine va_putF (D := D) (ci := 2) (v := .ref q_4) (ty := .array .int) (C := RX2) (T := TX2) (N := 18) hx hb (htX2 hn) (fun _ h => h) tyX2 tyX2_ok nmX2 hown hK hP hD hS 0 rfl rfl 4 (by decide) (hn.get mw_155 rfl) (fun _ h9 => h9) rfl hin rfl (by decide +kernel) rfl rfl (Nat.le_of_ble_eq_true rfl) dX2_init_37 (fun H locs hP hD hS => ?_)
  have hP : va_P D vwCl [(h0, .inr (2, [.ref q_1, .ref q_2, .ref q_3, .int 0, .ref q_4, .null, .null, .null, .null, .null, .null, .int 0, .int 0, .null, .int 0, .null, .int 0, .null])), (q_1, .inl (ct 1, 7000, .inl (fun _ => 0))), (q_2, .inl (ct 1, 7000, .inl (fun _ => 0))), (q_3, .inl (ct 1, 7000, .inl (fun _ => 0))), (q_4, .inl (ct 1, 3000, .inl (fun _ => 0)))] _ := hP
  have hD : va_D A [(h0, .inr (2, [.ref q_1, .ref q_2, .ref q_3, .int 0, .ref q_4, .null, .null, .null, .null, .null, .null, .int 0, .int 0, .null, .int 0, .null, .int 0, .null])), (q_1, .inl (ct 1, 7000, .inl (fun _ => 0))), (q_2, .inl (ct 1, 7000, .inl (fun _ => 0))), (q_3, .inl (ct 1, 7000, .inl (fun _ => 0))), (q_4, .inl (ct 1, 3000, .inl (fun _ => 0)))] := hD
  refine lv_aload_n hx hb dX2_init_40 rfl (lv_at hl 0 rfl) ?_
  refine lv_sipush (v := 3000) hx hb dX2_init_41 (by decide) ?_
  refine na_new (atype := .int) (k1 := 5) (n1 := 27000) hx hb hn mw_72 rfl hK hP hD hS hA 1 rfl 3000 (3000, .inl (fun _ => 0)) (fun _ => rfl) (by decide) (by decide) (Nat.le_of_ble_eq_true rfl) (Nat.le_of_ble_eq_true rfl) (Nat.le_of_ble_eq_true rfl) (Nat.le_of_ble_eq_true rfl) (Nat.le_of_ble_eq_true rfl) dX2_init_44 (fun q_5 H hP hD hS => ?_)
  have hP : va_P D vwCl [(h0, .inr (2, [.ref q_1, .ref q_2, .ref q_3, .int 0, .ref q_4, .null, .null, .null, .null, .null, .null, .int 0, .int 0, .null, .int 0, .null, .int 0, .null])), (q_1, .inl (ct 1, 7000, .inl (fun _ => 0))), (q_2, .inl (ct 1, 7000, .inl (fun _ => 0))), (q_3, .inl (ct 1, 7000, .inl (fun _ => 0))), (q_4, .inl (ct 1, 3000, .inl (fun _ => 0))), (q_5, .inl (ct 1, 3000, .inl (fun _ => 0)))] _ := hP
  have hD : va_D A [(h0, .inr (2, [.ref q_1, .ref q_2, .ref q_3, .int 0, .ref q_4, .null, .null, .null, .null, .null, .null, .int 0, .int 0, .null, .int 0, .null, .int 0, .null])), (q_1, .inl (ct 1, 7000, .inl (fun _ => 0))), (q_2, .inl (ct 1, 7000, .inl (fun _ => 0))), (q_3, .inl (ct 1, 7000, .inl (fun _ => 0))), (q_4, .inl (ct 1, 3000, .inl (fun _ => 0))), (q_5, .inl (ct 1, 3000, .inl (fun _ => 0)))] := hD
  refine va_putF (D := D) (ci := 2) (v := .ref q_5) (ty := .array .int) (C := RX2) (T := TX2) (N := 18) hx hb (htX2 hn) (fun _ h => h) tyX2 tyX2_ok nmX2 hown hK hP hD hS 0 rfl rfl 5 (by decide) (hn.get mw_157 rfl) (fun _ h9 => h9) rfl hin rfl (by decide +kernel) rfl rfl (Nat.le_of_ble_eq_true rfl) dX2_init_46 (fun H locs hP hD hS => ?_)
  have hP : va_P D vwCl [(h0, .inr (2, [.ref q_1, .ref q_2, .ref q_3, .int 0, .ref q_4, .ref q_5, .null, .null, .null, .null, .null, .int 0, .int 0, .null, .int 0, .null, .int 0, .null])), (q_1, .inl (ct 1, 7000, .inl (fun _ => 0))), (q_2, .inl (ct 1, 7000, .inl (fun _ => 0))), (q_3, .inl (ct 1, 7000, .inl (fun _ => 0))), (q_4, .inl (ct 1, 3000, .inl (fun _ => 0))), (q_5, .inl (ct 1, 3000, .inl (fun _ => 0)))] _ := hP
  have hD : va_D A [(h0, .inr (2, [.ref q_1, .ref q_2, .ref q_3, .int 0, .ref q_4, .ref q_5, .null, .null, .null, .null, .null, .int 0, .int 0, .null, .int 0, .null, .int 0, .null])), (q_1, .inl (ct 1, 7000, .inl (fun _ => 0))), (q_2, .inl (ct 1, 7000, .inl (fun _ => 0))), (q_3, .inl (ct 1, 7000, .inl (fun _ => 0))), (q_4, .inl (ct 1, 3000, .inl (fun _ => 0))), (q_5, .inl (ct 1, 3000, .inl (fun _ => 0)))] := hD
  refine lv_aload_n hx hb dX2_init_49 rfl (lv_at hl 0 rfl) ?_
  refine lv_sipush (v := 3000) hx hb dX2_init_50 (by decide) ?_
  refine na_new (atype := .int) (k1 := 6) (n1 := 30000) hx hb hn mw_72 rfl hK hP hD hS hA 1 rfl 3000 (3000, .inl (fun _ => 0)) (fun _ => rfl) (by decide) (by decide) (Nat.le_of_ble_eq_true rfl) (Nat.le_of_ble_eq_true rfl) (Nat.le_of_ble_eq_true rfl) (Nat.le_of_ble_eq_true rfl) (Nat.le_of_ble_eq_true rfl) dX2_init_53 (fun q_6 H hP hD hS => ?_)
  have hP : va_P D vwCl [(h0, .inr (2, [.ref q_1, .ref q_2, .ref q_3, .int 0, .ref q_4, .ref q_5, .null, .null, .null, .null, .null, .int 0, .int 0, .null, .int 0, .null, .int 0, .null])), (q_1, .inl (ct 1, 7000, .inl (fun _ => 0))), (q_2, .inl (ct 1, 7000, .inl (fun _ => 0))), (q_3, .inl (ct 1, 7000, .inl (fun _ => 0))), (q_4, .inl (ct 1, 3000, .inl (fun _ => 0))), (q_5, .inl (ct 1, 3000, .inl (fun _ => 0))), (q_6, .inl (ct 1, 3000, .inl (fun _ => 0)))] _ := hP
  have hD : va_D A [(h0, .inr (2, [.ref q_1, .ref q_2, .ref q_3, .int 0, .ref q_4, .ref q_5, .null, .null, .null, .null, .null, .int 0, .int 0, .null, .int 0, .null, .int 0, .null])), (q_1, .inl (ct 1, 7000, .inl (fun _ => 0))), (q_2, .inl (ct 1, 7000, .inl (fun _ => 0))), (q_3, .inl (ct 1, 7000, .inl (fun _ => 0))), (q_4, .inl (ct 1, 3000, .inl (fun _ => 0))), (q_5, .inl (ct 1, 3000, .inl (fun _ => 0))), (q_6, .inl (ct 1, 3000, .inl (fun _ => 0)))] := hD
  refine va_putF (D := D) (ci := 2) (v := .ref q_6) (ty := .array .int) (C := RX2) (T := TX2) (N := 18) hx hb (htX2 hn) (fun _ h => h) tyX2 tyX2_ok nmX2 hown hK hP hD hS 0 rfl rfl 6 (by decide) (hn.get mw_159 rfl) (fun _ h9 => h9) rfl hin rfl (by decide +kernel) rfl rfl (Nat.le_of_ble_eq_true rfl) dX2_init_55 (fun H locs hP hD hS => ?_)
  have hP : va_P D vwCl [(h0, .inr (2, [.ref q_1, .ref q_2, .ref q_3, .int 0, .ref q_4, .ref q_5, .ref q_6, .null, .null, .null, .null, .int 0, .int 0, .null, .int 0, .null, .int 0, .null])), (q_1, .inl (ct 1, 7000, .inl (fun _ => 0))), (q_2, .inl (ct 1, 7000, .inl (fun _ => 0))), (q_3, .inl (ct 1, 7000, .inl (fun _ => 0))), (q_4, .inl (ct 1, 3000, .inl (fun _ => 0))), (q_5, .inl (ct 1, 3000, .inl (fun _ => 0))), (q_6, .inl (ct 1, 3000, .inl (fun _ => 0)))] _ := hP
  have hD : va_D A [(h0, .inr (2, [.ref q_1, .ref q_2, .ref q_3, .int 0, .ref q_4, .ref q_5, .ref q_6, .null, .null, .null, .null, .int 0, .int 0, .null, .int 0, .null, .int 0, .null])), (q_1, .inl (ct 1, 7000, .inl (fun _ => 0))), (q_2, .inl (ct 1, 7000, .inl (fun _ => 0))), (q_3, .inl (ct 1, 7000, .inl (fun _ => 0))), (q_4, .inl (ct 1, 3000, .inl (fun _ => 0))), (q_5, .inl (ct 1, 3000, .inl (fun _ => 0))), (q_6, .inl (ct 1, 3000, .inl (fun _ => 0)))] := hD
  refine lv_aload_n hx hb dX2_init_58 rfl (lv_at hl 0 rfl) ?_
  refine lv_sipush (v := 3000) hx hb dX2_init_59 (by decide) ?_
  refine na_new (atype := .int) (k1 := 7) (n1 := 33000) hx hb hn mw_72 rfl hK hP hD hS hA 1 rfl 3000 (3000, .inl (fun _ => 0)) (fun _ => rfl) (by decide) (by decide) (Nat.le_of_ble_eq_true rfl) (Nat.le_of_ble_eq_true rfl) (Nat.le_of_ble_eq_true rfl) (Nat.le_of_ble_eq_true rfl) (Nat.le_of_ble_eq_true rfl) dX2_init_62 (fun q_7 H hP hD hS => ?_)
  have hP : va_P D vwCl [(h0, .inr (2, [.ref q_1, .ref q_2, .ref q_3, .int 0, .ref q_4, .ref q_5, .ref q_6, .null, .null, .null, .null, .int 0, .int 0, .null, .int 0, .null, .int 0, .null])), (q_1, .inl (ct 1, 7000, .inl (fun _ => 0))), (q_2, .inl (ct 1, 7000, .inl (fun _ => 0))), (q_3, .inl (ct 1, 7000, .inl (fun _ => 0))), (q_4, .inl (ct 1, 3000, .inl (fun _ => 0))), (q_5, .inl (ct 1, 3000, .inl (fun _ => 0))), (q_6, .inl (ct 1, 3000, .inl (fun _ => 0))), (q_7, .inl (ct 1, 3000, .inl (fun _ => 0)))] _ := hP
  have hD : va_D A [(h0, .inr (2, [.ref q_1, .ref q_2, .ref q_3, .int 0, .ref q_4, .ref q_5, .ref q_6, .null, .null, .null, .null, .int 0, .int 0, .null, .int 0, .null, .int 0, .null])), (q_1, .inl (ct 1, 7000, .inl (fun _ => 0))), (q_2, .inl (ct 1, 7000, .inl (fun _ => 0))), (q_3, .inl (ct 1, 7000, .inl (fun _ => 0))), (q_4, .inl (ct 1, 3000, .inl (fun _ => 0))), (q_5, .inl (ct 1, 3000, .inl (fun _ => 0))), (q_6, .inl (ct 1, 3000, .inl (fun _ => 0))), (q_7, .inl (ct 1, 3000, .inl (fun _ => 0)))] := hD
  refine va_putF (D := D) (ci := 2) (v := .ref q_7) (ty := .array .int) (C := RX2) (T := TX2) (N := 18) hx hb (htX2 hn) (fun _ h => h) tyX2 tyX2_ok nmX2 hown hK hP hD hS 0 rfl rfl 7 (by decide) (hn.get mw_161 rfl) (fun _ h9 => h9) rfl hin rfl (by decide +kernel) rfl rfl (Nat.le_of_ble_eq_true rfl) dX2_init_64 (fun H locs hP hD hS => ?_)
  have hP : va_P D vwCl [(h0, .inr (2, [.ref q_1, .ref q_2, .ref q_3, .int 0, .ref q_4, .ref q_5, .ref q_6, .ref q_7, .null, .null, .null, .int 0, .int 0, .null, .int 0, .null, .int 0, .null])), (q_1, .inl (ct 1, 7000, .inl (fun _ => 0))), (q_2, .inl (ct 1, 7000, .inl (fun _ => 0))), (q_3, .inl (ct 1, 7000, .inl (fun _ => 0))), (q_4, .inl (ct 1, 3000, .inl (fun _ => 0))), (q_5, .inl (ct 1, 3000, .inl (fun _ => 0))), (q_6, .inl (ct 1, 3000, .inl (fun _ => 0))), (q_7, .inl (ct 1, 3000, .inl (fun _ => 0)))] _ := hP
  have hD : va_D A [(h0, .inr (2, [.ref q_1, .ref q_2, .ref q_3, .int 0, .ref q_4, .ref q_5, .ref q_6, .ref q_7, .null, .null, .null, .int 0, .int 0, .null, .int 0, .null, .int 0, .null])), (q_1, .inl (ct 1, 7000, .inl (fun _ => 0))), (q_2, .inl (ct 1, 7000, .inl (fun _ => 0))), (q_3, .inl (ct 1, 7000, .inl (fun _ => 0))), (q_4, .inl (ct 1, 3000, .inl (fun _ => 0))), (q_5, .inl (ct 1, 3000, .inl (fun _ => 0))), (q_6, .inl (ct 1, 3000, .inl (fun _ => 0))), (q_7, .inl (ct 1, 3000, .inl (fun _ => 0)))] := hD
  refine lv_aload_n hx hb dX2_init_67 rfl (lv_at hl 0 rfl) ?_
  refine lv_sipush (v := 3000) hx hb dX2_init_68 (by decide) ?_
  refine na_new (atype := .int) (k1 := 8) (n1 := 36000) hx hb hn mw_72 rfl hK hP hD hS hA 1 rfl 3000 (3000, .inl (fun _ => 0)) (fun _ => rfl) (by decide) (by decide) (Nat.le_of_ble_eq_true rfl) (Nat.le_of_ble_eq_true rfl) (Nat.le_of_ble_eq_true rfl) (Nat.le_of_ble_eq_true rfl) (Nat.le_of_ble_eq_true rfl) dX2_init_71 (fun q_8 H hP hD hS => ?_)
  have hP : va_P D vwCl [(h0, .inr (2, [.ref q_1, .ref q_2, .ref q_3, .int 0, .ref q_4, .ref q_5, .ref q_6, .ref q_7, .null, .null, .null, .int 0, .int 0, .null, .int 0, .null, .int 0, .null])), (q_1, .inl (ct 1, 7000, .inl (fun _ => 0))), (q_2, .inl (ct 1, 7000, .inl (fun _ => 0))), (q_3, .inl (ct 1, 7000, .inl (fun _ => 0))), (q_4, .inl (ct 1, 3000, .inl (fun _ => 0))), (q_5, .inl (ct 1, 3000, .inl (fun _ => 0))), (q_6, .inl (ct 1, 3000, .inl (fun _ => 0))), (q_7, .inl (ct 1, 3000, .inl (fun _ => 0))), (q_8, .inl (ct 1, 3000, .inl (fun _ => 0)))] _ := hP
  have hD : va_D A [(h0, .inr (2, [.ref q_1, .ref q_2, .ref q_3, .int 0, .ref q_4, .ref q_5, .ref q_6, .ref q_7, .null, .null, .null, .int 0, .int 0, .null, .int 0, .null, .int 0, .null])), (q_1, .inl (ct 1, 7000, .inl (fun _ => 0))), (q_2, .inl (ct 1, 7000, .inl (fun _ => 0))), (q_3, .inl (ct 1, 7000, .inl (fun _ => 0))), (q_4, .inl (ct 1, 3000, .inl (fun _ => 0))), (q_5, .inl (ct 1, 3000, .inl (fun _ => 0))), (q_6, .inl (ct 1, 3000, .inl (fun _ => 0))), (q_7, .inl (ct 1, 3000, .inl (fun _ => 0))), (q_8, .inl (ct 1, 3000, .inl (fun _ => 0)))] := hD
  refine va_putF (D := D) (ci := 2) (v := .ref q_8) (ty := .array .int) (C := RX2) (T := TX2) (N := 18) hx hb (htX2 hn) (fun _ h => h) tyX2 tyX2_ok nmX2 hown hK hP hD hS 0 rfl rfl 8 (by decide) (hn.get mw_163 rfl) (fun _ h9 => h9) rfl hin rfl (by decide +kernel) rfl rfl (Nat.le_of_ble_eq_true rfl) dX2_init_73 (fun H locs hP hD hS => ?_)
  have hP : va_P D vwCl [(h0, .inr (2, [.ref q_1, .ref q_2, .ref q_3, .int 0, .ref q_4, .ref q_5, .ref q_6, .ref q_7, .ref q_8, .null, .null, .int 0, .int 0, .null, .int 0, .null, .int 0, .null])), (q_1, .inl (ct 1, 7000, .inl (fun _ => 0))), (q_2, .inl (ct 1, 7000, .inl (fun _ => 0))), (q_3, .inl (ct 1, 7000, .inl (fun _ => 0))), (q_4, .inl (ct 1, 3000, .inl (fun _ => 0))), (q_5, .inl (ct 1, 3000, .inl (fun _ => 0))), (q_6, .inl (ct 1, 3000, .inl (fun _ => 0))), (q_7, .inl (ct 1, 3000, .inl (fun _ => 0))), (q_8, .inl (ct 1, 3000, .inl (fun _ => 0)))] _ := hP
  have hD : va_D A [(h0, .inr (2, [.ref q_1, .ref q_2, .ref q_3, .int 0, .ref q_4, .ref q_5, .ref q_6, .ref q_7, .ref q_8, .null, .null, .int 0, .int 0, .null, .int 0, .null, .int 0, .null])), (q_1, .inl (ct 1, 7000, .inl (fun _ => 0))), (q_2, .inl (ct 1, 7000, .inl (fun _ => 0))), (q_3, .inl (ct 1, 7000, .inl (fun _ => 0))), (q_4, .inl (ct 1, 3000, .inl (fun _ => 0))), (q_5, .inl (ct 1, 3000, .inl (fun _ => 0))), (q_6, .inl (ct 1, 3000, .inl (fun _ => 0))), (q_7, .inl (ct 1, 3000, .inl (fun _ => 0))), (q_8, .inl (ct 1, 3000, .inl (fun _ => 0)))] := hD
  refine lv_aload_n hx hb dX2_init_76 rfl (lv_at hl 0 rfl) ?_
  refine lv_sipush (v := 3000) hx hb dX2_init_77 (by decide) ?_
  refine na_new (atype := .int) (k1 := 9) (n1 := 39000) hx hb hn mw_72 rfl hK hP hD hS hA 1 rfl 3000 (3000, .inl (fun _ => 0)) (fun _ => rfl) (by decide) (by decide) (Nat.le_of_ble_eq_true rfl) (Nat.le_of_ble_eq_true rfl) (Nat.le_of_ble_eq_true rfl) (Nat.le_of_ble_eq_true rfl) (Nat.le_of_ble_eq_true rfl) dX2_init_80 (fun q_9 H hP hD hS => ?_)
  have hP : va_P D vwCl [(h0, .inr (2, [.ref q_1, .ref q_2, .ref q_3, .int 0, .ref q_4, .ref q_5, .ref q_6, .ref q_7, .ref q_8, .null, .null, .int 0, .int 0, .null, .int 0, .null, .int 0, .null])), (q_1, .inl (ct 1, 7000, .inl (fun _ => 0))), (q_2, .inl (ct 1, 7000, .inl (fun _ => 0))), (q_3, .inl (ct 1, 7000, .inl (fun _ => 0))), (q_4, .inl (ct 1, 3000, .inl (fun _ => 0))), (q_5, .inl (ct 1, 3000, .inl (fun _ => 0))), (q_6, .inl (ct 1, 3000, .inl (fun _ => 0))), (q_7, .inl (ct 1, 3000, .inl (fun _ => 0))), (q_8, .inl (ct 1, 3000, .inl (fun _ => 0))), (q_9, .inl (ct 1, 3000, .inl (fun _ => 0)))] _ := hP
  have hD : va_D A [(h0, .inr (2, [.ref q_1, .ref q_2, .ref q_3, .int 0, .ref q_4, .ref q_5, .ref q_6, .ref q_7, .ref q_8, .null, .null, .int 0, .int 0, .null, .int 0, .null, .int 0, .null])), (q_1, .inl (ct 1, 7000, .inl (fun _ => 0))), (q_2, .inl (ct 1, 7000, .inl (fun _ => 0))), (q_3, .inl (ct 1, 7000, .inl (fun _ => 0))), (q_4, .inl (ct 1, 3000, .inl (fun _ => 0))), (q_5, .inl (ct 1, 3000, .inl (fun _ => 0))), (q_6, .inl (ct 1, 3000, .inl (fun _ => 0))), (q_7, .inl (ct 1, 3000, .inl (fun _ => 0))), (q_8, .inl (ct 1, 3000, .inl (fun _ => 0))), (q_9, .inl (ct 1, 3000, .inl (fun _ => 0)))] := hD
  refine va_putF (D := D) (ci := 2) (v := .ref q_9) (ty := .array .int) (C := RX2) (T := TX2) (N := 18) hx hb (htX2 hn) (fun _ h => h) tyX2 tyX2_ok nmX2 hown hK hP hD hS 0 rfl rfl 9 (by decide) (hn.get mw_165 rfl) (fun _ h9 => h9) rfl hin rfl (by decide +kernel) rfl rfl (Nat.le_of_ble_eq_true rfl) dX2_init_82 (fun H locs hP hD hS => ?_)
  have hP : va_P D vwCl [(h0, .inr (2, [.ref q_1, .ref q_2, .ref q_3, .int 0, .ref q_4, .ref q_5, .ref q_6, .ref q_7, .ref q_8, .ref q_9, .null, .int 0, .int 0, .null, .int 0, .null, .int 0, .null])), (q_1, .inl (ct 1, 7000, .inl (fun _ => 0))), (q_2, .inl (ct 1, 7000, .inl (fun _ => 0))), (q_3, .inl (ct 1, 7000, .inl (fun _ => 0))), (q_4, .inl (ct 1, 3000, .inl (fun _ => 0))), (q_5, .inl (ct 1, 3000, .inl (fun _ => 0))), (q_6, .inl (ct 1, 3000, .inl (fun _ => 0))), (q_7, .inl (ct 1, 3000, .inl (fun _ => 0))), (q_8, .inl (ct 1, 3000, .inl (fun _ => 0))), (q_9, .inl (ct 1, 3000, .inl (fun _ => 0)))] _ := hP
  have hD : va_D A [(h0, .inr (2, [.ref q_1, .ref q_2, .ref q_3, .int 0, .ref q_4, .ref q_5, .ref q_6, .ref q_7, .ref q_8, .ref q_9, .null, .int 0, .int 0, .null, .int 0, .null, .int 0, .null])), (q_1, .inl (ct 1, 7000, .inl (fun _ => 0))), (q_2, .inl (ct 1, 7000, .inl (fun _ => 0))), (q_3, .inl (ct 1, 7000, .inl (fun _ => 0))), (q_4, .inl (ct 1, 3000, .inl (fun _ => 0))), (q_5, .inl (ct 1, 3000, .inl (fun _ => 0))), (q_6, .inl (ct 1, 3000, .inl (fun _ => 0))), (q_7, .inl (ct 1, 3000, .inl (fun _ => 0))), (q_8, .inl (ct 1, 3000, .inl (fun _ => 0))), (q_9, .inl (ct 1, 3000, .inl (fun _ => 0)))] := hD
  refine lv_aload_n hx hb dX2_init_85 rfl (lv_at hl 0 rfl) ?_
  refine lv_sipush (v := 3000) hx hb dX2_init_86 (by decide) ?_
  refine na_new (atype := .boolean) (k1 := 10) (n1 := 42000) hx hb hn mw_216 rfl hK hP hD hS hA 3 rfl 3000 (3000, .inl (fun _ => 0)) (fun _ => rfl) (by decide) (by decide) (Nat.le_of_ble_eq_true rfl) (Nat.le_of_ble_eq_true rfl) (Nat.le_of_ble_eq_true rfl) (Nat.le_of_ble_eq_true rfl) (Nat.le_of_ble_eq_true rfl) dX2_init_89 (fun q_10 H hP hD hS => ?_)
  have hP : va_P D vwCl [(h0, .inr (2, [.ref q_1, .ref q_2, .ref q_3, .int 0, .ref q_4, .ref q_5, .ref q_6, .ref q_7, .ref q_8, .ref q_9, .null, .int 0, .int 0, .null, .int 0, .null, .int 0, .null])), (q_1, .inl (ct 1, 7000, .inl (fun _ => 0))), (q_2, .inl (ct 1, 7000, .inl (fun _ => 0))), (q_3, .inl (ct 1, 7000, .inl (fun _ => 0))), (q_4, .inl (ct 1, 3000, .inl (fun _ => 0))), (q_5, .inl (ct 1, 3000, .inl (fun _ => 0))), (q_6, .inl (ct 1, 3000, .inl (fun _ => 0))), (q_7, .inl (ct 1, 3000, .inl (fun _ => 0))), (q_8, .inl (ct 1, 3000, .inl (fun _ => 0))), (q_9, .inl (ct 1, 3000, .inl (fun _ => 0))), (q_10, .inl (ct 3, 3000, .inl (fun _ => 0)))] _ := hP
  have hD : va_D A [(h0, .inr (2, [.ref q_1, .ref q_2, .ref q_3, .int 0, .ref q_4, .ref q_5, .ref q_6, .ref q_7, .ref q_8, .ref q_9, .null, .int 0, .int 0, .null, .int 0, .null, .int 0, .null])), (q_1, .inl (ct 1, 7000, .inl (fun _ => 0))), (q_2, .inl (ct 1, 7000, .inl (fun _ => 0))), (q_3, .inl (ct 1, 7000, .inl (fun _ => 0))), (q_4, .inl (ct 1, 3000, .inl (fun _ => 0))), (q_5, .inl (ct 1, 3000, .inl (fun _ => 0))), (q_6, .inl (ct 1, 3000, .inl (fun _ => 0))), (q_7, .inl (ct 1, 3000, .inl (fun _ => 0))), (q_8, .inl (ct 1, 3000, .inl (fun _ => 0))), (q_9, .inl (ct 1, 3000, .inl (fun _ => 0))), (q_10, .inl (ct 3, 3000, .inl (fun _ => 0)))] := hD
  refine va_putF (D := D) (ci := 2) (v := .ref q_10) (ty := .array .boolean) (C := RX2) (T := TX2) (N := 18) hx hb (htX2 hn) (fun _ h => h) tyX2 tyX2_ok nmX2 hown hK hP hD hS 0 rfl rfl 10 (by decide) (hn.get mw_167 rfl) (fun _ h9 => h9) rfl hin rfl (by decide +kernel) rfl rfl (Nat.le_of_ble_eq_true rfl) dX2_init_91 (fun H locs hP hD hS => ?_)
  have hP : va_P D vwCl [(h0, .inr (2, [.ref q_1, .ref q_2, .ref q_3, .int 0, .ref q_4, .ref q_5, .ref q_6, .ref q_7, .ref q_8, .ref q_9, .ref q_10, .int 0, .int 0, .null, .int 0, .null, .int 0, .null])), (q_1, .inl (ct 1, 7000, .inl (fun _ => 0))), (q_2, .inl (ct 1, 7000, .inl (fun _ => 0))), (q_3, .inl (ct 1, 7000, .inl (fun _ => 0))), (q_4, .inl (ct 1, 3000, .inl (fun _ => 0))), (q_5, .inl (ct 1, 3000, .inl (fun _ => 0))), (q_6, .inl (ct 1, 3000, .inl (fun _ => 0))), (q_7, .inl (ct 1, 3000, .inl (fun _ => 0))), (q_8, .inl (ct 1, 3000, .inl (fun _ => 0))), (q_9, .inl (ct 1, 3000, .inl (fun _ => 0))), (q_10, .inl (ct 3, 3000, .inl (fun _ => 0)))] _ := hP
  have hD : va_D A [(h0, .inr (2, [.ref q_1, .ref q_2, .ref q_3, .int 0, .ref q_4, .ref q_5, .ref q_6, .ref q_7, .ref q_8, .ref q_9, .ref q_10, .int 0, .int 0, .null, .int 0, .null, .int 0, .null])), (q_1, .inl (ct 1, 7000, .inl (fun _ => 0))), (q_2, .inl (ct 1, 7000, .inl (fun _ => 0))), (q_3, .inl (ct 1, 7000, .inl (fun _ => 0))), (q_4, .inl (ct 1, 3000, .inl (fun _ => 0))), (q_5, .inl (ct 1, 3000, .inl (fun _ => 0))), (q_6, .inl (ct 1, 3000, .inl (fun _ => 0))), (q_7, .inl (ct 1, 3000, .inl (fun _ => 0))), (q_8, .inl (ct 1, 3000, .inl (fun _ => 0))), (q_9, .inl (ct 1, 3000, .inl (fun _ => 0))), (q_10, .inl (ct 3, 3000, .inl (fun _ => 0)))] := hD
  refine lv_aload_n hx hb dX2_init_94 rfl (lv_at hl 0 rfl) ?_
  refine lv_sipush (v := 5000) hx hb dX2_init_95 (by decide) ?_
  refine na_new (atype := .int) (k1 := 11) (n1 := 47000) hx hb hn mw_72 rfl hK hP hD hS hA 1 rfl 5000 (5000, .inl (fun _ => 0)) (fun _ => rfl) (by decide) (by decide) (Nat.le_of_ble_eq_true rfl) (Nat.le_of_ble_eq_true rfl) (Nat.le_of_ble_eq_true rfl) (Nat.le_of_ble_eq_true rfl) (Nat.le_of_ble_eq_true rfl) dX2_init_98 (fun q_11 H hP hD hS => ?_)
  have hP : va_P D vwCl [(h0, .inr (2, [.ref q_1, .ref q_2, .ref q_3, .int 0, .ref q_4, .ref q_5, .ref q_6, .ref q_7, .ref q_8, .ref q_9, .ref q_10, .int 0, .int 0, .null, .int 0, .null, .int 0, .null])), (q_1, .inl (ct 1, 7000, .inl (fun _ => 0))), (q_2, .inl (ct 1, 7000, .inl (fun _ => 0))), (q_3, .inl (ct 1, 7000, .inl (fun _ => 0))), (q_4, .inl (ct 1, 3000, .inl (fun _ => 0))), (q_5, .inl (ct 1, 3000, .inl (fun _ => 0))), (q_6, .inl (ct 1, 3000, .inl (fun _ => 0))), (q_7, .inl (ct 1, 3000, .inl (fun _ => 0))), (q_8, .inl (ct 1, 3000, .inl (fun _ => 0))), (q_9, .inl (ct 1, 3000, .inl (fun _ => 0))), (q_10, .inl (ct 3, 3000, .inl (fun _ => 0))), (q_11, .inl (ct 1, 5000, .inl (fun _ => 0)))] _ := hP
  have hD : va_D A [(h0, .inr (2, [.ref q_1, .ref q_2, .ref q_3, .int 0, .ref q_4, .ref q_5, .ref q_6, .ref q_7, .ref q_8, .ref q_9, .ref q_10, .int 0, .int 0, .null, .int 0, .null, .int 0, .null])), (q_1, .inl (ct 1, 7000, .inl (fun _ => 0))), (q_2, .inl (ct 1, 7000, .inl (fun _ => 0))), (q_3, .inl (ct 1, 7000, .inl (fun _ => 0))), (q_4, .inl (ct 1, 3000, .inl (fun _ => 0))), (q_5, .inl (ct 1, 3000, .inl (fun _ => 0))), (q_6, .inl (ct 1, 3000, .inl (fun _ => 0))), (q_7, .inl (ct 1, 3000, .inl (fun _ => 0))), (q_8, .inl (ct 1, 3000, .inl (fun _ => 0))), (q_9, .inl (ct 1, 3000, .inl (fun _ => 0))), (q_10, .inl (ct 3, 3000, .inl (fun _ => 0))), (q_11, .inl (ct 1, 5000, .inl (fun _ => 0)))] := hD
  refine va_putF (D := D) (ci := 2) (v := .ref q_11) (ty := .array .int) (C := RX2) (T := TX2) (N := 18) hx hb (htX2 hn) (fun _ h => h) tyX2 tyX2_ok nmX2 hown hK hP hD hS 0 rfl rfl 13 (by decide) (hn.get mw_174 rfl) (fun _ h9 => h9) rfl hin rfl (by decide +kernel) rfl rfl (Nat.le_of_ble_eq_true rfl) dX2_init_100 (fun H locs hP hD hS => ?_)
  have hP : va_P D vwCl [(h0, .inr (2, [.ref q_1, .ref q_2, .ref q_3, .int 0, .ref q_4, .ref q_5, .ref q_6, .ref q_7, .ref q_8, .ref q_9, .ref q_10, .int 0, .int 0, .ref q_11, .int 0, .null, .int 0, .null])), (q_1, .inl (ct 1, 7000, .inl (fun _ => 0))), (q_2, .inl (ct 1, 7000, .inl (fun _ => 0))), (q_3, .inl (ct 1, 7000, .inl (fun _ => 0))), (q_4, .inl (ct 1, 3000, .inl (fun _ => 0))), (q_5, .inl (ct 1, 3000, .inl (fun _ => 0))), (q_6, .inl (ct 1, 3000, .inl (fun _ => 0))), (q_7, .inl (ct 1, 3000, .inl (fun _ => 0))), (q_8, .inl (ct 1, 3000, .inl (fun _ => 0))), (q_9, .inl (ct 1, 3000, .inl (fun _ => 0))), (q_10, .inl (ct 3, 3000, .inl (fun _ => 0))), (q_11, .inl (ct 1, 5000, .inl (fun _ => 0)))] _ := hP
  have hD : va_D A [(h0, .inr (2, [.ref q_1, .ref q_2, .ref q_3, .int 0, .ref q_4, .ref q_5, .ref q_6, .ref q_7, .ref q_8, .ref q_9, .ref q_10, .int 0, .int 0, .ref q_11, .int 0, .null, .int 0, .null])), (q_1, .inl (ct 1, 7000, .inl (fun _ => 0))), (q_2, .inl (ct 1, 7000, .inl (fun _ => 0))), (q_3, .inl (ct 1, 7000, .inl (fun _ => 0))), (q_4, .inl (ct 1, 3000, .inl (fun _ => 0))), (q_5, .inl (ct 1, 3000, .inl (fun _ => 0))), (q_6, .inl (ct 1, 3000, .inl (fun _ => 0))), (q_7, .inl (ct 1, 3000, .inl (fun _ => 0))), (q_8, .inl (ct 1, 3000, .inl (fun _ => 0))), (q_9, .inl (ct 1, 3000, .inl (fun _ => 0))), (q_10, .inl (ct 3, 3000, .inl (fun _ => 0))), (q_11, .inl (ct 1, 5000, .inl (fun _ => 0)))] := hD
  refine lv_aload_n hx hb dX2_init_103 rfl (lv_at hl 0 rfl) ?_
  refine lv_bipush (v := 6) hx hb dX2_init_104 (by decide) ?_
  refine na_new (atype := .int) (k1 := 12) (n1 := 47006) hx hb hn mw_72 rfl hK hP hD hS hA 1 rfl 6 (6, .inl (fun _ => 0)) (fun _ => rfl) (by decide) (by decide) (Nat.le_of_ble_eq_true rfl) (Nat.le_of_ble_eq_true rfl) (Nat.le_of_ble_eq_true rfl) (Nat.le_of_ble_eq_true rfl) (Nat.le_of_ble_eq_true rfl) dX2_init_106 (fun q_12 H hP hD hS => ?_)
  have hP : va_P D vwCl [(h0, .inr (2, [.ref q_1, .ref q_2, .ref q_3, .int 0, .ref q_4, .ref q_5, .ref q_6, .ref q_7, .ref q_8, .ref q_9, .ref q_10, .int 0, .int 0, .ref q_11, .int 0, .null, .int 0, .null])), (q_1, .inl (ct 1, 7000, .inl (fun _ => 0))), (q_2, .inl (ct 1, 7000, .inl (fun _ => 0))), (q_3, .inl (ct 1, 7000, .inl (fun _ => 0))), (q_4, .inl (ct 1, 3000, .inl (fun _ => 0))), (q_5, .inl (ct 1, 3000, .inl (fun _ => 0))), (q_6, .inl (ct 1, 3000, .inl (fun _ => 0))), (q_7, .inl (ct 1, 3000, .inl (fun _ => 0))), (q_8, .inl (ct 1, 3000, .inl (fun _ => 0))), (q_9, .inl (ct 1, 3000, .inl (fun _ => 0))), (q_10, .inl (ct 3, 3000, .inl (fun _ => 0))), (q_11, .inl (ct 1, 5000, .inl (fun _ => 0))), (q_12, .inl (ct 1, 6, .inl (fun _ => 0)))] _ := hP
  have hD : va_D A [(h0, .inr (2, [.ref q_1, .ref q_2, .ref q_3, .int 0, .ref q_4, .ref q_5, .ref q_6, .ref q_7, .ref q_8, .ref q_9, .ref q_10, .int 0, .int 0, .ref q_11, .int 0, .null, .int 0, .null])), (q_1, .inl (ct 1, 7000, .inl (fun _ => 0))), (q_2, .inl (ct 1, 7000, .inl (fun _ => 0))), (q_3, .inl (ct 1, 7000, .inl (fun _ => 0))), (q_4, .inl (ct 1, 3000, .inl (fun _ => 0))), (q_5, .inl (ct 1, 3000, .inl (fun _ => 0))), (q_6, .inl (ct 1, 3000, .inl (fun _ => 0))), (q_7, .inl (ct 1, 3000, .inl (fun _ => 0))), (q_8, .inl (ct 1, 3000, .inl (fun _ => 0))), (q_9, .inl (ct 1, 3000, .inl (fun _ => 0))), (q_10, .inl (ct 3, 3000, .inl (fun _ => 0))), (q_11, .inl (ct 1, 5000, .inl (fun _ => 0))), (q_12, .inl (ct 1, 6, .inl (fun _ => 0)))] := hD
  refine va_putF (D := D) (ci := 2) (v := .ref q_12) (ty := .array .int) (C := RX2) (T := TX2) (N := 18) hx hb (htX2 hn) (fun _ h => h) tyX2 tyX2_ok nmX2 hown hK hP hD hS 0 rfl rfl 15 (by decide) (hn.get mw_176 rfl) (fun _ h9 => h9) rfl hin rfl (by decide +kernel) rfl rfl (Nat.le_of_ble_eq_true rfl) dX2_init_108 (fun H locs hP hD hS => ?_)
  have hP : va_P D vwCl [(h0, .inr (2, [.ref q_1, .ref q_2, .ref q_3, .int 0, .ref q_4, .ref q_5, .ref q_6, .ref q_7, .ref q_8, .ref q_9, .ref q_10, .int 0, .int 0, .ref q_11, .int 0, .ref q_12, .int 0, .null])), (q_1, .inl (ct 1, 7000, .inl (fun _ => 0))), (q_2, .inl (ct 1, 7000, .inl (fun _ => 0))), (q_3, .inl (ct 1, 7000, .inl (fun _ => 0))), (q_4, .inl (ct 1, 3000, .inl (fun _ => 0))), (q_5, .inl (ct 1, 3000, .inl (fun _ => 0))), (q_6, .inl (ct 1, 3000, .inl (fun _ => 0))), (q_7, .inl (ct 1, 3000, .inl (fun _ => 0))), (q_8, .inl (ct 1, 3000, .inl (fun _ => 0))), (q_9, .inl (ct 1, 3000, .inl (fun _ => 0))), (q_10, .inl (ct 3, 3000, .inl (fun _ => 0))), (q_11, .inl (ct 1, 5000, .inl (fun _ => 0))), (q_12, .inl (ct 1, 6, .inl (fun _ => 0)))] _ := hP
  have hD : va_D A [(h0, .inr (2, [.ref q_1, .ref q_2, .ref q_3, .int 0, .ref q_4, .ref q_5, .ref q_6, .ref q_7, .ref q_8, .ref q_9, .ref q_10, .int 0, .int 0, .ref q_11, .int 0, .ref q_12, .int 0, .null])), (q_1, .inl (ct 1, 7000, .inl (fun _ => 0))), (q_2, .inl (ct 1, 7000, .inl (fun _ => 0))), (q_3, .inl (ct 1, 7000, .inl (fun _ => 0))), (q_4, .inl (ct 1, 3000, .inl (fun _ => 0))), (q_5, .inl (ct 1, 3000, .inl (fun _ => 0))), (q_6, .inl (ct 1, 3000, .inl (fun _ => 0))), (q_7, .inl (ct 1, 3000, .inl (fun _ => 0))), (q_8, .inl (ct 1, 3000, .inl (fun _ => 0))), (q_9, .inl (ct 1, 3000, .inl (fun _ => 0))), (q_10, .inl (ct 3, 3000, .inl (fun _ => 0))), (q_11, .inl (ct 1, 5000, .inl (fun _ => 0))), (q_12, .inl (ct 1, 6, .inl (fun _ => 0)))] := hD
  refine lv_aload_n hx hb dX2_init_111 rfl (lv_at hl 0 rfl) ?_
  refine lv_bipush (v := 8) hx hb dX2_init_112 (by decide) ?_
  refine na_new (atype := .long) (k1 := 13) (n1 := 47014) hx hb hn mw_123 rfl hK hP hD hS hA 2 rfl 8 (8, .inr (.inl (fun _ => 0))) (fun _ => rfl) (by decide) (by decide) (Nat.le_of_ble_eq_true rfl) (Nat.le_of_ble_eq_true rfl) (Nat.le_of_ble_eq_true rfl) (Nat.le_of_ble_eq_true rfl) (Nat.le_of_ble_eq_true rfl) dX2_init_114 (fun q_13 H hP hD hS => ?_)
  have hP : va_P D vwCl [(h0, .inr (2, [.ref q_1, .ref q_2, .ref q_3, .int 0, .ref q_4, .ref q_5, .ref q_6, .ref q_7, .ref q_8, .ref q_9, .ref q_10, .int 0, .int 0, .ref q_11, .int 0, .ref q_12, .int 0, .null])), (q_1, .inl (ct 1, 7000, .inl (fun _ => 0))), (q_2, .inl (ct 1, 7000, .inl (fun _ => 0))), (q_3, .inl (ct 1, 7000, .inl (fun _ => 0))), (q_4, .inl (ct 1, 3000, .inl (fun _ => 0))), (q_5, .inl (ct 1, 3000, .inl (fun _ => 0))), (q_6, .inl (ct 1, 3000, .inl (fun _ => 0))), (q_7, .inl (ct 1, 3000, .inl (fun _ => 0))), (q_8, .inl (ct 1, 3000, .inl (fun _ => 0))), (q_9, .inl (ct 1, 3000, .inl (fun _ => 0))), (q_10, .inl (ct 3, 3000, .inl (fun _ => 0))), (q_11, .inl (ct 1, 5000, .inl (fun _ => 0))), (q_12, .inl (ct 1, 6, .inl (fun _ => 0))), (q_13, .inl (ct 2, 8, .inr (.inl (fun _ => 0))))] _ := hP
  have hD : va_D A [(h0, .inr (2, [.ref q_1, .ref q_2, .ref q_3, .int 0, .ref q_4, .ref q_5, .ref q_6, .ref q_7, .ref q_8, .ref q_9, .ref q_10, .int 0, .int 0, .ref q_11, .int 0, .ref q_12, .int 0, .null])), (q_1, .inl (ct 1, 7000, .inl (fun _ => 0))), (q_2, .inl (ct 1, 7000, .inl (fun _ => 0))), (q_3, .inl (ct 1, 7000, .inl (fun _ => 0))), (q_4, .inl (ct 1, 3000, .inl (fun _ => 0))), (q_5, .inl (ct 1, 3000, .inl (fun _ => 0))), (q_6, .inl (ct 1, 3000, .inl (fun _ => 0))), (q_7, .inl (ct 1, 3000, .inl (fun _ => 0))), (q_8, .inl (ct 1, 3000, .inl (fun _ => 0))), (q_9, .inl (ct 1, 3000, .inl (fun _ => 0))), (q_10, .inl (ct 3, 3000, .inl (fun _ => 0))), (q_11, .inl (ct 1, 5000, .inl (fun _ => 0))), (q_12, .inl (ct 1, 6, .inl (fun _ => 0))), (q_13, .inl (ct 2, 8, .inr (.inl (fun _ => 0))))] := hD
  refine va_putF (D := D) (ci := 2) (v := .ref q_13) (ty := .array .long) (C := RX2) (T := TX2) (N := 18) hx hb (htX2 hn) (fun _ h => h) tyX2 tyX2_ok nmX2 hown hK hP hD hS 0 rfl rfl 17 (by decide) (hn.get mw_178 rfl) (fun _ h9 => h9) rfl hin rfl (by decide +kernel) rfl rfl (Nat.le_of_ble_eq_true rfl) dX2_init_116 (fun H locs hP hD hS => ?_)
  have hP : va_P D vwCl [(h0, .inr (2, [.ref q_1, .ref q_2, .ref q_3, .int 0, .ref q_4, .ref q_5, .ref q_6, .ref q_7, .ref q_8, .ref q_9, .ref q_10, .int 0, .int 0, .ref q_11, .int 0, .ref q_12, .int 0, .ref q_13])), (q_1, .inl (ct 1, 7000, .inl (fun _ => 0))), (q_2, .inl (ct 1, 7000, .inl (fun _ => 0))), (q_3, .inl (ct 1, 7000, .inl (fun _ => 0))), (q_4, .inl (ct 1, 3000, .inl (fun _ => 0))), (q_5, .inl (ct 1, 3000, .inl (fun _ => 0))), (q_6, .inl (ct 1, 3000, .inl (fun _ => 0))), (q_7, .inl (ct 1, 3000, .inl (fun _ => 0))), (q_8, .inl (ct 1, 3000, .inl (fun _ => 0))), (q_9, .inl (ct 1, 3000, .inl (fun _ => 0))), (q_10, .inl (ct 3, 3000, .inl (fun _ => 0))), (q_11, .inl (ct 1, 5000, .inl (fun _ => 0))), (q_12, .inl (ct 1, 6, .inl (fun _ => 0))), (q_13, .inl (ct 2, 8, .inr (.inl (fun _ => 0))))] _ := hP
  have hD : va_D A [(h0, .inr (2, [.ref q_1, .ref q_2, .ref q_3, .int 0, .ref q_4, .ref q_5, .ref q_6, .ref q_7, .ref q_8, .ref q_9, .ref q_10, .int 0, .int 0, .ref q_11, .int 0, .ref q_12, .int 0, .ref q_13])), (q_1, .inl (ct 1, 7000, .inl (fun _ => 0))), (q_2, .inl (ct 1, 7000, .inl (fun _ => 0))), (q_3, .inl (ct 1, 7000, .inl (fun _ => 0))), (q_4, .inl (ct 1, 3000, .inl (fun _ => 0))), (q_5, .inl (ct 1, 3000, .inl (fun _ => 0))), (q_6, .inl (ct 1, 3000, .inl (fun _ => 0))), (q_7, .inl (ct 1, 3000, .inl (fun _ => 0))), (q_8, .inl (ct 1, 3000, .inl (fun _ => 0))), (q_9, .inl (ct 1, 3000, .inl (fun _ => 0))), (q_10, .inl (ct 3, 3000, .inl (fun _ => 0))), (q_11, .inl (ct 1, 5000, .inl (fun _ => 0))), (q_12, .inl (ct 1, 6, .inl (fun _ => 0))), (q_13, .inl (ct 2, 8, .inr (.inl (fun _ => 0))))] := hD
  exact end_v hx hb hr hlocks dX2_init_119 (q_1, q_2, q_3, q_4, q_5, q_6, q_7, q_8, q_9, q_10, q_11, q_12, q_13) trivial hP hD hS [0, 11] rfl (by decide) rfl (Nat.le_of_ble_eq_true rfl) (Nat.le_of_ble_eq_true rfl)
set_option maxHeartbeats 4000000 in
set_option maxRecDepth 100000 in
theorem c_X8_init (l : Launch) (D : va_G) (ct : Nat → ClassId) (h0 : Nat) (t0 : Nat) (f0 : Nat)  : KV (S := Unit) l yX8_init cX8_init 3 none 2 20 D ct [.ref h0, .ref t0, .ref f0] [(h0, .inr (8, [.null, .null, .int 0, .int 0, .int 0, .int 0]))] 0 0 (fun _ => True) (fun (_ : Unit) => [(h0, .inr (8, [.ref t0, .ref f0, .int 0, .int 0, .int 0, .int 0]))]) := by
  refine KV_of (by decide) (Nat.le_of_ble_eq_true rfl) (fun p e s m below meth c A C0 hA hS hP hD ls hl => ?_)
  obtain ⟨hx, hb, hr, hown, hin, hml, hlocks, hn, hK⟩ := C0
  have hl : lv_has ls 3 [(0, .ref h0), (1, .ref t0), (2, .ref f0)] := hl
  refine lv_aload_n hx hb dX8_init_0 rfl (lv_at hl 0 rfl) ?_
  refine W.objInit hx hb hown (hn.get mw_240 rfl) (hn.get mw_34 rfl) (hn.get mw_oi rfl) rfl (by rw [hml]; exact hl.1) rfl dX8_init_1 (Nat.le_of_ble_eq_true rfl) (Nat.le_of_ble_eq_true rfl) ?_
  refine W.eq (g2 := F0 m 4 ls []) rfl ?_
  refine lv_aload_n hx hb dX8_init_4 rfl (lv_at hl 0 rfl) ?_
  refine lv_aload_n hx hb dX8_init_5 rfl (lv_at hl 1 rfl) ?_
  refine va_putF (D := D) (ci := 8) (v := .ref t0) (ty := .object "FilterForge$Tape") (C := RX8) (T := TX8) (N := 6) hx hb (htX8 hn) (fun _ h => h) tyX8 tyX8_ok nmX8 hown hK hP hD hS 0 rfl rfl 0 (by decide) (hn.get mw_241 rfl) (fun _ h9 => h9) rfl hin rfl (by decide +kernel) rfl rfl (Nat.le_of_ble_eq_true rfl) dX8_init_6 (fun H locs hP hD hS => ?_)
  have hP : va_P D vwCl [(h0, .inr (8, [.ref t0, .null, .int 0, .int 0, .int 0, .int 0]))] _ := hP
  have hD : va_D A [(h0, .inr (8, [.ref t0, .null, .int 0, .int 0, .int 0, .int 0]))] := hD
  refine lv_aload_n hx hb dX8_init_9 rfl (lv_at hl 0 rfl) ?_
  refine lv_aload_n hx hb dX8_init_10 rfl (lv_at hl 2 rfl) ?_
  refine va_put (D := D) (ci := 8) (v := .ref f0) (ty := .object "FilterForge$Filter") (C := RX8) (T := TX8) (N := 6) hx hb (htX8 hn) (fun _ h => h) tyX8 tyX8_ok nmX8 hown hK hP hD hS 0 rfl rfl 1 (by decide) (hn.get mw_242 rfl) (fun _ h9 => h9) rfl (by decide +kernel) rfl rfl (Nat.le_of_ble_eq_true rfl) dX8_init_11 (fun H locs hP hD hS => ?_)
  have hP : va_P D vwCl [(h0, .inr (8, [.ref t0, .ref f0, .int 0, .int 0, .int 0, .int 0]))] _ := hP
  have hD : va_D A [(h0, .inr (8, [.ref t0, .ref f0, .int 0, .int 0, .int 0, .int 0]))] := hD
  exact end_v hx hb hr hlocks dX8_init_14 () trivial hP hD hS [0] rfl (by decide) rfl (Nat.le_of_ble_eq_true rfl) (Nat.le_of_ble_eq_true rfl)
set_option maxHeartbeats 4000000 in
set_option maxRecDepth 100000 in
theorem c_X0_init (l : Launch) (D : va_G) (ct : Nat → ClassId) (h0 : Nat) (f0 : Nat) (p0 : Nat)  : KV (S := Nat × Nat) l yX0_init cX0_init 3 none 2 20 D ct [.ref h0, .ref f0, .ref p0] [(h0, .inr (0, [.null, .null, .null, .null, .int 0]))] 2 7002 (fun _ => True) (fun (u : Nat × Nat) => match u with | (a, b) => [(h0, .inr (0, [.ref a, .ref b, .ref f0, .ref p0, .int 0])), (a, .inl (ct 1, 3002, .inl (fun _ => 0))), (b, .inl (ct 1, 4000, .inl (fun _ => 0)))]) := by
  refine KV_of (by decide) (Nat.le_of_ble_eq_true rfl) (fun p e s m below meth c A C0 hA hS hP hD ls hl => ?_)
  obtain ⟨hx, hb, hr, hown, hin, hml, hlocks, hn, hK⟩ := C0
  have hl : lv_has ls 3 [(0, .ref h0), (1, .ref f0), (2, .ref p0)] := hl
  refine lv_aload_n hx hb dX0_init_0 rfl (lv_at hl 0 rfl) ?_
  refine W.objInit hx hb hown (hn.get mw_265 rfl) (hn.get mw_34 rfl) (hn.get mw_oi rfl) rfl (by rw [hml]; exact hl.1) rfl dX0_init_1 (Nat.le_of_ble_eq_true rfl) (Nat.le_of_ble_eq_true rfl) ?_
  refine W.eq (g2 := F0 m 4 ls []) rfl ?_
  refine lv_aload_n hx hb dX0_init_4 rfl (lv_at hl 0 rfl) ?_
  refine lv_sipush (v := 3002) hx hb dX0_init_5 (by decide) ?_
  refine na_new (atype := .int) (k1 := 1) (n1 := 3002) hx hb hn mw_72 rfl hK hP hD hS hA 1 rfl 3002 (3002, .inl (fun _ => 0)) (fun _ => rfl) (by decide) (by decide) (Nat.le_of_ble_eq_true rfl) (Nat.le_of_ble_eq_true rfl) (Nat.le_of_ble_eq_true rfl) (Nat.le_of_ble_eq_true rfl) (Nat.le_of_ble_eq_true rfl) dX0_init_8 (fun q_1 H hP hD hS => ?_)
  have hP : va_P D vwCl [(h0, .inr (0, [.null, .null, .null, .null, .int 0])), (q_1, .inl (ct 1, 3002, .inl (fun _ => 0)))] _ := hP
  have hD : va_D A [(h0, .inr (0, [.null, .null, .null, .null, .int 0])), (q_1, .inl (ct 1, 3002, .inl (fun _ => 0)))] := hD
  refine va_putF (D := D) (ci := 0) (v := .ref q_1) (ty := .array .int) (C := RX0) (T := TX0) (N := 5) hx hb (htX0 hn) (fun _ h => h) tyX0 tyX0_ok nmX0 hown hK hP hD hS 0 rfl rfl 0 (by decide) (hn.get mw_266 rfl) (fun _ h9 => h9) rfl hin rfl (by decide +kernel) rfl rfl (Nat.le_of_ble_eq_true rfl) dX0_init_10 (fun H locs hP hD hS => ?_)
  have hP : va_P D vwCl [(h0, .inr (0, [.ref q_1, .null, .null, .null, .int 0])), (q_1, .inl (ct 1, 3002, .inl (fun _ => 0)))] _ := hP
  have hD : va_D A [(h0, .inr (0, [.ref q_1, .null, .null, .null, .int 0])), (q_1, .inl (ct 1, 3002, .inl (fun _ => 0)))] := hD
  refine lv_aload_n hx hb dX0_init_13 rfl (lv_at hl 0 rfl) ?_
  refine lv_sipush (v := 4000) hx hb dX0_init_14 (by decide) ?_
  refine na_new (atype := .int) (k1 := 2) (n1 := 7002) hx hb hn mw_72 rfl hK hP hD hS hA 1 rfl 4000 (4000, .inl (fun _ => 0)) (fun _ => rfl) (by decide) (by decide) (Nat.le_of_ble_eq_true rfl) (Nat.le_of_ble_eq_true rfl) (Nat.le_of_ble_eq_true rfl) (Nat.le_of_ble_eq_true rfl) (Nat.le_of_ble_eq_true rfl) dX0_init_17 (fun q_2 H hP hD hS => ?_)
  have hP : va_P D vwCl [(h0, .inr (0, [.ref q_1, .null, .null, .null, .int 0])), (q_1, .inl (ct 1, 3002, .inl (fun _ => 0))), (q_2, .inl (ct 1, 4000, .inl (fun _ => 0)))] _ := hP
  have hD : va_D A [(h0, .inr (0, [.ref q_1, .null, .null, .null, .int 0])), (q_1, .inl (ct 1, 3002, .inl (fun _ => 0))), (q_2, .inl (ct 1, 4000, .inl (fun _ => 0)))] := hD
  refine va_putF (D := D) (ci := 0) (v := .ref q_2) (ty := .array .int) (C := RX0) (T := TX0) (N := 5) hx hb (htX0 hn) (fun _ h => h) tyX0 tyX0_ok nmX0 hown hK hP hD hS 0 rfl rfl 1 (by decide) (hn.get mw_267 rfl) (fun _ h9 => h9) rfl hin rfl (by decide +kernel) rfl rfl (Nat.le_of_ble_eq_true rfl) dX0_init_19 (fun H locs hP hD hS => ?_)
  have hP : va_P D vwCl [(h0, .inr (0, [.ref q_1, .ref q_2, .null, .null, .int 0])), (q_1, .inl (ct 1, 3002, .inl (fun _ => 0))), (q_2, .inl (ct 1, 4000, .inl (fun _ => 0)))] _ := hP
  have hD : va_D A [(h0, .inr (0, [.ref q_1, .ref q_2, .null, .null, .int 0])), (q_1, .inl (ct 1, 3002, .inl (fun _ => 0))), (q_2, .inl (ct 1, 4000, .inl (fun _ => 0)))] := hD
  refine lv_aload_n hx hb dX0_init_22 rfl (lv_at hl 0 rfl) ?_
  refine lv_aload_n hx hb dX0_init_23 rfl (lv_at hl 1 rfl) ?_
  refine va_put (D := D) (ci := 0) (v := .ref f0) (ty := .object "FilterForge$Filter") (C := RX0) (T := TX0) (N := 5) hx hb (htX0 hn) (fun _ h => h) tyX0 tyX0_ok nmX0 hown hK hP hD hS 0 rfl rfl 2 (by decide) (hn.get mw_268 rfl) (fun _ h9 => h9) rfl (by decide +kernel) rfl rfl (Nat.le_of_ble_eq_true rfl) dX0_init_24 (fun H locs hP hD hS => ?_)
  have hP : va_P D vwCl [(h0, .inr (0, [.ref q_1, .ref q_2, .ref f0, .null, .int 0])), (q_1, .inl (ct 1, 3002, .inl (fun _ => 0))), (q_2, .inl (ct 1, 4000, .inl (fun _ => 0)))] _ := hP
  have hD : va_D A [(h0, .inr (0, [.ref q_1, .ref q_2, .ref f0, .null, .int 0])), (q_1, .inl (ct 1, 3002, .inl (fun _ => 0))), (q_2, .inl (ct 1, 4000, .inl (fun _ => 0)))] := hD
  refine lv_aload_n hx hb dX0_init_27 rfl (lv_at hl 0 rfl) ?_
  refine lv_aload_n hx hb dX0_init_28 rfl (lv_at hl 2 rfl) ?_
  refine va_put (D := D) (ci := 0) (v := .ref p0) (ty := .object "FilterForge$Program") (C := RX0) (T := TX0) (N := 5) hx hb (htX0 hn) (fun _ h => h) tyX0 tyX0_ok nmX0 hown hK hP hD hS 0 rfl rfl 3 (by decide) (hn.get mw_269 rfl) (fun _ h9 => h9) rfl (by decide +kernel) rfl rfl (Nat.le_of_ble_eq_true rfl) dX0_init_29 (fun H locs hP hD hS => ?_)
  have hP : va_P D vwCl [(h0, .inr (0, [.ref q_1, .ref q_2, .ref f0, .ref p0, .int 0])), (q_1, .inl (ct 1, 3002, .inl (fun _ => 0))), (q_2, .inl (ct 1, 4000, .inl (fun _ => 0)))] _ := hP
  have hD : va_D A [(h0, .inr (0, [.ref q_1, .ref q_2, .ref f0, .ref p0, .int 0])), (q_1, .inl (ct 1, 3002, .inl (fun _ => 0))), (q_2, .inl (ct 1, 4000, .inl (fun _ => 0)))] := hD
  exact end_v hx hb hr hlocks dX0_init_32 (q_1, q_2) trivial hP hD hS [0, 1, 2] rfl (by decide) rfl (Nat.le_of_ble_eq_true rfl) (Nat.le_of_ble_eq_true rfl)
set_option maxHeartbeats 4000000 in
set_option maxRecDepth 100000 in
theorem c_X10_init (l : Launch) (D : va_G) (ct : Nat → ClassId) (h0 : Nat) (p0 : Nat) (o0 : Nat)  : KV (S := Nat) l yX10_init cX10_init 3 none 2 20 D ct [.ref h0, .ref p0, .ref o0] [(h0, .inr (10, [.null, .null, .null, .int 0, .int 0]))] 1 4001 (fun _ => True) (fun (a : Nat) => [(h0, .inr (10, [.ref a, .ref o0, .ref p0, .int 0, .int 0])), (a, .inl (ct 1, 4001, .inl (fun _ => 0)))]) := by
  refine KV_of (by decide) (Nat.le_of_ble_eq_true rfl) (fun p e s m below meth c A C0 hA hS hP hD ls hl => ?_)
  obtain ⟨hx, hb, hr, hown, hin, hml, hlocks, hn, hK⟩ := C0
  have hl : lv_has ls 3 [(0, .ref h0), (1, .ref p0), (2, .ref o0)] := hl
  refine lv_aload_n hx hb dX10_init_0 rfl (lv_at hl 0 rfl) ?_
  refine W.objInit hx hb hown (hn.get mw_287 rfl) (hn.get mw_34 rfl) (hn.get mw_oi rfl) rfl (by rw [hml]; exact hl.1) rfl dX10_init_1 (Nat.le_of_ble_eq_true rfl) (Nat.le_of_ble_eq_true rfl) ?_
  refine W.eq (g2 := F0 m 4 ls []) rfl ?_
  refine lv_aload_n hx hb dX10_init_4 rfl (lv_at hl 0 rfl) ?_
  refine lv_sipush (v := 4001) hx hb dX10_init_5 (by decide) ?_
  refine na_new (atype := .int) (k1 := 1) (n1 := 4001) hx hb hn mw_72 rfl hK hP hD hS hA 1 rfl 4001 (4001, .inl (fun _ => 0)) (fun _ => rfl) (by decide) (by decide) (Nat.le_of_ble_eq_true rfl) (Nat.le_of_ble_eq_true rfl) (Nat.le_of_ble_eq_true rfl) (Nat.le_of_ble_eq_true rfl) (Nat.le_of_ble_eq_true rfl) dX10_init_8 (fun q_1 H hP hD hS => ?_)
  have hP : va_P D vwCl [(h0, .inr (10, [.null, .null, .null, .int 0, .int 0])), (q_1, .inl (ct 1, 4001, .inl (fun _ => 0)))] _ := hP
  have hD : va_D A [(h0, .inr (10, [.null, .null, .null, .int 0, .int 0])), (q_1, .inl (ct 1, 4001, .inl (fun _ => 0)))] := hD
  refine va_putF (D := D) (ci := 10) (v := .ref q_1) (ty := .array .int) (C := RX10) (T := TX10) (N := 5) hx hb (htX10 hn) (fun _ h => h) tyX10 tyX10_ok nmX10 hown hK hP hD hS 0 rfl rfl 0 (by decide) (hn.get mw_288 rfl) (fun _ h9 => h9) rfl hin rfl (by decide +kernel) rfl rfl (Nat.le_of_ble_eq_true rfl) dX10_init_10 (fun H locs hP hD hS => ?_)
  have hP : va_P D vwCl [(h0, .inr (10, [.ref q_1, .null, .null, .int 0, .int 0])), (q_1, .inl (ct 1, 4001, .inl (fun _ => 0)))] _ := hP
  have hD : va_D A [(h0, .inr (10, [.ref q_1, .null, .null, .int 0, .int 0])), (q_1, .inl (ct 1, 4001, .inl (fun _ => 0)))] := hD
  refine lv_aload_n hx hb dX10_init_13 rfl (lv_at hl 0 rfl) ?_
  refine lv_aload_n hx hb dX10_init_14 rfl (lv_at hl 1 rfl) ?_
  refine va_put (D := D) (ci := 10) (v := .ref p0) (ty := .object "FilterForge$Program") (C := RX10) (T := TX10) (N := 5) hx hb (htX10 hn) (fun _ h => h) tyX10 tyX10_ok nmX10 hown hK hP hD hS 0 rfl rfl 2 (by decide) (hn.get mw_290 rfl) (fun _ h9 => h9) rfl (by decide +kernel) rfl rfl (Nat.le_of_ble_eq_true rfl) dX10_init_15 (fun H locs hP hD hS => ?_)
  have hP : va_P D vwCl [(h0, .inr (10, [.ref q_1, .null, .ref p0, .int 0, .int 0])), (q_1, .inl (ct 1, 4001, .inl (fun _ => 0)))] _ := hP
  have hD : va_D A [(h0, .inr (10, [.ref q_1, .null, .ref p0, .int 0, .int 0])), (q_1, .inl (ct 1, 4001, .inl (fun _ => 0)))] := hD
  refine lv_aload_n hx hb dX10_init_18 rfl (lv_at hl 0 rfl) ?_
  refine lv_aload_n hx hb dX10_init_19 rfl (lv_at hl 2 rfl) ?_
  refine va_putF (D := D) (ci := 10) (v := .ref o0) (ty := .object "FilterForge$ObjectCode") (C := RX10) (T := TX10) (N := 5) hx hb (htX10 hn) (fun _ h => h) tyX10 tyX10_ok nmX10 hown hK hP hD hS 0 rfl rfl 1 (by decide) (hn.get mw_289 rfl) (fun _ h9 => h9) rfl hin rfl (by decide +kernel) rfl rfl (Nat.le_of_ble_eq_true rfl) dX10_init_20 (fun H locs hP hD hS => ?_)
  have hP : va_P D vwCl [(h0, .inr (10, [.ref q_1, .ref o0, .ref p0, .int 0, .int 0])), (q_1, .inl (ct 1, 4001, .inl (fun _ => 0)))] _ := hP
  have hD : va_D A [(h0, .inr (10, [.ref q_1, .ref o0, .ref p0, .int 0, .int 0])), (q_1, .inl (ct 1, 4001, .inl (fun _ => 0)))] := hD
  exact end_v hx hb hr hlocks dX10_init_23 q_1 trivial hP hD hS [0, 1] rfl (by decide) rfl (Nat.le_of_ble_eq_true rfl) (Nat.le_of_ble_eq_true rfl)
set_option maxHeartbeats 4000000 in
set_option maxRecDepth 100000 in
theorem c_X1_init (l : Launch) (D : va_G) (ct : Nat → ClassId) (h0 : Nat)  : KV (S := Unit) l yX1_init cX1_init 1 none 2 20 D ct [.ref h0] [(h0, .inr (1, [.int 0, .long 0, .long 0, .long 0, .long 0]))] 0 0 (fun _ => True) (fun (_ : Unit) => [(h0, .inr (1, [.int 0, .long 0, .long 0, .long 0, .long 0]))]) := by
  refine KV_of (by decide) (Nat.le_of_ble_eq_true rfl) (fun p e s m below meth c A C0 hA hS hP hD ls hl => ?_)
  obtain ⟨hx, hb, hr, hown, hin, hml, hlocks, hn, hK⟩ := C0
  have hl : lv_has ls 1 [(0, .ref h0)] := hl
  refine lv_aload_n hx hb dX1_init_0 rfl (lv_at hl 0 rfl) ?_
  refine W.objInit hx hb hown (hn.get mw_316 rfl) (hn.get mw_34 rfl) (hn.get mw_oi rfl) rfl (by rw [hml]; exact hl.1) rfl dX1_init_1 (Nat.le_of_ble_eq_true rfl) (Nat.le_of_ble_eq_true rfl) ?_
  refine W.eq (g2 := F0 m 4 ls []) rfl ?_
  exact end_v hx hb hr hlocks dX1_init_4 () trivial hP hD hS [0] rfl (by decide) rfl (Nat.le_of_ble_eq_true rfl) (Nat.le_of_ble_eq_true rfl)
