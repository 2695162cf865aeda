set_option maxHeartbeats 2000000 in
theorem c_JP_checkIndex (l : Launch) (D : va_G) (ct : Nat → ClassId) (v0 : Int32) (v1 : Int32) (va2 : Option Nat) (h_v0 : rg v0 0 2147483647) (hq0 : v0.toInt < v1.toInt) : KI (S := Unit) l yJP_checkIndex cJP_checkIndex 3 (some .int) 1 20 D ct [.int v0, .int v1, va_rf va2] [] 0 0 (fun (r : Int32) (_ : Unit) => rg r 0 2147483646) (fun (_ : Unit) => []) := by
  refine KIq_of (by decide) (by cases va2 <;> exact (Nat.le_of_ble_eq_true rfl)) (fun p e s m below meth c A Q C0 hA H locs hS hP hD hQ ls hl => ?_)
  obtain ⟨hx, hb, hr, hown, hin, hml, hlocks, hn, hK, hZ, hSK⟩ := C0
  have hl : lv_has ls 3 [(0, .int v0), (1, .int v1), (2, va_rf va2)] := hl
  refine lv_iload_n hx hb dJP_checkIndex_0 rfl (lv_at hl 0 rfl) ?_
  refine lv_if_lt (tgt := 9) hx hb dJP_checkIndex_1 (by decide) (fun c1_1 => ?_) (fun c1_1 => ?_)
  · exact absurd (i_lt c1_1) (rg_ltX h_v0 (show rg (0 : Int32) 0 0 from rg_l (by decide)) (by decide))
  · have t1_2 := (i_nlt c1_1)
    refine lv_iload_n hx hb dJP_checkIndex_4 rfl (lv_at hl 0 rfl) ?_
    refine lv_iload_n hx hb dJP_checkIndex_5 rfl (lv_at hl 1 rfl) ?_
    refine lv_icmp_lt (tgt := 16) hx hb dJP_checkIndex_6 (by decide) (fun c6_1 => ?_) (fun c6_1 => ?_)
    · have t6_2 := (i_lt c6_1)
      have r6_3 : rg v0 0 2147483646 := rg_ltA t6_2 h_v0 (rg_any v1) (by decide)
      have r6_4 : rg v1 1 2147483647 := rg_ltB t6_2 h_v0 (rg_any v1) (by decide)
      refine lv_iload_n hx hb dJP_checkIndex_16 rfl (lv_at hl 0 rfl) ?_
      exact endq_i hQ hx hb hr hlocks dJP_checkIndex_17 rfl () r6_3 hP hD hS [] rfl (by decide) rfl (Nat.le_of_ble_eq_true rfl) (Nat.le_of_ble_eq_true rfl)
    · exact absurd (i_nlt c6_1) (show ¬ (v1.toInt ≤ v0.toInt) by have q0 := h_v0.1; have q1 := h_v0.2; have q2 := (rg_any v1).1; have q3 := (rg_any v1).2; have q4 := (show rg (0 : Int32) 0 0 from rg_l (by decide)).1; have q5 := (show rg (0 : Int32) 0 0 from rg_l (by decide)).2; have q6 := hq0; have q7 := t1_2; omega)
set_option maxHeartbeats 2000000 in
theorem c_JS_checkIndex (l : Launch) (D : va_G) (ct : Nat → ClassId) (v0 : Int32) (v1 : Int32) (h_v0 : rg v0 0 2147483647) (hq0 : v0.toInt < v1.toInt) : KV (S := Unit) l yJS_checkIndex cJS_checkIndex 2 none 2 42 D ct [.int v0, .int v1] [] 0 0 (fun (_ : Unit) => True) (fun (_ : Unit) => []) := by
  refine KVq_of (by decide) (Nat.le_of_ble_eq_true rfl) (fun p e s m below meth c A Q C0 hA H locs hS hP hD hQ ls hl => ?_)
  obtain ⟨hx, hb, hr, hown, hin, hml, hlocks, hn, hK, hZ, hSK⟩ := C0
  have hl : lv_has ls 2 [(0, .int v0), (1, .int v1)] := hl
  refine lv_iload_n hx hb dJS_checkIndex_0 rfl (lv_at hl 0 rfl) ?_
  refine lv_iload_n hx hb dJS_checkIndex_1 rfl (lv_at hl 1 rfl) ?_
  obtain ⟨vs2_1, hs2_1⟩ := hZ.2.2.2.2.1
  refine va_gets hx hb hs2_1 hS hown (hn.get mw_550 rfl) (fun _ h9 => h9) dJS_checkIndex_2 ?_
  refine go_i (k1 := 0) (n1 := 0) (wr := []) [] [] (rn_S (As := [.int v0, .int v1, va_rf vs2_1]) (rest := []) (c_JP_checkIndex l D ct v0 v1 vs2_1 h_v0 (show v0.toInt < v1.toInt by have q0 := (rg_any v1).1; have q1 := (rg_any v1).2; have q2 := h_v0.1; have q3 := h_v0.2; have q4 := hq0; omega) _) (cb_of (n := 3) hn mw_554 mw_16 mw_552 mhJP_checkIndex ⟨(Nat.le_of_ble_eq_true rfl), (Nat.le_of_ble_eq_true rfl)⟩) hx hb hml hown hn hK hSK hZ hS mw_553 rfl hl.1 (Nat.le_of_ble_eq_true rfl) dJS_checkIndex_5 ⟨(Nat.le_of_ble_eq_true rfl), (Nat.le_of_ble_eq_true rfl)⟩) hP hD hS hA rfl rfl (by decide) (by decide) (by decide) (Nat.le_of_ble_eq_true rfl) (Nat.le_of_ble_eq_true rfl) (fun r5_1 u5_2 H locs hp5_3 hP hD hS => ?_)
  have hp5_4 := hp5_3
  have hp5_4 : rg r5_1 0 2147483646 := hp5_4
  have hP : va_P D vwCl [] _ := hP
  have hD : va_D A [] := hD
  refine lv_pop hx hb dJS_checkIndex_8 rfl ?_
  exact endq_v hQ hx hb hr hlocks dJS_checkIndex_9 () trivial hP hD hS [] rfl (by decide) rfl (Nat.le_of_ble_eq_true rfl) (Nat.le_of_ble_eq_true rfl)
set_option maxHeartbeats 2000000 in
theorem c_JT_charAt (l : Launch) (D : va_G) (ct : Nat → ClassId) (si : Nat) (sn : Nat) (v1 : Int32) (hsi : si < 63 ∧ sLen.getD si 0 = sn) (h_v1 : rg v1 0 2147483647) (hq0 : v1.toInt < ((sn : Nat) : Int)) : KI (S := Unit) l yJT_charAt cJT_charAt 2 (some .char) 3 63 D ct [.ref (ct (200 + si)), .int v1] [] 0 0 (fun (r : Int32) (_ : Unit) => rg r 0 65535) (fun (_ : Unit) => []) := by
  refine KIq_of (by decide) (Nat.le_of_ble_eq_true rfl) (fun p e s m below meth c A Q C0 hA H locs hS hP hD hQ ls hl => ?_)
  obtain ⟨hx, hb, hr, hown, hin, hml, hlocks, hn, hK, hZ, hSK⟩ := C0
  have hl : lv_has ls 2 [(0, .ref (ct (200 + si))), (1, .int v1)] := hl
  refine lv_iload_n hx hb dJT_charAt_0 rfl (lv_at hl 1 rfl) ?_
  refine lv_aload_n hx hb dJT_charAt_1 rfl (lv_at hl 0 rfl) ?_
  obtain ⟨f2_1, hf2_1⟩ := (hZ.2.2.2.2.2 si hsi.1).2.2.2
  refine va_tlen hx hb hf2_1 hS rfl dJT_charAt_2 ?_
  refine lv_topi (fun z2_2 ez2_2 => ?_)
  rw [hsi.2] at ez2_2
  have r2_3 : rg z2_2 1 9 := rg_len ez2_2 (sl_n hsi) (by decide)
  refine go_v (k1 := 0) (n1 := 0) (wr := []) [] [] (rn_S (As := [.int v1, .int z2_2]) (rest := []) (c_JS_checkIndex l D ct v1 z2_2 h_v1 (show v1.toInt < z2_2.toInt by have q0 := r2_3.1; have q1 := r2_3.2; have q2 := (eq_len ez2_2 (sl_n hsi) (by decide)); have q3 := h_v1.1; have q4 := h_v1.2; have q5 := hq0; omega) _) (cb_of (n := 2) hn mw_549 mw_14 mw_547 mhJS_checkIndex ⟨(Nat.le_of_ble_eq_true rfl), (Nat.le_of_ble_eq_true rfl)⟩) hx hb hml hown hn hK hSK hZ hS mw_548 rfl hl.1 (Nat.le_of_ble_eq_true rfl) dJT_charAt_3 ⟨(Nat.le_of_ble_eq_true rfl), (Nat.le_of_ble_eq_true rfl)⟩) hP hD hS hA rfl rfl (by decide) (by decide) (by decide) (Nat.le_of_ble_eq_true rfl) (Nat.le_of_ble_eq_true rfl) (fun u3_2 H locs hp3_3 hP hD hS => ?_)
  have hP : va_P D vwCl [] _ := hP
  have hD : va_D A [] := hD
  refine lv_aload_n hx hb dJT_charAt_6 rfl (lv_at hl 0 rfl) ?_
  refine lv_iload_n hx hb dJT_charAt_7 rfl (lv_at hl 1 rfl) ?_
  obtain ⟨f8_1, hf8_1⟩ := (hZ.2.2.2.2.2 si hsi.1).2.2.2
  rw [hsi.2] at hf8_1
  refine va_tb hx hb hf8_1 hS (in_of (show 0 ≤ v1.toInt ∧ v1.toInt < ((sn : Nat) : Int) by have q0 := h_v1.1; have q1 := h_v1.2; have q2 := hq0; omega)) rfl dJT_charAt_8 ?_
  refine lv_topi (fun z8_2 ez8_2 => ?_)
  refine lv_sipush (v := 255) hx hb dJT_charAt_9 (by decide) ?_
  refine lv_iand hx hb dJT_charAt_12 ?_
  refine lv_topi (fun z12_1 ez12_1 => ?_)
  have r12_2 : rg z12_1 0 255 := rg_andr ez12_1 (show rg (255 : Int32) 255 255 from rg_l (by decide)) (by decide)
  refine lv_i2c hx hb dJT_charAt_13 rfl ?_
  refine lv_topi (fun z13_1 ez13_1 => ?_)
  have r13_2 : rg z13_1 0 65535 := rg_i2c ez13_1
  exact endq_i hQ hx hb hr hlocks dJT_charAt_14 (nar_char r13_2) () r13_2 hP hD hS [] rfl (by decide) rfl (Nat.le_of_ble_eq_true rfl) (Nat.le_of_ble_eq_true rfl)
set_option maxHeartbeats 2000000 in
theorem c_JS_isLatin1 (l : Launch) (D : va_G) (ct : Nat → ClassId) (si : Nat) (sn : Nat) (hsi : si < 63 ∧ sLen.getD si 0 = sn) : KI (S := Unit) l yJS_isLatin1 cJS_isLatin1 1 (some .boolean) 1 20 D ct [.ref (ct (100 + si))] [] 0 0 (fun (r : Int32) (_ : Unit) => rg r 1 1) (fun (_ : Unit) => []) := by
  refine KIq_of (by decide) (Nat.le_of_ble_eq_true rfl) (fun p e s m below meth c A Q C0 hA H locs hS hP hD hQ ls hl => ?_)
  obtain ⟨hx, hb, hr, hown, hin, hml, hlocks, hn, hK, hZ, hSK⟩ := C0
  have hl : lv_has ls 1 [(0, .ref (ct (100 + si)))] := hl
  refine va_gets hx hb hZ.2.2.2.1 hS hown (hn.get mw_534 rfl) (fun _ h9 => h9) dJS_isLatin1_0 ?_
  refine lv_if_eq (tgt := 17) hx hb dJS_isLatin1_3 (by decide) (fun c3_1 => absurd c3_1 (by decide)) (fun c3_1 => ?_)
  refine lv_aload_n hx hb dJS_isLatin1_6 rfl (lv_at hl 0 rfl) ?_
  refine vk_getf hx hb (hZ.2.2.2.2.2 si hsi.1).2.1 hS hown (hn.get mw_2738 rfl) (fun _ h9 => h9) dJS_isLatin1_7 ?_
  refine lv_if_ne (tgt := 17) hx hb dJS_isLatin1_10 (by decide) (fun c10_1 => absurd (by decide) c10_1) (fun c10_1 => ?_)
  refine lv_iconst (v := 1) hx hb dJS_isLatin1_13 (by decide) ?_
  refine lv_goto (tgt := 18) hx hb dJS_isLatin1_14 (by decide) ?_
  exact endq_i hQ hx hb hr hlocks dJS_isLatin1_18 (by decide) () (show rg (1 : Int32) 1 1 from rg_l (by decide)) hP hD hS [] rfl (by decide) rfl (Nat.le_of_ble_eq_true rfl) (Nat.le_of_ble_eq_true rfl)
set_option maxHeartbeats 2000000 in
theorem c_JS_coder (l : Launch) (D : va_G) (ct : Nat → ClassId) (si : Nat) (sn : Nat) (hsi : si < 63 ∧ sLen.getD si 0 = sn) : KI (S := Unit) l yJS_coder cJS_coder 1 (some .byte) 1 20 D ct [.ref (ct (100 + si))] [] 0 0 (fun (r : Int32) (_ : Unit) => rg r 0 0) (fun (_ : Unit) => []) := by
  refine KIq_of (by decide) (Nat.le_of_ble_eq_true rfl) (fun p e s m below meth c A Q C0 hA H locs hS hP hD hQ ls hl => ?_)
  obtain ⟨hx, hb, hr, hown, hin, hml, hlocks, hn, hK, hZ, hSK⟩ := C0
  have hl : lv_has ls 1 [(0, .ref (ct (100 + si)))] := hl
  refine va_gets hx hb hZ.2.2.2.1 hS hown (hn.get mw_534 rfl) (fun _ h9 => h9) dJS_coder_0 ?_
  refine lv_if_eq (tgt := 13) hx hb dJS_coder_3 (by decide) (fun c3_1 => absurd c3_1 (by decide)) (fun c3_1 => ?_)
  refine lv_aload_n hx hb dJS_coder_6 rfl (lv_at hl 0 rfl) ?_
  refine vk_getf hx hb (hZ.2.2.2.2.2 si hsi.1).2.1 hS hown (hn.get mw_2738 rfl) (fun _ h9 => h9) dJS_coder_7 ?_
  refine lv_goto (tgt := 14) hx hb dJS_coder_10 (by decide) ?_
  exact endq_i hQ hx hb hr hlocks dJS_coder_14 rfl () (show rg (0 : Int32) 0 0 from rg_l (by decide)) hP hD hS [] rfl (by decide) rfl (Nat.le_of_ble_eq_true rfl) (Nat.le_of_ble_eq_true rfl)
set_option maxHeartbeats 2000000 in
theorem c_JS_length (l : Launch) (D : va_G) (ct : Nat → ClassId) (si : Nat) (sn : Nat) (hsi : si < 63 ∧ sLen.getD si 0 = sn) : KI (S := Unit) l yJS_length cJS_length 1 (some .int) 2 40 D ct [.ref (ct (100 + si))] [] 0 0 (fun (r : Int32) (_ : Unit) => rg r 1 9 ∧ (r.toInt = ((sn : Nat) : Int))) (fun (_ : Unit) => []) := by
  refine KIq_of (by decide) (Nat.le_of_ble_eq_true rfl) (fun p e s m below meth c A Q C0 hA H locs hS hP hD hQ ls hl => ?_)
  obtain ⟨hx, hb, hr, hown, hin, hml, hlocks, hn, hK, hZ, hSK⟩ := C0
  have hl : lv_has ls 1 [(0, .ref (ct (100 + si)))] := hl
  refine lv_aload_n hx hb dJS_length_0 rfl (lv_at hl 0 rfl) ?_
  refine vk_getf hx hb (hZ.2.2.2.2.2 si hsi.1).2.2.1 hS hown (hn.get mw_2737 rfl) (fun _ h9 => h9) dJS_length_1 ?_
  obtain ⟨f4_1, hf4_1⟩ := (hZ.2.2.2.2.2 si hsi.1).2.2.2
  refine va_tlen hx hb hf4_1 hS rfl dJS_length_4 ?_
  refine lv_topi (fun z4_2 ez4_2 => ?_)
  rw [hsi.2] at ez4_2
  have r4_3 : rg z4_2 1 9 := rg_len ez4_2 (sl_n hsi) (by decide)
  refine lv_aload_n hx hb dJS_length_5 rfl (lv_at hl 0 rfl) ?_
  refine go_i (k1 := 0) (n1 := 0) (wr := []) [] [] (rn_VS (As := []) (rest := [.int z4_2]) (c_JS_coder l D ct si sn hsi _) (cb_of (n := 0) hn mw_533 mw_14 mw_530 mhJS_coder ⟨(Nat.le_of_ble_eq_true rfl), (Nat.le_of_ble_eq_true rfl)⟩) hx hb hml hown hn hK hSK hZ hS mw_531 mw_532 (hZ.2.2.2.2.2 si hsi.1).1 rfl rfl hl.1 (Nat.le_of_ble_eq_true rfl) dJS_length_6 ⟨(Nat.le_of_ble_eq_true rfl), (Nat.le_of_ble_eq_true rfl)⟩) hP hD hS hA rfl rfl (by decide) (by decide) (by decide) (Nat.le_of_ble_eq_true rfl) (Nat.le_of_ble_eq_true rfl) (fun r6_1 u6_2 H locs hp6_3 hP hD hS => ?_)
  have hp6_4 := hp6_3
  have hp6_4 : rg r6_1 0 0 := hp6_4
  have hP : va_P D vwCl [] _ := hP
  have hD : va_D A [] := hD
  obtain rfl : r6_1 = (0 : Int32) := rg_isv (v := 0) hp6_4 (by decide)
  refine lv_ishr hx hb dJS_length_9 ?_
  refine lv_topi (fun z9_1 ez9_1 => ?_)
  have r9_2 : rg z9_1 1 9 := rg_shr (k := 0) ez9_1 (by decide) r4_3 (by decide)
  exact endq_i hQ hx hb hr hlocks dJS_length_10 rfl () ⟨r9_2, (show z9_1.toInt = ((sn : Nat) : Int) by have q0 := r9_2.1; have q1 := r9_2.2; have q2 := (eq_shr (c := 1) (k := 0) ez9_1 (by decide) (by decide)); have q3 := r4_3.1; have q4 := r4_3.2; have q5 := (eq_len ez4_2 (sl_n hsi) (by decide)); omega)⟩ hP hD hS [] rfl (by decide) rfl (Nat.le_of_ble_eq_true rfl) (Nat.le_of_ble_eq_true rfl)
set_option maxHeartbeats 2000000 in
theorem c_JS_charAt (l : Launch) (D : va_G) (ct : Nat → ClassId) (si : Nat) (sn : Nat) (v0 : Int32) (hsi : si < 63 ∧ sLen.getD si 0 = sn) (h_v0 : rg v0 0 2147483647) (hq0 : v0.toInt < ((sn : Nat) : Int)) : KI (S := Unit) l yJS_charAt cJS_charAt 2 (some .char) 4 84 D ct [.ref (ct (100 + si)), .int v0] [] 0 0 (fun (r : Int32) (_ : Unit) => rg r 0 65535) (fun (_ : Unit) => []) := by
  refine KIq_of (by decide) (Nat.le_of_ble_eq_true rfl) (fun p e s m below meth c A Q C0 hA H locs hS hP hD hQ ls hl => ?_)
  obtain ⟨hx, hb, hr, hown, hin, hml, hlocks, hn, hK, hZ, hSK⟩ := C0
  have hl : lv_has ls 2 [(0, .ref (ct (100 + si))), (1, .int v0)] := hl
  refine lv_aload_n hx hb dJS_charAt_0 rfl (lv_at hl 0 rfl) ?_
  refine go_i (k1 := 0) (n1 := 0) (wr := []) [] [] (rn_VS (As := []) (rest := []) (c_JS_isLatin1 l D ct si sn hsi _) (cb_of (n := 0) hn mw_543 mw_14 mw_540 mhJS_isLatin1 ⟨(Nat.le_of_ble_eq_true rfl), (Nat.le_of_ble_eq_true rfl)⟩) hx hb hml hown hn hK hSK hZ hS mw_541 mw_542 (hZ.2.2.2.2.2 si hsi.1).1 rfl rfl hl.1 (Nat.le_of_ble_eq_true rfl) dJS_charAt_1 ⟨(Nat.le_of_ble_eq_true rfl), (Nat.le_of_ble_eq_true rfl)⟩) hP hD hS hA rfl rfl (by decide) (by decide) (by decide) (Nat.le_of_ble_eq_true rfl) (Nat.le_of_ble_eq_true rfl) (fun r1_1 u1_2 H locs hp1_3 hP hD hS => ?_)
  have hp1_4 := hp1_3
  have hp1_4 : rg r1_1 1 1 := hp1_4
  have hP : va_P D vwCl [] _ := hP
  have hD : va_D A [] := hD
  obtain rfl : r1_1 = (1 : Int32) := rg_isv (v := 1) hp1_4 (by decide)
  refine lv_if_eq (tgt := 16) hx hb dJS_charAt_4 (by decide) (fun c4_1 => absurd c4_1 (by decide)) (fun c4_1 => ?_)
  refine lv_aload_n hx hb dJS_charAt_7 rfl (lv_at hl 0 rfl) ?_
  refine vk_getf hx hb (hZ.2.2.2.2.2 si hsi.1).2.2.1 hS hown (hn.get mw_2737 rfl) (fun _ h9 => h9) dJS_charAt_8 ?_
  refine lv_iload_n hx hb dJS_charAt_11 rfl (lv_at hl 1 rfl) ?_
  refine go_i (k1 := 0) (n1 := 0) (wr := []) [] [] (rn_S (As := [.ref (ct (200 + si)), .int v0]) (rest := []) (c_JT_charAt l D ct si sn v0 hsi h_v0 (show v0.toInt < ((sn : Nat) : Int) by have q0 := h_v0.1; have q1 := h_v0.2; have q2 := hq0; omega) _) (cb_of (n := 2) hn mw_546 mw_15 mw_544 mhJT_charAt ⟨(Nat.le_of_ble_eq_true rfl), (Nat.le_of_ble_eq_true rfl)⟩) hx hb hml hown hn hK hSK hZ hS mw_545 rfl hl.1 (Nat.le_of_ble_eq_true rfl) dJS_charAt_12 ⟨(Nat.le_of_ble_eq_true rfl), (Nat.le_of_ble_eq_true rfl)⟩) hP hD hS hA rfl rfl (by decide) (by decide) (by decide) (Nat.le_of_ble_eq_true rfl) (Nat.le_of_ble_eq_true rfl) (fun r12_1 u12_2 H locs hp12_3 hP hD hS => ?_)
  have hp12_4 := hp12_3
  have hp12_4 : rg r12_1 0 65535 := hp12_4
  have hP : va_P D vwCl [] _ := hP
  have hD : va_D A [] := hD
  exact endq_i hQ hx hb hr hlocks dJS_charAt_15 (nar_char hp12_4) () hp12_4 hP hD hS [] rfl (by decide) rfl (Nat.le_of_ble_eq_true rfl) (Nat.le_of_ble_eq_true rfl)
set_option maxHeartbeats 2000000 in
theorem c_JL_compare (l : Launch) (D : va_G) (ct : Nat → ClassId) (v0 : Int64) (v1 : Int64)  : KI (S := Unit) l yJL_compare cJL_compare 4 (some .int) 1 20 D ct [.long v0, .long v1] [] 0 0 (fun (r : Int32) (_ : Unit) => rg r (-1) 1) (fun (_ : Unit) => []) := by
  refine KIq_of (by decide) (Nat.le_of_ble_eq_true rfl) (fun p e s m below meth c A Q C0 hA H locs hS hP hD hQ ls hl => ?_)
  obtain ⟨hx, hb, hr, hown, hin, hml, hlocks, hn, hK, hZ, hSK⟩ := C0
  have hl : lv_has ls 4 [(0, .long v0), (2, .long v1)] := hl
  refine lv_lload_n hx hb dJL_compare_0 rfl (lv_at hl 0 rfl) ?_
  refine lv_lload_n hx hb dJL_compare_1 rfl (lv_at hl 1 rfl) ?_
  refine W.lcmp hx hb dJL_compare_2 ?_
  refine lv_topi (fun z2_1 ez2_1 => ?_)
  refine lv_if_ge (tgt := 10) hx hb dJL_compare_3 (by decide) (fun c3_1 => ?_) (fun c3_1 => ?_)
  · have t3_2 := (l_ge ez2_1 c3_1)
    refine lv_lload_n hx hb dJL_compare_10 rfl (lv_at hl 0 rfl) ?_
    refine lv_lload_n hx hb dJL_compare_11 rfl (lv_at hl 1 rfl) ?_
    refine W.lcmp hx hb dJL_compare_12 ?_
    refine lv_topi (fun z12_1 ez12_1 => ?_)
    refine lv_if_ne (tgt := 20) hx hb dJL_compare_13 (by decide) (fun c13_1 => ?_) (fun c13_1 => ?_)
    · have t13_2 := (l_ne ez12_1 c13_1)
      refine lv_iconst (v := 1) hx hb dJL_compare_20 (by decide) ?_
      exact endq_i hQ hx hb hr hlocks dJL_compare_21 rfl () (rg_w (show rg (1 : Int32) 1 1 from rg_l (by decide)) (by decide)) hP hD hS [] rfl (by decide) rfl (Nat.le_of_ble_eq_true rfl) (Nat.le_of_ble_eq_true rfl)
    · have t13_2 := (l_eq ez12_1 c13_1)
      refine lv_iconst (v := 0) hx hb dJL_compare_16 (by decide) ?_
      refine lv_goto (tgt := 21) hx hb dJL_compare_17 (by decide) ?_
      exact endq_i hQ hx hb hr hlocks dJL_compare_21 rfl () (rg_w (show rg (0 : Int32) 0 0 from rg_l (by decide)) (by decide)) hP hD hS [] rfl (by decide) rfl (Nat.le_of_ble_eq_true rfl) (Nat.le_of_ble_eq_true rfl)
  · have t3_2 := (l_nge ez2_1 c3_1)
    have r3_3 : rl v0 (-9223372036854775808) 9223372036854775806 := rl_ltA t3_2 (rl_any v0) (rl_any v1) (by decide)
    have r3_4 : rl v1 (-9223372036854775807) 9223372036854775807 := rl_ltB t3_2 (rl_any v0) (rl_any v1) (by decide)
    refine lv_iconst (v := (-1)) hx hb dJL_compare_6 (by decide) ?_
    refine lv_goto (tgt := 21) hx hb dJL_compare_7 (by decide) ?_
    exact endq_i hQ hx hb hr hlocks dJL_compare_21 rfl () (rg_w (show rg ((-1) : Int32) (-1) (-1) from rg_l (by decide)) (by decide)) hP hD hS [] rfl (by decide) rfl (Nat.le_of_ble_eq_true rfl) (Nat.le_of_ble_eq_true rfl)
set_option maxHeartbeats 2000000 in
theorem c_JI_compare (l : Launch) (D : va_G) (ct : Nat → ClassId) (v0 : Int32) (v1 : Int32)  : KI (S := Unit) l yJI_compare cJI_compare 2 (some .int) 1 20 D ct [.int v0, .int v1] [] 0 0 (fun (r : Int32) (_ : Unit) => rg r (-1) 1) (fun (_ : Unit) => []) := by
  refine KIq_of (by decide) (Nat.le_of_ble_eq_true rfl) (fun p e s m below meth c A Q C0 hA H locs hS hP hD hQ ls hl => ?_)
  obtain ⟨hx, hb, hr, hown, hin, hml, hlocks, hn, hK, hZ, hSK⟩ := C0
  have hl : lv_has ls 2 [(0, .int v0), (1, .int v1)] := hl
  refine lv_iload_n hx hb dJI_compare_0 rfl (lv_at hl 0 rfl) ?_
  refine lv_iload_n hx hb dJI_compare_1 rfl (lv_at hl 1 rfl) ?_
  refine lv_icmp_ge (tgt := 9) hx hb dJI_compare_2 (by decide) (fun c2_1 => ?_) (fun c2_1 => ?_)
  · have t2_2 := (i_le c2_1)
    refine lv_iload_n hx hb dJI_compare_9 rfl (lv_at hl 0 rfl) ?_
    refine lv_iload_n hx hb dJI_compare_10 rfl (lv_at hl 1 rfl) ?_
    refine lv_icmp_ne (tgt := 18) hx hb dJI_compare_11 (by decide) (fun c11_1 => ?_) (fun c11_1 => ?_)
    · have t11_2 := (i_ne c11_1)
      refine lv_iconst (v := 1) hx hb dJI_compare_18 (by decide) ?_
      exact endq_i hQ hx hb hr hlocks dJI_compare_19 rfl () (rg_w (show rg (1 : Int32) 1 1 from rg_l (by decide)) (by decide)) hP hD hS [] rfl (by decide) rfl (Nat.le_of_ble_eq_true rfl) (Nat.le_of_ble_eq_true rfl)
    · have t11_2 := (i_eq c11_1)
      refine lv_iconst (v := 0) hx hb dJI_compare_14 (by decide) ?_
      refine lv_goto (tgt := 19) hx hb dJI_compare_15 (by decide) ?_
      exact endq_i hQ hx hb hr hlocks dJI_compare_19 rfl () (rg_w (show rg (0 : Int32) 0 0 from rg_l (by decide)) (by decide)) hP hD hS [] rfl (by decide) rfl (Nat.le_of_ble_eq_true rfl) (Nat.le_of_ble_eq_true rfl)
  · have t2_2 := (i_nle c2_1)
    have r2_3 : rg v0 (-2147483648) 2147483646 := rg_ltA t2_2 (rg_any v0) (rg_any v1) (by decide)
    have r2_4 : rg v1 (-2147483647) 2147483647 := rg_ltB t2_2 (rg_any v0) (rg_any v1) (by decide)
    refine lv_iconst (v := (-1)) hx hb dJI_compare_5 (by decide) ?_
    refine lv_goto (tgt := 19) hx hb dJI_compare_6 (by decide) ?_
    exact endq_i hQ hx hb hr hlocks dJI_compare_19 rfl () (rg_w (show rg ((-1) : Int32) (-1) (-1) from rg_l (by decide)) (by decide)) hP hD hS [] rfl (by decide) rfl (Nat.le_of_ble_eq_true rfl) (Nat.le_of_ble_eq_true rfl)
set_option maxHeartbeats 2000000 in
theorem c_JL_compareUnsigned (l : Launch) (D : va_G) (ct : Nat → ClassId) (v0 : Int64) (v1 : Int64)  : KI (S := Unit) l yJL_compareUnsigned cJL_compareUnsigned 4 (some .int) 2 43 D ct [.long v0, .long v1] [] 0 0 (fun (r : Int32) (_ : Unit) => rg r (-1) 1) (fun (_ : Unit) => []) := by
  refine KIq_of (by decide) (Nat.le_of_ble_eq_true rfl) (fun p e s m below meth c A Q C0 hA H locs hS hP hD hQ ls hl => ?_)
  obtain ⟨hx, hb, hr, hown, hin, hml, hlocks, hn, hK, hZ, hSK⟩ := C0
  have hl : lv_has ls 4 [(0, .long v0), (2, .long v1)] := hl
  refine lv_lload_n hx hb dJL_compareUnsigned_0 rfl (lv_at hl 0 rfl) ?_
  refine lv_ldc2 (v := (-9223372036854775808)) hx hb hown (hn.get mw_2371 rfl) dJL_compareUnsigned_1 ?_
  refine lv_ladd hx hb dJL_compareUnsigned_4 ?_
  refine lv_topl (fun z4_1 ez4_1 => ?_)
  refine lv_lload_n hx hb dJL_compareUnsigned_5 rfl (lv_at hl 1 rfl) ?_
  refine lv_ldc2 (v := (-9223372036854775808)) hx hb hown (hn.get mw_2371 rfl) dJL_compareUnsigned_6 ?_
  refine lv_ladd hx hb dJL_compareUnsigned_9 ?_
  refine lv_topl (fun z9_1 ez9_1 => ?_)
  refine go_i (k1 := 0) (n1 := 0) (wr := []) [] [] (rn_S (As := [.long z4_1, .long z9_1]) (rest := []) (c_JL_compare l D ct z4_1 z9_1  _) (cb_of (n := 2) hn mw_2374 mw_25 mw_2372 mhJL_compare ⟨(Nat.le_of_ble_eq_true rfl), (Nat.le_of_ble_eq_true rfl)⟩) hx hb hml hown hn hK hSK hZ hS mw_2373 rfl hl.1 (Nat.le_of_ble_eq_true rfl) dJL_compareUnsigned_10 ⟨(Nat.le_of_ble_eq_true rfl), (Nat.le_of_ble_eq_true rfl)⟩) hP hD hS hA rfl rfl (by decide) (by decide) (by decide) (Nat.le_of_ble_eq_true rfl) (Nat.le_of_ble_eq_true rfl) (fun r10_1 u10_2 H locs hp10_3 hP hD hS => ?_)
  have hp10_4 := hp10_3
  have hp10_4 : rg r10_1 (-1) 1 := hp10_4
  have hP : va_P D vwCl [] _ := hP
  have hD : va_D A [] := hD
  exact endq_i hQ hx hb hr hlocks dJL_compareUnsigned_13 rfl () hp10_4 hP hD hS [] rfl (by decide) rfl (Nat.le_of_ble_eq_true rfl) (Nat.le_of_ble_eq_true rfl)
set_option maxHeartbeats 2000000 in
theorem c_JI_toUnsignedLong (l : Launch) (D : va_G) (ct : Nat → ClassId) (v0 : Int32)  : KL (S := Unit) l yJI_toUnsignedLong cJI_toUnsignedLong 1 (some .long) 1 20 D ct [.int v0] [] 0 0 (fun (r : Int64) (_ : Unit) => rl r 0 4294967295 ∧ (r.toInt = v0.toInt % 4294967296)) (fun (_ : Unit) => []) := by
  refine KLq_of (by decide) (Nat.le_of_ble_eq_true rfl) (fun p e s m below meth c A Q C0 hA H locs hS hP hD hQ ls hl => ?_)
  obtain ⟨hx, hb, hr, hown, hin, hml, hlocks, hn, hK, hZ, hSK⟩ := C0
  have hl : lv_has ls 1 [(0, .int v0)] := hl
  refine lv_iload_n hx hb dJI_toUnsignedLong_0 rfl (lv_at hl 0 rfl) ?_
  refine lv_i2l hx hb dJI_toUnsignedLong_1 rfl ?_
  refine lv_topl (fun z1_1 ez1_1 => ?_)
  have r1_2 : rl z1_1 (-2147483648) 2147483647 := rl_i2l ez1_1 (rg_any v0)
  refine lv_ldc2 (v := 4294967295) hx hb hown (hn.get mw_2728 rfl) dJI_toUnsignedLong_2 ?_
  refine lv_land hx hb dJI_toUnsignedLong_5 ?_
  refine lv_topl (fun z5_1 ez5_1 => ?_)
  have r5_2 : rl z5_1 0 4294967295 := rgL_andr ez5_1 (show rl (4294967295 : Int64) 4294967295 4294967295 from rl_l (by decide)) (by decide)
  exact endq_l hQ hx hb hr hlocks dJI_toUnsignedLong_6 () ⟨r5_2, (show z5_1.toInt = v0.toInt % 4294967296 by have q0 := (rg_any v0).1; have q1 := (rg_any v0).2; have q2 := r5_2.1; have q3 := r5_2.2; have q4 := (eqL_and (c := 4294967296) (k := 32) ez5_1 (by decide) (by decide)); have q5 := r1_2.1; have q6 := r1_2.2; have q7 := (eq_i2l ez1_1); omega)⟩ hP hD hS [] rfl (by decide) rfl (Nat.le_of_ble_eq_true rfl) (Nat.le_of_ble_eq_true rfl)
set_option maxHeartbeats 2000000 in
theorem c_JL_divideUnsigned (l : Launch) (D : va_G) (ct : Nat → ClassId) (v0 : Int64) (v1 : Int64) (hq0 : v1.toInt ≠ 0) : KL (S := Unit) l yJL_divideUnsigned cJL_divideUnsigned 8 (some .long) 1 20 D ct [.long v0, .long v1] [] 0 0 (fun (r : Int64) (_ : Unit) => True) (fun (_ : Unit) => []) := by
  refine KLq_of (by decide) (Nat.le_of_ble_eq_true rfl) (fun p e s m below meth c A Q C0 hA H locs hS hP hD hQ ls hl => ?_)
  obtain ⟨hx, hb, hr, hown, hin, hml, hlocks, hn, hK, hZ, hSK⟩ := C0
  have hl : lv_has ls 8 [(0, .long v0), (2, .long v1)] := hl
  refine lv_lload_n hx hb dJL_divideUnsigned_0 rfl (lv_at hl 1 rfl) ?_
  refine lv_lconst (v := 0) hx hb dJL_divideUnsigned_1 (by decide) ?_
  refine W.lcmp hx hb dJL_divideUnsigned_2 ?_
  refine lv_topi (fun z2_1 ez2_1 => ?_)
  refine lv_if_lt (tgt := 41) hx hb dJL_divideUnsigned_3 (by decide) (fun c3_1 => ?_) (fun c3_1 => ?_)
  · have t3_2 := (l_lt ez2_1 c3_1)
    have r3_3 : rl v1 (-9223372036854775808) (-1) := rl_ltA t3_2 (rl_any v1) (show rl (0 : Int64) 0 0 from rl_l (by decide)) (by decide)
    refine lv_lload_n hx hb dJL_divideUnsigned_41 rfl (lv_at hl 0 rfl) ?_
    refine lv_lload_n hx hb dJL_divideUnsigned_42 rfl (lv_at hl 0 rfl) ?_
    refine lv_lload_n hx hb dJL_divideUnsigned_43 rfl (lv_at hl 1 rfl) ?_
    refine lv_lsub hx hb dJL_divideUnsigned_44 ?_
    refine lv_topl (fun z44_1 ez44_1 => ?_)
    refine lv_ldc2 (v := (-1)) hx hb hown (hn.get mw_2360 rfl) dJL_divideUnsigned_45 ?_
    refine lv_lxor hx hb dJL_divideUnsigned_48 ?_
    refine lv_topl (fun z48_1 ez48_1 => ?_)
    refine lv_land hx hb dJL_divideUnsigned_49 ?_
    refine lv_topl (fun z49_1 ez49_1 => ?_)
    refine lv_bipush (v := 63) hx hb dJL_divideUnsigned_50 (by decide) ?_
    refine lv_lushr hx hb dJL_divideUnsigned_52 rfl ?_
    refine lv_topl (fun z52_1 ez52_1 => ?_)
    exact endq_l hQ hx hb hr hlocks dJL_divideUnsigned_53 () trivial hP hD hS [] rfl (by decide) rfl (Nat.le_of_ble_eq_true rfl) (Nat.le_of_ble_eq_true rfl)
  · have t3_2 := (l_nlt ez2_1 c3_1)
    have r3_3 : rl v1 0 9223372036854775807 := rl_leB t3_2 (show rl (0 : Int64) 0 0 from rl_l (by decide)) (rl_any v1) (by decide)
    refine lv_lload_n hx hb dJL_divideUnsigned_6 rfl (lv_at hl 0 rfl) ?_
    refine lv_iconst (v := 1) hx hb dJL_divideUnsigned_7 (by decide) ?_
    refine lv_lushr hx hb dJL_divideUnsigned_8 rfl ?_
    refine lv_topl (fun z8_1 ez8_1 => ?_)
    refine lv_lload_n hx hb dJL_divideUnsigned_9 rfl (lv_at hl 1 rfl) ?_
    refine lv_ldiv hx hb dJL_divideUnsigned_10 (rl_nz (show v1.toInt ≠ 0 by have q0 := r3_3.1; have q1 := r3_3.2; have q2 := (show rl (0 : Int64) 0 0 from rl_l (by decide)).1; have q3 := (show rl (0 : Int64) 0 0 from rl_l (by decide)).2; have q4 := hq0; have q5 := t3_2; omega)) ?_
    refine lv_topl (fun z10_1 ez10_1 => ?_)
    refine lv_iconst (v := 1) hx hb dJL_divideUnsigned_11 (by decide) ?_
    refine lv_lshl hx hb dJL_divideUnsigned_12 rfl ?_
    refine lv_topl (fun z12_1 ez12_1 => ?_)
    refine lv_lstore (lv' := [(4, .long z12_1), (0, .long v0), (2, .long v1)]) hx hb dJL_divideUnsigned_13 hl (by decide) rfl (fun ls hl => ?_)
    refine lv_lload_n hx hb dJL_divideUnsigned_15 rfl (lv_at hl 1 rfl) ?_
    refine lv_lload hx hb dJL_divideUnsigned_16 (lv_at hl 0 rfl) ?_
    refine lv_lload_n hx hb dJL_divideUnsigned_18 rfl (lv_at hl 2 rfl) ?_
    refine lv_lmul hx hb dJL_divideUnsigned_19 ?_
    refine lv_topl (fun z19_1 ez19_1 => ?_)
    refine lv_lsub hx hb dJL_divideUnsigned_20 ?_
    refine lv_topl (fun z20_1 ez20_1 => ?_)
    refine lv_lstore (lv' := [(6, .long z20_1), (4, .long z12_1), (0, .long v0), (2, .long v1)]) hx hb dJL_divideUnsigned_21 hl (by decide) rfl (fun ls hl => ?_)
    refine lv_lload hx hb dJL_divideUnsigned_23 (lv_at hl 1 rfl) ?_
    refine lv_lload hx hb dJL_divideUnsigned_25 (lv_at hl 0 rfl) ?_
    refine lv_lload hx hb dJL_divideUnsigned_27 (lv_at hl 0 rfl) ?_
    refine lv_lload_n hx hb dJL_divideUnsigned_29 rfl (lv_at hl 3 rfl) ?_
    refine lv_lsub hx hb dJL_divideUnsigned_30 ?_
    refine lv_topl (fun z30_1 ez30_1 => ?_)
    refine lv_ldc2 (v := (-1)) hx hb hown (hn.get mw_2360 rfl) dJL_divideUnsigned_31 ?_
    refine lv_lxor hx hb dJL_divideUnsigned_34 ?_
    refine lv_topl (fun z34_1 ez34_1 => ?_)
    refine lv_lor hx hb dJL_divideUnsigned_35 ?_
    refine lv_topl (fun z35_1 ez35_1 => ?_)
    refine lv_bipush (v := 63) hx hb dJL_divideUnsigned_36 (by decide) ?_
    refine lv_lushr hx hb dJL_divideUnsigned_38 rfl ?_
    refine lv_topl (fun z38_1 ez38_1 => ?_)
    refine lv_ladd hx hb dJL_divideUnsigned_39 ?_
    refine lv_topl (fun z39_1 ez39_1 => ?_)
    exact endq_l hQ hx hb hr hlocks dJL_divideUnsigned_40 () trivial hP hD hS [] rfl (by decide) rfl (Nat.le_of_ble_eq_true rfl) (Nat.le_of_ble_eq_true rfl)
set_option maxHeartbeats 2000000 in
theorem c_JL_remainderUnsigned (l : Launch) (D : va_G) (ct : Nat → ClassId) (v0 : Int64) (v1 : Int64) (hq0 : v1.toInt ≠ 0) : KL (S := Unit) l yJL_remainderUnsigned cJL_remainderUnsigned 8 (some .long) 1 20 D ct [.long v0, .long v1] [] 0 0 (fun (r : Int64) (_ : Unit) => True) (fun (_ : Unit) => []) := by
  refine KLq_of (by decide) (Nat.le_of_ble_eq_true rfl) (fun p e s m below meth c A Q C0 hA H locs hS hP hD hQ ls hl => ?_)
  obtain ⟨hx, hb, hr, hown, hin, hml, hlocks, hn, hK, hZ, hSK⟩ := C0
  have hl : lv_has ls 8 [(0, .long v0), (2, .long v1)] := hl
  refine lv_lload_n hx hb dJL_remainderUnsigned_0 rfl (lv_at hl 1 rfl) ?_
  refine lv_lconst (v := 0) hx hb dJL_remainderUnsigned_1 (by decide) ?_
  refine W.lcmp hx hb dJL_remainderUnsigned_2 ?_
  refine lv_topi (fun z2_1 ez2_1 => ?_)
  refine lv_if_lt (tgt := 40) hx hb dJL_remainderUnsigned_3 (by decide) (fun c3_1 => ?_) (fun c3_1 => ?_)
  · have t3_2 := (l_lt ez2_1 c3_1)
    have r3_3 : rl v1 (-9223372036854775808) (-1) := rl_ltA t3_2 (rl_any v1) (show rl (0 : Int64) 0 0 from rl_l (by decide)) (by decide)
    refine lv_lload_n hx hb dJL_remainderUnsigned_40 rfl (lv_at hl 0 rfl) ?_
    refine lv_lload_n hx hb dJL_remainderUnsigned_41 rfl (lv_at hl 0 rfl) ?_
    refine lv_lload_n hx hb dJL_remainderUnsigned_42 rfl (lv_at hl 0 rfl) ?_
    refine lv_lload_n hx hb dJL_remainderUnsigned_43 rfl (lv_at hl 1 rfl) ?_
    refine lv_lsub hx hb dJL_remainderUnsigned_44 ?_
    refine lv_topl (fun z44_1 ez44_1 => ?_)
    refine lv_ldc2 (v := (-1)) hx hb hown (hn.get mw_2360 rfl) dJL_remainderUnsigned_45 ?_
    refine lv_lxor hx hb dJL_remainderUnsigned_48 ?_
    refine lv_topl (fun z48_1 ez48_1 => ?_)
    refine lv_land hx hb dJL_remainderUnsigned_49 ?_
    refine lv_topl (fun z49_1 ez49_1 => ?_)
    refine lv_bipush (v := 63) hx hb dJL_remainderUnsigned_50 (by decide) ?_
    refine lv_lshr hx hb dJL_remainderUnsigned_52 rfl ?_
    refine lv_topl (fun z52_1 ez52_1 => ?_)
    refine lv_lload_n hx hb dJL_remainderUnsigned_53 rfl (lv_at hl 1 rfl) ?_
    refine lv_land hx hb dJL_remainderUnsigned_54 ?_
    refine lv_topl (fun z54_1 ez54_1 => ?_)
    refine lv_lsub hx hb dJL_remainderUnsigned_55 ?_
    refine lv_topl (fun z55_1 ez55_1 => ?_)
    exact endq_l hQ hx hb hr hlocks dJL_remainderUnsigned_56 () trivial hP hD hS [] rfl (by decide) rfl (Nat.le_of_ble_eq_true rfl) (Nat.le_of_ble_eq_true rfl)
  · have t3_2 := (l_nlt ez2_1 c3_1)
    have r3_3 : rl v1 0 9223372036854775807 := rl_leB t3_2 (show rl (0 : Int64) 0 0 from rl_l (by decide)) (rl_any v1) (by decide)
    refine lv_lload_n hx hb dJL_remainderUnsigned_6 rfl (lv_at hl 0 rfl) ?_
    refine lv_iconst (v := 1) hx hb dJL_remainderUnsigned_7 (by decide) ?_
    refine lv_lushr hx hb dJL_remainderUnsigned_8 rfl ?_
    refine lv_topl (fun z8_1 ez8_1 => ?_)
    refine lv_lload_n hx hb dJL_remainderUnsigned_9 rfl (lv_at hl 1 rfl) ?_
    refine lv_ldiv hx hb dJL_remainderUnsigned_10 (rl_nz (show v1.toInt ≠ 0 by have q0 := r3_3.1; have q1 := r3_3.2; have q2 := (show rl (0 : Int64) 0 0 from rl_l (by decide)).1; have q3 := (show rl (0 : Int64) 0 0 from rl_l (by decide)).2; have q4 := hq0; have q5 := t3_2; omega)) ?_
    refine lv_topl (fun z10_1 ez10_1 => ?_)
    refine lv_iconst (v := 1) hx hb dJL_remainderUnsigned_11 (by decide) ?_
    refine lv_lshl hx hb dJL_remainderUnsigned_12 rfl ?_
    refine lv_topl (fun z12_1 ez12_1 => ?_)
    refine lv_lstore (lv' := [(4, .long z12_1), (0, .long v0), (2, .long v1)]) hx hb dJL_remainderUnsigned_13 hl (by decide) rfl (fun ls hl => ?_)
    refine lv_lload_n hx hb dJL_remainderUnsigned_15 rfl (lv_at hl 1 rfl) ?_
    refine lv_lload hx hb dJL_remainderUnsigned_16 (lv_at hl 0 rfl) ?_
    refine lv_lload_n hx hb dJL_remainderUnsigned_18 rfl (lv_at hl 2 rfl) ?_
    refine lv_lmul hx hb dJL_remainderUnsigned_19 ?_
    refine lv_topl (fun z19_1 ez19_1 => ?_)
    refine lv_lsub hx hb dJL_remainderUnsigned_20 ?_
    refine lv_topl (fun z20_1 ez20_1 => ?_)
    refine lv_lstore (lv' := [(6, .long z20_1), (4, .long z12_1), (0, .long v0), (2, .long v1)]) hx hb dJL_remainderUnsigned_21 hl (by decide) rfl (fun ls hl => ?_)
    refine lv_lload hx hb dJL_remainderUnsigned_23 (lv_at hl 0 rfl) ?_
    refine lv_lload hx hb dJL_remainderUnsigned_25 (lv_at hl 0 rfl) ?_
    refine lv_lload_n hx hb dJL_remainderUnsigned_27 rfl (lv_at hl 3 rfl) ?_
    refine lv_lsub hx hb dJL_remainderUnsigned_28 ?_
    refine lv_topl (fun z28_1 ez28_1 => ?_)
    refine lv_ldc2 (v := (-1)) hx hb hown (hn.get mw_2360 rfl) dJL_remainderUnsigned_29 ?_
    refine lv_lxor hx hb dJL_remainderUnsigned_32 ?_
    refine lv_topl (fun z32_1 ez32_1 => ?_)
    refine lv_bipush (v := 63) hx hb dJL_remainderUnsigned_33 (by decide) ?_
    refine lv_lshr hx hb dJL_remainderUnsigned_35 rfl ?_
    refine lv_topl (fun z35_1 ez35_1 => ?_)
    refine lv_lload_n hx hb dJL_remainderUnsigned_36 rfl (lv_at hl 3 rfl) ?_
    refine lv_land hx hb dJL_remainderUnsigned_37 ?_
    refine lv_topl (fun z37_1 ez37_1 => ?_)
    have r37_2 : rl z37_1 0 9223372036854775807 := rgL_andr ez37_1 r3_3 (by decide)
    refine lv_lsub hx hb dJL_remainderUnsigned_38 ?_
    refine lv_topl (fun z38_1 ez38_1 => ?_)
    exact endq_l hQ hx hb hr hlocks dJL_remainderUnsigned_39 () trivial hP hD hS [] rfl (by decide) rfl (Nat.le_of_ble_eq_true rfl) (Nat.le_of_ble_eq_true rfl)
set_option maxHeartbeats 2000000 in
theorem c_JI_divideUnsigned (l : Launch) (D : va_G) (ct : Nat → ClassId) (v0 : Int32) (v1 : Int32) (hq0 : v1.toInt ≠ 0) : KI (S := Unit) l yJI_divideUnsigned cJI_divideUnsigned 2 (some .int) 2 40 D ct [.int v0, .int v1] [] 0 0 (fun (r : Int32) (_ : Unit) => True) (fun (_ : Unit) => []) := by
  refine KIq_of (by decide) (Nat.le_of_ble_eq_true rfl) (fun p e s m below meth c A Q C0 hA H locs hS hP hD hQ ls hl => ?_)
  obtain ⟨hx, hb, hr, hown, hin, hml, hlocks, hn, hK, hZ, hSK⟩ := C0
  have hl : lv_has ls 2 [(0, .int v0), (1, .int v1)] := hl
  refine lv_iload_n hx hb dJI_divideUnsigned_0 rfl (lv_at hl 0 rfl) ?_
  refine go_l (k1 := 0) (n1 := 0) (wr := []) [] [] (rn_S (As := [.int v0]) (rest := []) (c_JI_toUnsignedLong l D ct v0  _) (cb_of (n := 1) hn mw_2727 mw_26 mw_2725 mhJI_toUnsignedLong ⟨(Nat.le_of_ble_eq_true rfl), (Nat.le_of_ble_eq_true rfl)⟩) hx hb hml hown hn hK hSK hZ hS mw_2726 rfl hl.1 (Nat.le_of_ble_eq_true rfl) dJI_divideUnsigned_1 ⟨(Nat.le_of_ble_eq_true rfl), (Nat.le_of_ble_eq_true rfl)⟩) hP hD hS hA rfl rfl (by decide) (by decide) (by decide) (Nat.le_of_ble_eq_true rfl) (Nat.le_of_ble_eq_true rfl) (fun r1_1 u1_2 H locs hp1_3 hP hD hS => ?_)
  obtain ⟨hp1_4, hp1_5⟩ := hp1_3
  have hp1_4 : rl r1_1 0 4294967295 := hp1_4
  have hp1_5 : r1_1.toInt = v0.toInt % 4294967296 := hp1_5
  have hP : va_P D vwCl [] _ := hP
  have hD : va_D A [] := hD
  refine lv_iload_n hx hb dJI_divideUnsigned_4 rfl (lv_at hl 1 rfl) ?_
  refine go_l (k1 := 0) (n1 := 0) (wr := []) [] [] (rn_S (As := [.int v1]) (rest := [.long r1_1]) (c_JI_toUnsignedLong l D ct v1  _) (cb_of (n := 1) hn mw_2727 mw_26 mw_2725 mhJI_toUnsignedLong ⟨(Nat.le_of_ble_eq_true rfl), (Nat.le_of_ble_eq_true rfl)⟩) hx hb hml hown hn hK hSK hZ hS mw_2726 rfl hl.1 (Nat.le_of_ble_eq_true rfl) dJI_divideUnsigned_5 ⟨(Nat.le_of_ble_eq_true rfl), (Nat.le_of_ble_eq_true rfl)⟩) hP hD hS hA rfl rfl (by decide) (by decide) (by decide) (Nat.le_of_ble_eq_true rfl) (Nat.le_of_ble_eq_true rfl) (fun r5_1 u5_2 H locs hp5_3 hP hD hS => ?_)
  obtain ⟨hp5_4, hp5_5⟩ := hp5_3
  have hp5_4 : rl r5_1 0 4294967295 := hp5_4
  have hp5_5 : r5_1.toInt = v1.toInt % 4294967296 := hp5_5
  have hP : va_P D vwCl [] _ := hP
  have hD : va_D A [] := hD
  refine lv_ldiv hx hb dJI_divideUnsigned_8 (rl_nz (show r5_1.toInt ≠ 0 by have q0 := hp5_4.1; have q1 := hp5_4.2; have q2 := (rg_any v1).1; have q3 := (rg_any v1).2; have q4 := hq0; have q5 := hp5_5; omega)) ?_
  refine lv_topl (fun z8_1 ez8_1 => ?_)
  refine lv_l2i hx hb dJI_divideUnsigned_9 rfl ?_
  refine lv_topi (fun z9_1 ez9_1 => ?_)
  exact endq_i hQ hx hb hr hlocks dJI_divideUnsigned_10 rfl () trivial hP hD hS [] rfl (by decide) rfl (Nat.le_of_ble_eq_true rfl) (Nat.le_of_ble_eq_true rfl)
set_option maxHeartbeats 2000000 in
theorem c_JI_remainderUnsigned (l : Launch) (D : va_G) (ct : Nat → ClassId) (v0 : Int32) (v1 : Int32) (hq0 : v1.toInt ≠ 0) : KI (S := Unit) l yJI_remainderUnsigned cJI_remainderUnsigned 2 (some .int) 2 40 D ct [.int v0, .int v1] [] 0 0 (fun (r : Int32) (_ : Unit) => True) (fun (_ : Unit) => []) := by
  refine KIq_of (by decide) (Nat.le_of_ble_eq_true rfl) (fun p e s m below meth c A Q C0 hA H locs hS hP hD hQ ls hl => ?_)
  obtain ⟨hx, hb, hr, hown, hin, hml, hlocks, hn, hK, hZ, hSK⟩ := C0
  have hl : lv_has ls 2 [(0, .int v0), (1, .int v1)] := hl
  refine lv_iload_n hx hb dJI_remainderUnsigned_0 rfl (lv_at hl 0 rfl) ?_
  refine go_l (k1 := 0) (n1 := 0) (wr := []) [] [] (rn_S (As := [.int v0]) (rest := []) (c_JI_toUnsignedLong l D ct v0  _) (cb_of (n := 1) hn mw_2727 mw_26 mw_2725 mhJI_toUnsignedLong ⟨(Nat.le_of_ble_eq_true rfl), (Nat.le_of_ble_eq_true rfl)⟩) hx hb hml hown hn hK hSK hZ hS mw_2726 rfl hl.1 (Nat.le_of_ble_eq_true rfl) dJI_remainderUnsigned_1 ⟨(Nat.le_of_ble_eq_true rfl), (Nat.le_of_ble_eq_true rfl)⟩) hP hD hS hA rfl rfl (by decide) (by decide) (by decide) (Nat.le_of_ble_eq_true rfl) (Nat.le_of_ble_eq_true rfl) (fun r1_1 u1_2 H locs hp1_3 hP hD hS => ?_)
  obtain ⟨hp1_4, hp1_5⟩ := hp1_3
  have hp1_4 : rl r1_1 0 4294967295 := hp1_4
  have hp1_5 : r1_1.toInt = v0.toInt % 4294967296 := hp1_5
  have hP : va_P D vwCl [] _ := hP
  have hD : va_D A [] := hD
  refine lv_iload_n hx hb dJI_remainderUnsigned_4 rfl (lv_at hl 1 rfl) ?_
  refine go_l (k1 := 0) (n1 := 0) (wr := []) [] [] (rn_S (As := [.int v1]) (rest := [.long r1_1]) (c_JI_toUnsignedLong l D ct v1  _) (cb_of (n := 1) hn mw_2727 mw_26 mw_2725 mhJI_toUnsignedLong ⟨(Nat.le_of_ble_eq_true rfl), (Nat.le_of_ble_eq_true rfl)⟩) hx hb hml hown hn hK hSK hZ hS mw_2726 rfl hl.1 (Nat.le_of_ble_eq_true rfl) dJI_remainderUnsigned_5 ⟨(Nat.le_of_ble_eq_true rfl), (Nat.le_of_ble_eq_true rfl)⟩) hP hD hS hA rfl rfl (by decide) (by decide) (by decide) (Nat.le_of_ble_eq_true rfl) (Nat.le_of_ble_eq_true rfl) (fun r5_1 u5_2 H locs hp5_3 hP hD hS => ?_)
  obtain ⟨hp5_4, hp5_5⟩ := hp5_3
  have hp5_4 : rl r5_1 0 4294967295 := hp5_4
  have hp5_5 : r5_1.toInt = v1.toInt % 4294967296 := hp5_5
  have hP : va_P D vwCl [] _ := hP
  have hD : va_D A [] := hD
  refine lv_lrem hx hb dJI_remainderUnsigned_8 (rl_nz (show r5_1.toInt ≠ 0 by have q0 := hp5_4.1; have q1 := hp5_4.2; have q2 := (rg_any v1).1; have q3 := (rg_any v1).2; have q4 := hq0; have q5 := hp5_5; omega)) ?_
  refine lv_topl (fun z8_1 ez8_1 => ?_)
  refine lv_l2i hx hb dJI_remainderUnsigned_9 rfl ?_
  refine lv_topi (fun z9_1 ez9_1 => ?_)
  exact endq_i hQ hx hb hr hlocks dJI_remainderUnsigned_10 rfl () trivial hP hD hS [] rfl (by decide) rfl (Nat.le_of_ble_eq_true rfl) (Nat.le_of_ble_eq_true rfl)
set_option maxHeartbeats 2000000 in
theorem c_JI_numberOfLeadingZeros (l : Launch) (D : va_G) (ct : Nat → ClassId) (v0 : Int32)  : KI (S := Unit) l yJI_numberOfLeadingZeros cJI_numberOfLeadingZeros 2 (some .int) 1 20 D ct [.int v0] [] 0 0 (fun (r : Int32) (_ : Unit) => rg r (-2147483646) 32) (fun (_ : Unit) => []) := by
  refine KIq_of (by decide) (Nat.le_of_ble_eq_true rfl) (fun p e s m below meth c A Q C0 hA H locs hS hP hD hQ ls hl => ?_)
  obtain ⟨hx, hb, hr, hown, hin, hml, hlocks, hn, hK, hZ, hSK⟩ := C0
  have hl : lv_has ls 2 [(0, .int v0)] := hl
  refine lv_iload_n hx hb dJI_numberOfLeadingZeros_0 rfl (lv_at hl 0 rfl) ?_
  refine lv_if_gt (tgt := 15) hx hb dJI_numberOfLeadingZeros_1 (by decide) (fun c1_1 => ?_) (fun c1_1 => ?_)
  · have t1_2 := (i_lt c1_1)
    have r1_3 : rg v0 1 2147483647 := rg_ltB t1_2 (show rg (0 : Int32) 0 0 from rg_l (by decide)) (rg_any v0) (by decide)
    refine lv_bipush (v := 31) hx hb dJI_numberOfLeadingZeros_15 (by decide) ?_
    refine lv_istore_n (lv' := [(1, .int 31), (0, .int v0)]) hx hb dJI_numberOfLeadingZeros_17 rfl hl (by decide) rfl (fun ls hl => ?_)
    refine lv_iload_n hx hb dJI_numberOfLeadingZeros_18 rfl (lv_at hl 1 rfl) ?_
    refine lv_ldcw (v := 65536) hx hb hown (hn.get mw_2518 rfl) dJI_numberOfLeadingZeros_19 ?_
    have b33 : ∀ (j33_l0 : Int32) (j33_l1 : Int32) (H : Heap) (locs : List Loc) (ls : Array Slot), (rg j33_l0 0 65535) → (rg j33_l1 15 31) → lv_has ls 2 [(0, .int j33_l0), (1, .int j33_l1)] → va_P D vwCl [] H → va_D A [] → va_S A s.heap H locs → W p l e ({ frames := 1, cells := 0, slots := 0, locals := 20 }) s m [.int v0].toArray below meth c H locs 0 0 Q (F0 m 33 ls []) := by
      intro j33_l0 j33_l1 H locs ls r33_1001 r33_1002 hl hP hD hS
      refine lv_iload_n hx hb dJI_numberOfLeadingZeros_33 rfl (lv_at hl 0 rfl) ?_
      refine lv_sipush (v := 256) hx hb dJI_numberOfLeadingZeros_34 (by decide) ?_
      have b48 : ∀ (j48_l0 : Int32) (j48_l1 : Int32) (H : Heap) (locs : List Loc) (ls : Array Slot), (rg j48_l0 0 16777215) → (rg j48_l1 7 31) → lv_has ls 2 [(0, .int j48_l0), (1, .int j48_l1)] → va_P D vwCl [] H → va_D A [] → va_S A s.heap H locs → W p l e ({ frames := 1, cells := 0, slots := 0, locals := 20 }) s m [.int v0].toArray below meth c H locs 0 0 Q (F0 m 48 ls []) := by
        intro j48_l0 j48_l1 H locs ls r48_1001 r48_1002 hl hP hD hS
        refine lv_iload_n hx hb dJI_numberOfLeadingZeros_48 rfl (lv_at hl 0 rfl) ?_
        refine lv_bipush (v := 16) hx hb dJI_numberOfLeadingZeros_49 (by decide) ?_
        have b61 : ∀ (j61_l0 : Int32) (j61_l1 : Int32) (H : Heap) (locs : List Loc) (ls : Array Slot), (rg j61_l0 0 268435455) → (rg j61_l1 3 31) → lv_has ls 2 [(0, .int j61_l0), (1, .int j61_l1)] → va_P D vwCl [] H → va_D A [] → va_S A s.heap H locs → W p l e ({ frames := 1, cells := 0, slots := 0, locals := 20 }) s m [.int v0].toArray below meth c H locs 0 0 Q (F0 m 61 ls []) := by
          intro j61_l0 j61_l1 H locs ls r61_1001 r61_1002 hl hP hD hS
          refine lv_iload_n hx hb dJI_numberOfLeadingZeros_61 rfl (lv_at hl 0 rfl) ?_
          refine lv_iconst (v := 4) hx hb dJI_numberOfLeadingZeros_62 (by decide) ?_
          have b73 : ∀ (j73_l0 : Int32) (j73_l1 : Int32) (H : Heap) (locs : List Loc) (ls : Array Slot), (rg j73_l0 0 1073741823) → (rg j73_l1 1 31) → lv_has ls 2 [(0, .int j73_l0), (1, .int j73_l1)] → va_P D vwCl [] H → va_D A [] → va_S A s.heap H locs → W p l e ({ frames := 1, cells := 0, slots := 0, locals := 20 }) s m [.int v0].toArray below meth c H locs 0 0 Q (F0 m 73 ls []) := by
            intro j73_l0 j73_l1 H locs ls r73_1001 r73_1002 hl hP hD hS
            refine lv_iload_n hx hb dJI_numberOfLeadingZeros_73 rfl (lv_at hl 1 rfl) ?_
            refine lv_iload_n hx hb dJI_numberOfLeadingZeros_74 rfl (lv_at hl 0 rfl) ?_
            refine lv_iconst (v := 1) hx hb dJI_numberOfLeadingZeros_75 (by decide) ?_
            refine lv_iushr hx hb dJI_numberOfLeadingZeros_76 rfl ?_
            refine lv_topi (fun z76_1 ez76_1 => ?_)
            have r76_2 : rg z76_1 0 2147483647 := rg_ushr (k := 1) ez76_1 (by decide) (by decide)
            refine lv_isub hx hb dJI_numberOfLeadingZeros_77 ?_
            refine lv_topi (fun z77_1 ez77_1 => ?_)
            have r77_2 : rg z77_1 (-2147483646) 31 := rg_sub ez77_1 r73_1002 r76_2 (by decide)
            exact endq_i hQ hx hb hr hlocks dJI_numberOfLeadingZeros_78 rfl () (rg_w r77_2 (by decide)) hP hD hS [] rfl (by decide) rfl (Nat.le_of_ble_eq_true rfl) (Nat.le_of_ble_eq_true rfl)
          refine lv_icmp_lt (tgt := 73) hx hb dJI_numberOfLeadingZeros_63 (by decide) (fun c63_1 => ?_) (fun c63_1 => ?_)
          · have t63_2 := (i_lt c63_1)
            have r63_3 : rg j61_l0 0 3 := rg_ltA t63_2 r61_1001 (show rg (4 : Int32) 4 4 from rg_l (by decide)) (by decide)
            exact b73 j61_l0 j61_l1 H locs ls (rg_w r63_3 (by decide)) (rg_w r61_1002 (by decide)) (lv_sub hl [0, 1] rfl) hP hD hS
          · have t63_2 := (i_nlt c63_1)
            have r63_3 : rg j61_l0 4 268435455 := rg_leB t63_2 (show rg (4 : Int32) 4 4 from rg_l (by decide)) r61_1001 (by decide)
            obtain ⟨x66_1, ex66_1⟩ : ∃ z : Int32, z = j61_l1 + (-2) := ⟨_, rfl⟩
            have r66_2 : rg x66_1 1 29 := rg_add ex66_1 r61_1002 (show rg ((-2) : Int32) (-2) (-2) from rg_l (by decide)) (by decide)
            refine lv_iinc (v := x66_1) (lv' := [(1, .int x66_1), (0, .int j61_l0)]) hx hb dJI_numberOfLeadingZeros_66 hl (k := 1) rfl (by rw [ex66_1]; rfl) (by decide) rfl (fun ls hl => ?_)
            refine lv_iload_n hx hb dJI_numberOfLeadingZeros_69 rfl (lv_at hl 1 rfl) ?_
            refine lv_iconst (v := 2) hx hb dJI_numberOfLeadingZeros_70 (by decide) ?_
            refine lv_iushr hx hb dJI_numberOfLeadingZeros_71 rfl ?_
            refine lv_topi (fun z71_1 ez71_1 => ?_)
            have r71_2 : rg z71_1 0 1073741823 := rg_ushr (k := 2) ez71_1 (by decide) (by decide)
            refine lv_istore_n (lv' := [(0, .int z71_1), (1, .int x66_1)]) hx hb dJI_numberOfLeadingZeros_72 rfl hl (by decide) rfl (fun ls hl => ?_)
            exact b73 z71_1 x66_1 H locs ls r71_2 (rg_w r66_2 (by decide)) (lv_sub hl [0, 1] rfl) hP hD hS
        refine lv_icmp_lt (tgt := 61) hx hb dJI_numberOfLeadingZeros_51 (by decide) (fun c51_1 => ?_) (fun c51_1 => ?_)
        · have t51_2 := (i_lt c51_1)
          have r51_3 : rg j48_l0 0 15 := rg_ltA t51_2 r48_1001 (show rg (16 : Int32) 16 16 from rg_l (by decide)) (by decide)
          exact b61 j48_l0 j48_l1 H locs ls (rg_w r51_3 (by decide)) (rg_w r48_1002 (by decide)) (lv_sub hl [0, 1] rfl) hP hD hS
        · have t51_2 := (i_nlt c51_1)
          have r51_3 : rg j48_l0 16 16777215 := rg_leB t51_2 (show rg (16 : Int32) 16 16 from rg_l (by decide)) r48_1001 (by decide)
          obtain ⟨x54_1, ex54_1⟩ : ∃ z : Int32, z = j48_l1 + (-4) := ⟨_, rfl⟩
          have r54_2 : rg x54_1 3 27 := rg_add ex54_1 r48_1002 (show rg ((-4) : Int32) (-4) (-4) from rg_l (by decide)) (by decide)
          refine lv_iinc (v := x54_1) (lv' := [(1, .int x54_1), (0, .int j48_l0)]) hx hb dJI_numberOfLeadingZeros_54 hl (k := 1) rfl (by rw [ex54_1]; rfl) (by decide) rfl (fun ls hl => ?_)
          refine lv_iload_n hx hb dJI_numberOfLeadingZeros_57 rfl (lv_at hl 1 rfl) ?_
          refine lv_iconst (v := 4) hx hb dJI_numberOfLeadingZeros_58 (by decide) ?_
          refine lv_iushr hx hb dJI_numberOfLeadingZeros_59 rfl ?_
          refine lv_topi (fun z59_1 ez59_1 => ?_)
          have r59_2 : rg z59_1 0 268435455 := rg_ushr (k := 4) ez59_1 (by decide) (by decide)
          refine lv_istore_n (lv' := [(0, .int z59_1), (1, .int x54_1)]) hx hb dJI_numberOfLeadingZeros_60 rfl hl (by decide) rfl (fun ls hl => ?_)
          exact b61 z59_1 x54_1 H locs ls r59_2 (rg_w r54_2 (by decide)) (lv_sub hl [0, 1] rfl) hP hD hS
      refine lv_icmp_lt (tgt := 48) hx hb dJI_numberOfLeadingZeros_37 (by decide) (fun c37_1 => ?_) (fun c37_1 => ?_)
      · have t37_2 := (i_lt c37_1)
        have r37_3 : rg j33_l0 0 255 := rg_ltA t37_2 r33_1001 (show rg (256 : Int32) 256 256 from rg_l (by decide)) (by decide)
        exact b48 j33_l0 j33_l1 H locs ls (rg_w r37_3 (by decide)) (rg_w r33_1002 (by decide)) (lv_sub hl [0, 1] rfl) hP hD hS
      · have t37_2 := (i_nlt c37_1)
        have r37_3 : rg j33_l0 256 65535 := rg_leB t37_2 (show rg (256 : Int32) 256 256 from rg_l (by decide)) r33_1001 (by decide)
        obtain ⟨x40_1, ex40_1⟩ : ∃ z : Int32, z = j33_l1 + (-8) := ⟨_, rfl⟩
        have r40_2 : rg x40_1 7 23 := rg_add ex40_1 r33_1002 (show rg ((-8) : Int32) (-8) (-8) from rg_l (by decide)) (by decide)
        refine lv_iinc (v := x40_1) (lv' := [(1, .int x40_1), (0, .int j33_l0)]) hx hb dJI_numberOfLeadingZeros_40 hl (k := 1) rfl (by rw [ex40_1]; rfl) (by decide) rfl (fun ls hl => ?_)
        refine lv_iload_n hx hb dJI_numberOfLeadingZeros_43 rfl (lv_at hl 1 rfl) ?_
        refine lv_bipush (v := 8) hx hb dJI_numberOfLeadingZeros_44 (by decide) ?_
        refine lv_iushr hx hb dJI_numberOfLeadingZeros_46 rfl ?_
        refine lv_topi (fun z46_1 ez46_1 => ?_)
        have r46_2 : rg z46_1 0 16777215 := rg_ushr (k := 8) ez46_1 (by decide) (by decide)
        refine lv_istore_n (lv' := [(0, .int z46_1), (1, .int x40_1)]) hx hb dJI_numberOfLeadingZeros_47 rfl hl (by decide) rfl (fun ls hl => ?_)
        exact b48 z46_1 x40_1 H locs ls r46_2 (rg_w r40_2 (by decide)) (lv_sub hl [0, 1] rfl) hP hD hS
    refine lv_icmp_lt (tgt := 33) hx hb dJI_numberOfLeadingZeros_22 (by decide) (fun c22_1 => ?_) (fun c22_1 => ?_)
    · have t22_2 := (i_lt c22_1)
      have r22_3 : rg v0 1 65535 := rg_ltA t22_2 r1_3 (show rg (65536 : Int32) 65536 65536 from rg_l (by decide)) (by decide)
      exact b33 v0 (31 : Int32) H locs ls (rg_w r22_3 (by decide)) (rg_w (show rg (31 : Int32) 31 31 from rg_l (by decide)) (by decide)) (lv_sub hl [1, 0] rfl) hP hD hS
    · have t22_2 := (i_nlt c22_1)
      have r22_3 : rg v0 65536 2147483647 := rg_leB t22_2 (show rg (65536 : Int32) 65536 65536 from rg_l (by decide)) r1_3 (by decide)
      refine lv_iinc (v := 15) (lv' := [(1, .int 15), (0, .int v0)]) hx hb dJI_numberOfLeadingZeros_25 hl (k := 0) rfl (by decide) (by decide) rfl (fun ls hl => ?_)
      refine lv_iload_n hx hb dJI_numberOfLeadingZeros_28 rfl (lv_at hl 1 rfl) ?_
      refine lv_bipush (v := 16) hx hb dJI_numberOfLeadingZeros_29 (by decide) ?_
      refine lv_iushr hx hb dJI_numberOfLeadingZeros_31 rfl ?_
      refine lv_topi (fun z31_1 ez31_1 => ?_)
      have r31_2 : rg z31_1 0 65535 := rg_ushr (k := 16) ez31_1 (by decide) (by decide)
      refine lv_istore_n (lv' := [(0, .int z31_1), (1, .int 15)]) hx hb dJI_numberOfLeadingZeros_32 rfl hl (by decide) rfl (fun ls hl => ?_)
      exact b33 z31_1 (15 : Int32) H locs ls r31_2 (rg_w (show rg (15 : Int32) 15 15 from rg_l (by decide)) (by decide)) (lv_sub hl [0, 1] rfl) hP hD hS
  · have t1_2 := (i_nlt c1_1)
    have r1_3 : rg v0 (-2147483648) 0 := rg_leA t1_2 (rg_any v0) (show rg (0 : Int32) 0 0 from rg_l (by decide)) (by decide)
    refine lv_iload_n hx hb dJI_numberOfLeadingZeros_4 rfl (lv_at hl 0 rfl) ?_
    refine lv_if_ne (tgt := 13) hx hb dJI_numberOfLeadingZeros_5 (by decide) (fun c5_1 => ?_) (fun c5_1 => ?_)
    · have t5_2 := (i_ne c5_1)
      have r5_3 : rg v0 (-2147483648) (-1) := rg_neAh t5_2 r1_3 (show rg (0 : Int32) 0 0 from rg_l (by decide)) (by decide)
      refine lv_iconst (v := 0) hx hb dJI_numberOfLeadingZeros_13 (by decide) ?_
      exact endq_i hQ hx hb hr hlocks dJI_numberOfLeadingZeros_14 rfl () (rg_w (show rg (0 : Int32) 0 0 from rg_l (by decide)) (by decide)) hP hD hS [] rfl (by decide) rfl (Nat.le_of_ble_eq_true rfl) (Nat.le_of_ble_eq_true rfl)
    · have t5_2 := (i_eq c5_1)
      have r5_3 : rg v0 0 0 := rg_eqA t5_2 r1_3 (show rg (0 : Int32) 0 0 from rg_l (by decide)) (by decide)
      refine lv_bipush (v := 32) hx hb dJI_numberOfLeadingZeros_8 (by decide) ?_
      refine lv_goto (tgt := 14) hx hb dJI_numberOfLeadingZeros_10 (by decide) ?_
      exact endq_i hQ hx hb hr hlocks dJI_numberOfLeadingZeros_14 rfl () (rg_w (show rg (32 : Int32) 32 32 from rg_l (by decide)) (by decide)) hP hD hS [] rfl (by decide) rfl (Nat.le_of_ble_eq_true rfl) (Nat.le_of_ble_eq_true rfl)
set_option maxHeartbeats 2000000 in
theorem c_JL_numberOfLeadingZeros (l : Launch) (D : va_G) (ct : Nat → ClassId) (v0 : Int64)  : KI (S := Unit) l yJL_numberOfLeadingZeros cJL_numberOfLeadingZeros 3 (some .int) 2 41 D ct [.long v0] [] 0 0 (fun (r : Int32) (_ : Unit) => rg r (-2147483646) 64) (fun (_ : Unit) => []) := by
  refine KIq_of (by decide) (Nat.le_of_ble_eq_true rfl) (fun p e s m below meth c A Q C0 hA H locs hS hP hD hQ ls hl => ?_)
  obtain ⟨hx, hb, hr, hown, hin, hml, hlocks, hn, hK, hZ, hSK⟩ := C0
  have hl : lv_has ls 3 [(0, .long v0)] := hl
  refine lv_lload_n hx hb dJL_numberOfLeadingZeros_0 rfl (lv_at hl 0 rfl) ?_
  refine lv_bipush (v := 32) hx hb dJL_numberOfLeadingZeros_1 (by decide) ?_
  refine lv_lushr hx hb dJL_numberOfLeadingZeros_3 rfl ?_
  refine lv_topl (fun z3_1 ez3_1 => ?_)
  refine lv_l2i hx hb dJL_numberOfLeadingZeros_4 rfl ?_
  refine lv_topi (fun z4_1 ez4_1 => ?_)
  refine lv_istore_n (lv' := [(2, .int z4_1), (0, .long v0)]) hx hb dJL_numberOfLeadingZeros_5 rfl hl (by decide) rfl (fun ls hl => ?_)
  refine lv_iload_n hx hb dJL_numberOfLeadingZeros_6 rfl (lv_at hl 0 rfl) ?_
  refine lv_if_ne (tgt := 21) hx hb dJL_numberOfLeadingZeros_7 (by decide) (fun c7_1 => ?_) (fun c7_1 => ?_)
  · have t7_2 := (i_ne c7_1)
    refine lv_iload_n hx hb dJL_numberOfLeadingZeros_21 rfl (lv_at hl 0 rfl) ?_
    refine go_i (k1 := 0) (n1 := 0) (wr := []) [] [] (rn_S (As := [.int z4_1]) (rest := []) (c_JI_numberOfLeadingZeros l D ct z4_1  _) (cb_of (n := 1) hn mw_2517 mw_26 mw_2515 mhJI_numberOfLeadingZeros ⟨(Nat.le_of_ble_eq_true rfl), (Nat.le_of_ble_eq_true rfl)⟩) hx hb hml hown hn hK hSK hZ hS mw_2516 rfl hl.1 (Nat.le_of_ble_eq_true rfl) dJL_numberOfLeadingZeros_22 ⟨(Nat.le_of_ble_eq_true rfl), (Nat.le_of_ble_eq_true rfl)⟩) hP hD hS hA rfl rfl (by decide) (by decide) (by decide) (Nat.le_of_ble_eq_true rfl) (Nat.le_of_ble_eq_true rfl) (fun r22_1 u22_2 H locs hp22_3 hP hD hS => ?_)
    have hp22_4 := hp22_3
    have hp22_4 : rg r22_1 (-2147483646) 32 := hp22_4
    have hP : va_P D vwCl [] _ := hP
    have hD : va_D A [] := hD
    exact endq_i hQ hx hb hr hlocks dJL_numberOfLeadingZeros_25 rfl () (rg_w hp22_4 (by decide)) hP hD hS [] rfl (by decide) rfl (Nat.le_of_ble_eq_true rfl) (Nat.le_of_ble_eq_true rfl)
  · have t7_2 := (i_eq c7_1)
    have r7_3 : rg z4_1 0 0 := rg_eqA t7_2 (rg_any z4_1) (show rg (0 : Int32) 0 0 from rg_l (by decide)) (by decide)
    refine lv_bipush (v := 32) hx hb dJL_numberOfLeadingZeros_10 (by decide) ?_
    refine lv_lload_n hx hb dJL_numberOfLeadingZeros_12 rfl (lv_at hl 1 rfl) ?_
    refine lv_l2i hx hb dJL_numberOfLeadingZeros_13 rfl ?_
    refine lv_topi (fun z13_1 ez13_1 => ?_)
    refine go_i (k1 := 0) (n1 := 0) (wr := []) [] [] (rn_S (As := [.int z13_1]) (rest := [.int 32]) (c_JI_numberOfLeadingZeros l D ct z13_1  _) (cb_of (n := 1) hn mw_2517 mw_26 mw_2515 mhJI_numberOfLeadingZeros ⟨(Nat.le_of_ble_eq_true rfl), (Nat.le_of_ble_eq_true rfl)⟩) hx hb hml hown hn hK hSK hZ hS mw_2516 rfl hl.1 (Nat.le_of_ble_eq_true rfl) dJL_numberOfLeadingZeros_14 ⟨(Nat.le_of_ble_eq_true rfl), (Nat.le_of_ble_eq_true rfl)⟩) hP hD hS hA rfl rfl (by decide) (by decide) (by decide) (Nat.le_of_ble_eq_true rfl) (Nat.le_of_ble_eq_true rfl) (fun r14_1 u14_2 H locs hp14_3 hP hD hS => ?_)
    have hp14_4 := hp14_3
    have hp14_4 : rg r14_1 (-2147483646) 32 := hp14_4
    have hP : va_P D vwCl [] _ := hP
    have hD : va_D A [] := hD
    refine lv_iadd hx hb dJL_numberOfLeadingZeros_17 ?_
    refine lv_topi (fun z17_1 ez17_1 => ?_)
    have r17_2 : rg z17_1 (-2147483614) 64 := rg_add ez17_1 (show rg (32 : Int32) 32 32 from rg_l (by decide)) hp14_4 (by decide)
    refine lv_goto (tgt := 25) hx hb dJL_numberOfLeadingZeros_18 (by decide) ?_
    exact endq_i hQ hx hb hr hlocks dJL_numberOfLeadingZeros_25 rfl () (rg_w r17_2 (by decide)) hP hD hS [] rfl (by decide) rfl (Nat.le_of_ble_eq_true rfl) (Nat.le_of_ble_eq_true rfl)
