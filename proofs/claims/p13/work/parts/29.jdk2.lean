set_option maxHeartbeats 2000000 in
theorem c_JL_compare_mo (l : Launch) (D : va_G) (ct : Nat → ClassId) (v0 : Int64) (v1 : Int64)  : KI (S := Unit) l yJL_compare cJL_compare 4 (some .int) 1 20 D ct [.long v0, .long v1] [] 0 0 (fun (r : Int32) (_ : Unit) => rg r (-1) 1 ∧ (r.toInt < 0 → v0.toInt < v1.toInt) ∧ (r.toInt = 0 → v0.toInt = v1.toInt) ∧ (0 < r.toInt → v1.toInt < v0.toInt)) (fun (_ : Unit) => []) := by
  refine KIq_of (by decide) (Nat.le_of_ble_eq_true rfl) (fun p e s m below meth c A Q C0 hA H locs hS hP hD hQ ls hl => ?_)
  obtain ⟨hx, hb, hr, hown, hin, hml, hlocks, hn, hK, hZ, hSK⟩ := C0
  have hl : lv_has ls 4 [(0, .long v0), (2, .long v1)] := hl
  refine lv_lload_n hx hb dJL_compare_0 rfl (lv_at hl 0 rfl) ?_
  refine lv_lload_n hx hb dJL_compare_1 rfl (lv_at hl 1 rfl) ?_
  refine W.lcmp hx hb dJL_compare_2 ?_
  refine lv_topi (fun z2_1 ez2_1 => ?_)
  refine lv_if_ge (tgt := 10) hx hb dJL_compare_3 (by decide) (fun c3_1 => ?_) (fun c3_1 => ?_)
  · have t3_2 := (l_ge ez2_1 c3_1)
    refine lv_lload_n hx hb dJL_compare_10 rfl (lv_at hl 0 rfl) ?_
    refine lv_lload_n hx hb dJL_compare_11 rfl (lv_at hl 1 rfl) ?_
    refine W.lcmp hx hb dJL_compare_12 ?_
    refine lv_topi (fun z12_1 ez12_1 => ?_)
    refine lv_if_ne (tgt := 20) hx hb dJL_compare_13 (by decide) (fun c13_1 => ?_) (fun c13_1 => ?_)
    · have t13_2 := (l_ne ez12_1 c13_1)
      refine lv_iconst (v := 1) hx hb dJL_compare_20 (by decide) ?_
      exact endq_i hQ hx hb hr hlocks dJL_compare_21 rfl () ⟨(rg_w (show rg (1 : Int32) 1 1 from rg_l (by decide)) (by decide)), (show (1 : Int32).toInt < 0 → v0.toInt < v1.toInt by have q0 := (show (1 : Int32).toInt = 1 from by decide); omega), (show (1 : Int32).toInt = 0 → v0.toInt = v1.toInt by have q0 := (show (1 : Int32).toInt = 1 from by decide); omega), (show 0 < (1 : Int32).toInt → v1.toInt < v0.toInt by have q0 := t3_2; have q1 := t13_2; have q2 := (show (1 : Int32).toInt = 1 from by decide); omega)⟩ hP hD hS [] rfl (by decide) rfl (Nat.le_of_ble_eq_true rfl) (Nat.le_of_ble_eq_true rfl)
    · have t13_2 := (l_eq ez12_1 c13_1)
      refine lv_iconst (v := 0) hx hb dJL_compare_16 (by decide) ?_
      refine lv_goto (tgt := 21) hx hb dJL_compare_17 (by decide) ?_
      exact endq_i hQ hx hb hr hlocks dJL_compare_21 rfl () ⟨(rg_w (show rg (0 : Int32) 0 0 from rg_l (by decide)) (by decide)), (show (0 : Int32).toInt < 0 → v0.toInt < v1.toInt by have q0 := (show (0 : Int32).toInt = 0 from by decide); omega), (show (0 : Int32).toInt = 0 → v0.toInt = v1.toInt by have q0 := t3_2; have q1 := t13_2; have q2 := (show (0 : Int32).toInt = 0 from by decide); omega), (show 0 < (0 : Int32).toInt → v1.toInt < v0.toInt by have q0 := (show (0 : Int32).toInt = 0 from by decide); omega)⟩ hP hD hS [] rfl (by decide) rfl (Nat.le_of_ble_eq_true rfl) (Nat.le_of_ble_eq_true rfl)
  · have t3_2 := (l_nge ez2_1 c3_1)
    have r3_3 : rl v0 (-9223372036854775808) 9223372036854775806 := rl_ltA t3_2 (rl_any v0) (rl_any v1) (by decide)
    have r3_4 : rl v1 (-9223372036854775807) 9223372036854775807 := rl_ltB t3_2 (rl_any v0) (rl_any v1) (by decide)
    refine lv_iconst (v := (-1)) hx hb dJL_compare_6 (by decide) ?_
    refine lv_goto (tgt := 21) hx hb dJL_compare_7 (by decide) ?_
    exact endq_i hQ hx hb hr hlocks dJL_compare_21 rfl () ⟨(rg_w (show rg ((-1) : Int32) (-1) (-1) from rg_l (by decide)) (by decide)), (show (-1 : Int32).toInt < 0 → v0.toInt < v1.toInt by have q0 := t3_2; have q1 := (show (-1 : Int32).toInt = -1 from by decide); omega), (show (-1 : Int32).toInt = 0 → v0.toInt = v1.toInt by have q0 := (show (-1 : Int32).toInt = -1 from by decide); omega), (show 0 < (-1 : Int32).toInt → v1.toInt < v0.toInt by have q0 := (show (-1 : Int32).toInt = -1 from by decide); omega)⟩ hP hD hS [] rfl (by decide) rfl (Nat.le_of_ble_eq_true rfl) (Nat.le_of_ble_eq_true rfl)
set_option maxHeartbeats 2000000 in
theorem c_JL_compareUnsigned_mo (l : Launch) (D : va_G) (ct : Nat → ClassId) (v0 : Int64) (v1 : Int64)  : KI (S := Unit) l yJL_compareUnsigned cJL_compareUnsigned 4 (some .int) 2 43 D ct [.long v0, .long v1] [] 0 0 (fun (r : Int32) (_ : Unit) => rg r (-1) 1 ∧ (r.toInt < 0 → ((UN v0 : Nat) : Int) < ((UN v1 : Nat) : Int)) ∧ (r.toInt = 0 → ((UN v0 : Nat) : Int) = ((UN v1 : Nat) : Int)) ∧ (0 < r.toInt → ((UN v1 : Nat) : Int) < ((UN v0 : Nat) : Int))) (fun (_ : Unit) => []) := by
  refine KIq_of (by decide) (Nat.le_of_ble_eq_true rfl) (fun p e s m below meth c A Q C0 hA H locs hS hP hD hQ ls hl => ?_)
  obtain ⟨hx, hb, hr, hown, hin, hml, hlocks, hn, hK, hZ, hSK⟩ := C0
  have hl : lv_has ls 4 [(0, .long v0), (2, .long v1)] := hl
  refine lv_lload_n hx hb dJL_compareUnsigned_0 rfl (lv_at hl 0 rfl) ?_
  refine lv_ldc2 (v := (-9223372036854775808)) hx hb hown (hn.get mw_2371 rfl) dJL_compareUnsigned_1 ?_
  refine lv_ladd hx hb dJL_compareUnsigned_4 ?_
  refine lv_topl (fun z4_1 ez4_1 => ?_)
  refine lv_lload_n hx hb dJL_compareUnsigned_5 rfl (lv_at hl 1 rfl) ?_
  refine lv_ldc2 (v := (-9223372036854775808)) hx hb hown (hn.get mw_2371 rfl) dJL_compareUnsigned_6 ?_
  refine lv_ladd hx hb dJL_compareUnsigned_9 ?_
  refine lv_topl (fun z9_1 ez9_1 => ?_)
  refine go_i (k1 := 0) (n1 := 0) (wr := []) [] [] (rn_S (As := [.long z4_1, .long z9_1]) (rest := []) (c_JL_compare_mo l D ct z4_1 z9_1  _) (cb_of (n := 2) hn mw_2374 mw_25 mw_2372 mhJL_compare ⟨(Nat.le_of_ble_eq_true rfl), (Nat.le_of_ble_eq_true rfl)⟩) hx hb hml hown hn hK hSK hZ hS mw_2373 rfl hl.1 (Nat.le_of_ble_eq_true rfl) dJL_compareUnsigned_10 ⟨(Nat.le_of_ble_eq_true rfl), (Nat.le_of_ble_eq_true rfl)⟩) hP hD hS hA rfl rfl (by decide) (by decide) (by decide) (Nat.le_of_ble_eq_true rfl) (Nat.le_of_ble_eq_true rfl) (fun r10_1 u10_2 H locs hp10_3 hP hD hS => ?_)
  obtain ⟨hp10_4, hp10_5, hp10_6, hp10_7⟩ := hp10_3
  have hp10_4 : rg r10_1 (-1) 1 := hp10_4
  have hp10_5 : r10_1.toInt < 0 → z4_1.toInt < z9_1.toInt := hp10_5
  have hp10_6 : r10_1.toInt = 0 → z4_1.toInt = z9_1.toInt := hp10_6
  have hp10_7 : 0 < r10_1.toInt → z9_1.toInt < z4_1.toInt := hp10_7
  have hP : va_P D vwCl [] _ := hP
  have hD : va_D A [] := hD
  exact endq_i hQ hx hb hr hlocks dJL_compareUnsigned_13 rfl () ⟨hp10_4, (show r10_1.toInt < 0 → ((UN v0 : Nat) : Int) < ((UN v1 : Nat) : Int) by have q0 := (rl_any v1).1; have q1 := (rl_any v1).2; have q2 := (rl_any v0).1; have q3 := (rl_any v0).2; have q4 := hp10_4.1; have q5 := hp10_4.2; have q6 := (rl_any z9_1).1; have q7 := (rl_any z9_1).2; have q8 := (UN_flip ez9_1); have q9 := (rl_any z4_1).1; have q10 := (rl_any z4_1).2; have q11 := (UN_flip ez4_1); have q12 := hp10_5; have q13 := hp10_6; have q14 := hp10_7; omega), (show r10_1.toInt = 0 → ((UN v0 : Nat) : Int) = ((UN v1 : Nat) : Int) by have q0 := (rl_any v1).1; have q1 := (rl_any v1).2; have q2 := (rl_any v0).1; have q3 := (rl_any v0).2; have q4 := hp10_4.1; have q5 := hp10_4.2; have q6 := (rl_any z9_1).1; have q7 := (rl_any z9_1).2; have q8 := (UN_flip ez9_1); have q9 := (rl_any z4_1).1; have q10 := (rl_any z4_1).2; have q11 := (UN_flip ez4_1); have q12 := hp10_5; have q13 := hp10_6; have q14 := hp10_7; omega), (show 0 < r10_1.toInt → ((UN v1 : Nat) : Int) < ((UN v0 : Nat) : Int) by have q0 := (rl_any v0).1; have q1 := (rl_any v0).2; have q2 := (rl_any v1).1; have q3 := (rl_any v1).2; have q4 := hp10_4.1; have q5 := hp10_4.2; have q6 := (rl_any z9_1).1; have q7 := (rl_any z9_1).2; have q8 := (UN_flip ez9_1); have q9 := (rl_any z4_1).1; have q10 := (rl_any z4_1).2; have q11 := (UN_flip ez4_1); have q12 := hp10_5; have q13 := hp10_6; have q14 := hp10_7; omega)⟩ hP hD hS [] rfl (by decide) rfl (Nat.le_of_ble_eq_true rfl) (Nat.le_of_ble_eq_true rfl)
set_option maxHeartbeats 2000000 in
theorem c_JL_divideUnsigned_mo (l : Launch) (D : va_G) (ct : Nat → ClassId) (v0 : Int64) (v1 : Int64) (hq0 : v1.toInt ≠ 0) : KL (S := Unit) l yJL_divideUnsigned cJL_divideUnsigned 8 (some .long) 1 20 D ct [.long v0, .long v1] [] 0 0 (fun (r : Int64) (_ : Unit) => (UN r = UN v0 / UN v1)) (fun (_ : Unit) => []) := by
  refine KLq_of (by decide) (Nat.le_of_ble_eq_true rfl) (fun p e s m below meth c A Q C0 hA H locs hS hP hD hQ ls hl => ?_)
  obtain ⟨hx, hb, hr, hown, hin, hml, hlocks, hn, hK, hZ, hSK⟩ := C0
  have hl : lv_has ls 8 [(0, .long v0), (2, .long v1)] := hl
  refine lv_lload_n hx hb dJL_divideUnsigned_0 rfl (lv_at hl 1 rfl) ?_
  refine lv_lconst (v := 0) hx hb dJL_divideUnsigned_1 (by decide) ?_
  refine W.lcmp hx hb dJL_divideUnsigned_2 ?_
  refine lv_topi (fun z2_1 ez2_1 => ?_)
  refine lv_if_lt (tgt := 41) hx hb dJL_divideUnsigned_3 (by decide) (fun c3_1 => ?_) (fun c3_1 => ?_)
  · have t3_2 := (l_lt ez2_1 c3_1)
    have r3_3 : rl v1 (-9223372036854775808) (-1) := rl_ltA t3_2 (rl_any v1) (show rl (0 : Int64) 0 0 from rl_l (by decide)) (by decide)
    refine lv_lload_n hx hb dJL_divideUnsigned_41 rfl (lv_at hl 0 rfl) ?_
    refine lv_lload_n hx hb dJL_divideUnsigned_42 rfl (lv_at hl 0 rfl) ?_
    refine lv_lload_n hx hb dJL_divideUnsigned_43 rfl (lv_at hl 1 rfl) ?_
    refine lv_lsub hx hb dJL_divideUnsigned_44 ?_
    refine lv_topl (fun z44_1 ez44_1 => ?_)
    refine lv_ldc2 (v := (-1)) hx hb hown (hn.get mw_2360 rfl) dJL_divideUnsigned_45 ?_
    refine lv_lxor hx hb dJL_divideUnsigned_48 ?_
    refine lv_topl (fun z48_1 ez48_1 => ?_)
    refine lv_land hx hb dJL_divideUnsigned_49 ?_
    refine lv_topl (fun z49_1 ez49_1 => ?_)
    refine lv_bipush (v := 63) hx hb dJL_divideUnsigned_50 (by decide) ?_
    refine lv_lushr hx hb dJL_divideUnsigned_52 rfl ?_
    refine lv_topl (fun z52_1 ez52_1 => ?_)
    exact endq_l hQ hx hb hr hlocks dJL_divideUnsigned_53 () (du_neg (show v1.toInt < 0 by have q0 := r3_3.2; omega) ez44_1 ez48_1 ez49_1 ez52_1) hP hD hS [] rfl (by decide) rfl (Nat.le_of_ble_eq_true rfl) (Nat.le_of_ble_eq_true rfl)
  · have t3_2 := (l_nlt ez2_1 c3_1)
    have r3_3 : rl v1 0 9223372036854775807 := rl_leB t3_2 (show rl (0 : Int64) 0 0 from rl_l (by decide)) (rl_any v1) (by decide)
    refine lv_lload_n hx hb dJL_divideUnsigned_6 rfl (lv_at hl 0 rfl) ?_
    refine lv_iconst (v := 1) hx hb dJL_divideUnsigned_7 (by decide) ?_
    refine lv_lushr hx hb dJL_divideUnsigned_8 rfl ?_
    refine lv_topl (fun z8_1 ez8_1 => ?_)
    refine lv_lload_n hx hb dJL_divideUnsigned_9 rfl (lv_at hl 1 rfl) ?_
    refine lv_ldiv hx hb dJL_divideUnsigned_10 (rl_nz (show v1.toInt ≠ 0 by have q0 := r3_3.1; have q1 := hq0; omega)) ?_
    refine lv_topl (fun z10_1 ez10_1 => ?_)
    refine lv_iconst (v := 1) hx hb dJL_divideUnsigned_11 (by decide) ?_
    refine lv_lshl hx hb dJL_divideUnsigned_12 rfl ?_
    refine lv_topl (fun z12_1 ez12_1 => ?_)
    refine lv_lstore (lv' := [(4, .long z12_1), (0, .long v0), (2, .long v1)]) hx hb dJL_divideUnsigned_13 hl (by decide) rfl (fun ls hl => ?_)
    refine lv_lload_n hx hb dJL_divideUnsigned_15 rfl (lv_at hl 1 rfl) ?_
    refine lv_lload hx hb dJL_divideUnsigned_16 (lv_at hl 0 rfl) ?_
    refine lv_lload_n hx hb dJL_divideUnsigned_18 rfl (lv_at hl 2 rfl) ?_
    refine lv_lmul hx hb dJL_divideUnsigned_19 ?_
    refine lv_topl (fun z19_1 ez19_1 => ?_)
    refine lv_lsub hx hb dJL_divideUnsigned_20 ?_
    refine lv_topl (fun z20_1 ez20_1 => ?_)
    refine lv_lstore (lv' := [(6, .long z20_1), (4, .long z12_1), (0, .long v0), (2, .long v1)]) hx hb dJL_divideUnsigned_21 hl (by decide) rfl (fun ls hl => ?_)
    refine lv_lload hx hb dJL_divideUnsigned_23 (lv_at hl 1 rfl) ?_
    refine lv_lload hx hb dJL_divideUnsigned_25 (lv_at hl 0 rfl) ?_
    refine lv_lload hx hb dJL_divideUnsigned_27 (lv_at hl 0 rfl) ?_
    refine lv_lload_n hx hb dJL_divideUnsigned_29 rfl (lv_at hl 3 rfl) ?_
    refine lv_lsub hx hb dJL_divideUnsigned_30 ?_
    refine lv_topl (fun z30_1 ez30_1 => ?_)
    refine lv_ldc2 (v := (-1)) hx hb hown (hn.get mw_2360 rfl) dJL_divideUnsigned_31 ?_
    refine lv_lxor hx hb dJL_divideUnsigned_34 ?_
    refine lv_topl (fun z34_1 ez34_1 => ?_)
    refine lv_lor hx hb dJL_divideUnsigned_35 ?_
    refine lv_topl (fun z35_1 ez35_1 => ?_)
    refine lv_bipush (v := 63) hx hb dJL_divideUnsigned_36 (by decide) ?_
    refine lv_lushr hx hb dJL_divideUnsigned_38 rfl ?_
    refine lv_topl (fun z38_1 ez38_1 => ?_)
    refine lv_ladd hx hb dJL_divideUnsigned_39 ?_
    refine lv_topl (fun z39_1 ez39_1 => ?_)
    exact endq_l hQ hx hb hr hlocks dJL_divideUnsigned_40 () (du_pos (show 0 < v1.toInt by have q0 := r3_3.1; have q1 := hq0; omega) ez8_1 ez10_1 ez12_1 ez19_1 ez20_1 ez30_1 ez34_1 ez35_1 ez38_1 ez39_1) hP hD hS [] rfl (by decide) rfl (Nat.le_of_ble_eq_true rfl) (Nat.le_of_ble_eq_true rfl)
set_option maxHeartbeats 2000000 in
theorem c_JI_numberOfLeadingZeros_mo (l : Launch) (D : va_G) (ct : Nat → ClassId) (v0 : Int32)  : KI (S := Unit) l yJI_numberOfLeadingZeros cJI_numberOfLeadingZeros 2 (some .int) 1 20 D ct [.int v0] [] 0 0 (fun (r : Int32) (_ : Unit) => rg r 0 32 ∧ (NI (v0.toInt) (r.toInt))) (fun (_ : Unit) => []) := by
  refine KIq_of (by decide) (Nat.le_of_ble_eq_true rfl) (fun p e s m below meth c A Q C0 hA H locs hS hP hD hQ ls hl => ?_)
  obtain ⟨hx, hb, hr, hown, hin, hml, hlocks, hn, hK, hZ, hSK⟩ := C0
  have hl : lv_has ls 2 [(0, .int v0)] := hl
  refine lv_iload_n hx hb dJI_numberOfLeadingZeros_0 rfl (lv_at hl 0 rfl) ?_
  refine lv_if_gt (tgt := 15) hx hb dJI_numberOfLeadingZeros_1 (by decide) (fun c1_1 => ?_) (fun c1_1 => ?_)
  · have t1_2 := (i_lt c1_1)
    have r1_3 : rg v0 1 2147483647 := rg_ltB t1_2 (show rg (0 : Int32) 0 0 from rg_l (by decide)) (rg_any v0) (by decide)
    refine lv_bipush (v := 31) hx hb dJI_numberOfLeadingZeros_15 (by decide) ?_
    refine lv_istore_n (lv' := [(1, .int 31), (0, .int v0)]) hx hb dJI_numberOfLeadingZeros_17 rfl hl (by decide) rfl (fun ls hl => ?_)
    refine lv_iload_n hx hb dJI_numberOfLeadingZeros_18 rfl (lv_at hl 1 rfl) ?_
    refine lv_ldcw (v := 65536) hx hb hown (hn.get mw_2518 rfl) dJI_numberOfLeadingZeros_19 ?_
    refine lv_icmp_lt (tgt := 33) hx hb dJI_numberOfLeadingZeros_22 (by decide) (fun c22_1 => ?_) (fun c22_1 => ?_)
    · have t22_2 := (i_lt c22_1)
      have r22_3 : rg v0 1 65535 := rg_ltA t22_2 r1_3 (show rg (65536 : Int32) 65536 65536 from rg_l (by decide)) (by decide)
      refine lv_iload_n hx hb dJI_numberOfLeadingZeros_33 rfl (lv_at hl 1 rfl) ?_
      refine lv_sipush (v := 256) hx hb dJI_numberOfLeadingZeros_34 (by decide) ?_
      refine lv_icmp_lt (tgt := 48) hx hb dJI_numberOfLeadingZeros_37 (by decide) (fun c37_1 => ?_) (fun c37_1 => ?_)
      · have t37_2 := (i_lt c37_1)
        have r37_3 : rg v0 1 255 := rg_ltA t37_2 r22_3 (show rg (256 : Int32) 256 256 from rg_l (by decide)) (by decide)
        refine lv_iload_n hx hb dJI_numberOfLeadingZeros_48 rfl (lv_at hl 1 rfl) ?_
        refine lv_bipush (v := 16) hx hb dJI_numberOfLeadingZeros_49 (by decide) ?_
        refine lv_icmp_lt (tgt := 61) hx hb dJI_numberOfLeadingZeros_51 (by decide) (fun c51_1 => ?_) (fun c51_1 => ?_)
        · have t51_2 := (i_lt c51_1)
          have r51_3 : rg v0 1 15 := rg_ltA t51_2 r37_3 (show rg (16 : Int32) 16 16 from rg_l (by decide)) (by decide)
          refine lv_iload_n hx hb dJI_numberOfLeadingZeros_61 rfl (lv_at hl 1 rfl) ?_
          refine lv_iconst (v := 4) hx hb dJI_numberOfLeadingZeros_62 (by decide) ?_
          refine lv_icmp_lt (tgt := 73) hx hb dJI_numberOfLeadingZeros_63 (by decide) (fun c63_1 => ?_) (fun c63_1 => ?_)
          · have t63_2 := (i_lt c63_1)
            have r63_3 : rg v0 1 3 := rg_ltA t63_2 r51_3 (show rg (4 : Int32) 4 4 from rg_l (by decide)) (by decide)
            refine lv_iload_n hx hb dJI_numberOfLeadingZeros_73 rfl (lv_at hl 0 rfl) ?_
            refine lv_iload_n hx hb dJI_numberOfLeadingZeros_74 rfl (lv_at hl 1 rfl) ?_
            refine lv_iconst (v := 1) hx hb dJI_numberOfLeadingZeros_75 (by decide) ?_
            refine lv_iushr hx hb dJI_numberOfLeadingZeros_76 rfl ?_
            refine lv_topi (fun z76_1 ez76_1 => ?_)
            have r76_2 : rg z76_1 0 1 := (rg_of (show 0 ≤ z76_1.toInt ∧ z76_1.toInt ≤ 1 by have q0 := (eq_ushr (c := 2) (k := 1) ez76_1 (by decide) (rg_w (c := 0) (d := 3) r63_3 (by decide)).1 (by decide)); have q1 := t1_2; have q2 := t63_2; have q3 := (show (0 : Int32).toInt = 0 from by decide); have q4 := (show (4 : Int32).toInt = 4 from by decide); omega))
            refine lv_isub hx hb dJI_numberOfLeadingZeros_77 ?_
            refine lv_topi (fun z77_1 ez77_1 => ?_)
            have r77_2 : rg z77_1 30 31 := rg_sub ez77_1 (show rg (31 : Int32) 31 31 from rg_l (by decide)) r76_2 (by decide)
            exact endq_i hQ hx hb hr hlocks dJI_numberOfLeadingZeros_78 rfl () ⟨(rg_w r77_2 (by decide)), (NI_mk (n := 31) (a := 2) (b := 4) (show 0 < v0.toInt by have q0 := r63_3.1; omega) (show z77_1.toInt = 31 ∨ z77_1.toInt = 31 - 1 by have q0 := r77_2.1; have q1 := r77_2.2; omega) (show z77_1.toInt = 31 → v0.toInt < 2 by have q0 := (eq_sub ez77_1 (show rg (31 : Int32) 31 31 from rg_l (by decide)) r76_2 (by decide)); have q1 := (eq_ushr (c := 2) (k := 1) ez76_1 (by decide) (rg_w (c := 0) (d := 3) r63_3 (by decide)).1 (by decide)); have q2 := (show (31 : Int32).toInt = 31 from by decide); omega) (show v0.toInt < 4 by have q0 := r63_3.2; omega) (by decide))⟩ hP hD hS [] rfl (by decide) rfl (Nat.le_of_ble_eq_true rfl) (Nat.le_of_ble_eq_true rfl)
          · have t63_2 := (i_nlt c63_1)
            have r63_3 : rg v0 4 15 := rg_leB t63_2 (show rg (4 : Int32) 4 4 from rg_l (by decide)) r51_3 (by decide)
            refine lv_iinc (v := 29) (lv' := [(1, .int 29), (0, .int v0)]) hx hb dJI_numberOfLeadingZeros_66 hl (k := 0) rfl (by decide) (by decide) rfl (fun ls hl => ?_)
            refine lv_iload_n hx hb dJI_numberOfLeadingZeros_69 rfl (lv_at hl 1 rfl) ?_
            refine lv_iconst (v := 2) hx hb dJI_numberOfLeadingZeros_70 (by decide) ?_
            refine lv_iushr hx hb dJI_numberOfLeadingZeros_71 rfl ?_
            refine lv_topi (fun z71_1 ez71_1 => ?_)
            have r71_2 : rg z71_1 1 3 := (rg_of (show 1 ≤ z71_1.toInt ∧ z71_1.toInt ≤ 3 by have q0 := (eq_ushr (c := 4) (k := 2) ez71_1 (by decide) (rg_w (c := 0) (d := 15) r63_3 (by decide)).1 (by decide)); have q1 := r63_3.1; have q2 := r63_3.2; omega))
            refine lv_istore_n (lv' := [(0, .int z71_1), (1, .int 29)]) hx hb dJI_numberOfLeadingZeros_72 rfl hl (by decide) rfl (fun ls hl => ?_)
            refine lv_iload_n hx hb dJI_numberOfLeadingZeros_73 rfl (lv_at hl 1 rfl) ?_
            refine lv_iload_n hx hb dJI_numberOfLeadingZeros_74 rfl (lv_at hl 0 rfl) ?_
            refine lv_iconst (v := 1) hx hb dJI_numberOfLeadingZeros_75 (by decide) ?_
            refine lv_iushr hx hb dJI_numberOfLeadingZeros_76 rfl ?_
            refine lv_topi (fun z76_1 ez76_1 => ?_)
            have r76_2 : rg z76_1 0 1 := (rg_of (show 0 ≤ z76_1.toInt ∧ z76_1.toInt ≤ 1 by have q0 := (eq_ushr (c := 2) (k := 1) ez76_1 (by decide) (rg_w (c := 0) (d := 3) r71_2 (by decide)).1 (by decide)); have q1 := (eq_ushr (c := 4) (k := 2) ez71_1 (by decide) (rg_w (c := 0) (d := 15) r63_3 (by decide)).1 (by decide)); have q2 := r63_3.1; have q3 := t51_2; have q4 := (show (16 : Int32).toInt = 16 from by decide); omega))
            refine lv_isub hx hb dJI_numberOfLeadingZeros_77 ?_
            refine lv_topi (fun z77_1 ez77_1 => ?_)
            have r77_2 : rg z77_1 28 29 := rg_sub ez77_1 (show rg (29 : Int32) 29 29 from rg_l (by decide)) r76_2 (by decide)
            exact endq_i hQ hx hb hr hlocks dJI_numberOfLeadingZeros_78 rfl () ⟨(rg_w r77_2 (by decide)), (NI_mk (n := 29) (a := 8) (b := 16) (show 0 < v0.toInt by have q0 := r63_3.1; omega) (show z77_1.toInt = 29 ∨ z77_1.toInt = 29 - 1 by have q0 := r77_2.1; have q1 := r77_2.2; omega) (show z77_1.toInt = 29 → v0.toInt < 8 by have q0 := (eq_sub ez77_1 (show rg (29 : Int32) 29 29 from rg_l (by decide)) r76_2 (by decide)); have q1 := (eq_ushr (c := 2) (k := 1) ez76_1 (by decide) (rg_w (c := 0) (d := 3) r71_2 (by decide)).1 (by decide)); have q2 := (eq_ushr (c := 4) (k := 2) ez71_1 (by decide) (rg_w (c := 0) (d := 15) r63_3 (by decide)).1 (by decide)); have q3 := (show (29 : Int32).toInt = 29 from by decide); omega) (show v0.toInt < 16 by have q0 := r63_3.2; omega) (by decide))⟩ hP hD hS [] rfl (by decide) rfl (Nat.le_of_ble_eq_true rfl) (Nat.le_of_ble_eq_true rfl)
        · have t51_2 := (i_nlt c51_1)
          have r51_3 : rg v0 16 255 := rg_leB t51_2 (show rg (16 : Int32) 16 16 from rg_l (by decide)) r37_3 (by decide)
          refine lv_iinc (v := 27) (lv' := [(1, .int 27), (0, .int v0)]) hx hb dJI_numberOfLeadingZeros_54 hl (k := 0) rfl (by decide) (by decide) rfl (fun ls hl => ?_)
          refine lv_iload_n hx hb dJI_numberOfLeadingZeros_57 rfl (lv_at hl 1 rfl) ?_
          refine lv_iconst (v := 4) hx hb dJI_numberOfLeadingZeros_58 (by decide) ?_
          refine lv_iushr hx hb dJI_numberOfLeadingZeros_59 rfl ?_
          refine lv_topi (fun z59_1 ez59_1 => ?_)
          have r59_2 : rg z59_1 1 15 := (rg_of (show 1 ≤ z59_1.toInt ∧ z59_1.toInt ≤ 15 by have q0 := (eq_ushr (c := 16) (k := 4) ez59_1 (by decide) (rg_w (c := 0) (d := 255) r51_3 (by decide)).1 (by decide)); have q1 := r51_3.1; have q2 := r51_3.2; omega))
          refine lv_istore_n (lv' := [(0, .int z59_1), (1, .int 27)]) hx hb dJI_numberOfLeadingZeros_60 rfl hl (by decide) rfl (fun ls hl => ?_)
          refine lv_iload_n hx hb dJI_numberOfLeadingZeros_61 rfl (lv_at hl 0 rfl) ?_
          refine lv_iconst (v := 4) hx hb dJI_numberOfLeadingZeros_62 (by decide) ?_
          refine lv_icmp_lt (tgt := 73) hx hb dJI_numberOfLeadingZeros_63 (by decide) (fun c63_1 => ?_) (fun c63_1 => ?_)
          · have t63_2 := (i_lt c63_1)
            have r63_3 : rg z59_1 1 3 := rg_ltA t63_2 r59_2 (show rg (4 : Int32) 4 4 from rg_l (by decide)) (by decide)
            refine lv_iload_n hx hb dJI_numberOfLeadingZeros_73 rfl (lv_at hl 1 rfl) ?_
            refine lv_iload_n hx hb dJI_numberOfLeadingZeros_74 rfl (lv_at hl 0 rfl) ?_
            refine lv_iconst (v := 1) hx hb dJI_numberOfLeadingZeros_75 (by decide) ?_
            refine lv_iushr hx hb dJI_numberOfLeadingZeros_76 rfl ?_
            refine lv_topi (fun z76_1 ez76_1 => ?_)
            have r76_2 : rg z76_1 0 1 := (rg_of (show 0 ≤ z76_1.toInt ∧ z76_1.toInt ≤ 1 by have q0 := (eq_ushr (c := 2) (k := 1) ez76_1 (by decide) (rg_w (c := 0) (d := 3) r63_3 (by decide)).1 (by decide)); have q1 := (eq_ushr (c := 16) (k := 4) ez59_1 (by decide) (rg_w (c := 0) (d := 255) r51_3 (by decide)).1 (by decide)); have q2 := r51_3.1; have q3 := t63_2; have q4 := (show (4 : Int32).toInt = 4 from by decide); omega))
            refine lv_isub hx hb dJI_numberOfLeadingZeros_77 ?_
            refine lv_topi (fun z77_1 ez77_1 => ?_)
            have r77_2 : rg z77_1 26 27 := rg_sub ez77_1 (show rg (27 : Int32) 27 27 from rg_l (by decide)) r76_2 (by decide)
            exact endq_i hQ hx hb hr hlocks dJI_numberOfLeadingZeros_78 rfl () ⟨(rg_w r77_2 (by decide)), (NI_mk (n := 27) (a := 32) (b := 64) (show 0 < v0.toInt by have q0 := r51_3.1; omega) (show z77_1.toInt = 27 ∨ z77_1.toInt = 27 - 1 by have q0 := r77_2.1; have q1 := r77_2.2; omega) (show z77_1.toInt = 27 → v0.toInt < 32 by have q0 := (eq_sub ez77_1 (show rg (27 : Int32) 27 27 from rg_l (by decide)) r76_2 (by decide)); have q1 := (eq_ushr (c := 2) (k := 1) ez76_1 (by decide) (rg_w (c := 0) (d := 3) r63_3 (by decide)).1 (by decide)); have q2 := (eq_ushr (c := 16) (k := 4) ez59_1 (by decide) (rg_w (c := 0) (d := 255) r51_3 (by decide)).1 (by decide)); have q3 := (show (27 : Int32).toInt = 27 from by decide); omega) (show v0.toInt < 64 by have q0 := r63_3.2; have q1 := (eq_ushr (c := 16) (k := 4) ez59_1 (by decide) (rg_w (c := 0) (d := 255) r51_3 (by decide)).1 (by decide)); omega) (by decide))⟩ hP hD hS [] rfl (by decide) rfl (Nat.le_of_ble_eq_true rfl) (Nat.le_of_ble_eq_true rfl)
          · have t63_2 := (i_nlt c63_1)
            have r63_3 : rg z59_1 4 15 := rg_leB t63_2 (show rg (4 : Int32) 4 4 from rg_l (by decide)) r59_2 (by decide)
            refine lv_iinc (v := 25) (lv' := [(1, .int 25), (0, .int z59_1)]) hx hb dJI_numberOfLeadingZeros_66 hl (k := 1) rfl (by decide) (by decide) rfl (fun ls hl => ?_)
            refine lv_iload_n hx hb dJI_numberOfLeadingZeros_69 rfl (lv_at hl 1 rfl) ?_
            refine lv_iconst (v := 2) hx hb dJI_numberOfLeadingZeros_70 (by decide) ?_
            refine lv_iushr hx hb dJI_numberOfLeadingZeros_71 rfl ?_
            refine lv_topi (fun z71_1 ez71_1 => ?_)
            have r71_2 : rg z71_1 1 3 := (rg_of (show 1 ≤ z71_1.toInt ∧ z71_1.toInt ≤ 3 by have q0 := (eq_ushr (c := 4) (k := 2) ez71_1 (by decide) (rg_w (c := 0) (d := 15) r63_3 (by decide)).1 (by decide)); have q1 := r63_3.1; have q2 := r63_3.2; omega))
            refine lv_istore_n (lv' := [(0, .int z71_1), (1, .int 25)]) hx hb dJI_numberOfLeadingZeros_72 rfl hl (by decide) rfl (fun ls hl => ?_)
            refine lv_iload_n hx hb dJI_numberOfLeadingZeros_73 rfl (lv_at hl 1 rfl) ?_
            refine lv_iload_n hx hb dJI_numberOfLeadingZeros_74 rfl (lv_at hl 0 rfl) ?_
            refine lv_iconst (v := 1) hx hb dJI_numberOfLeadingZeros_75 (by decide) ?_
            refine lv_iushr hx hb dJI_numberOfLeadingZeros_76 rfl ?_
            refine lv_topi (fun z76_1 ez76_1 => ?_)
            have r76_2 : rg z76_1 0 1 := (rg_of (show 0 ≤ z76_1.toInt ∧ z76_1.toInt ≤ 1 by have q0 := (eq_ushr (c := 2) (k := 1) ez76_1 (by decide) (rg_w (c := 0) (d := 3) r71_2 (by decide)).1 (by decide)); have q1 := (eq_ushr (c := 4) (k := 2) ez71_1 (by decide) (rg_w (c := 0) (d := 15) r63_3 (by decide)).1 (by decide)); have q2 := r63_3.1; have q3 := (eq_ushr (c := 16) (k := 4) ez59_1 (by decide) (rg_w (c := 0) (d := 255) r51_3 (by decide)).1 (by decide)); have q4 := t37_2; have q5 := (show (256 : Int32).toInt = 256 from by decide); omega))
            refine lv_isub hx hb dJI_numberOfLeadingZeros_77 ?_
            refine lv_topi (fun z77_1 ez77_1 => ?_)
            have r77_2 : rg z77_1 24 25 := rg_sub ez77_1 (show rg (25 : Int32) 25 25 from rg_l (by decide)) r76_2 (by decide)
            exact endq_i hQ hx hb hr hlocks dJI_numberOfLeadingZeros_78 rfl () ⟨(rg_w r77_2 (by decide)), (NI_mk (n := 25) (a := 128) (b := 256) (show 0 < v0.toInt by have q0 := r51_3.1; omega) (show z77_1.toInt = 25 ∨ z77_1.toInt = 25 - 1 by have q0 := r77_2.1; have q1 := r77_2.2; omega) (show z77_1.toInt = 25 → v0.toInt < 128 by have q0 := (eq_sub ez77_1 (show rg (25 : Int32) 25 25 from rg_l (by decide)) r76_2 (by decide)); have q1 := (eq_ushr (c := 2) (k := 1) ez76_1 (by decide) (rg_w (c := 0) (d := 3) r71_2 (by decide)).1 (by decide)); have q2 := (eq_ushr (c := 4) (k := 2) ez71_1 (by decide) (rg_w (c := 0) (d := 15) r63_3 (by decide)).1 (by decide)); have q3 := (eq_ushr (c := 16) (k := 4) ez59_1 (by decide) (rg_w (c := 0) (d := 255) r51_3 (by decide)).1 (by decide)); have q4 := (show (25 : Int32).toInt = 25 from by decide); omega) (show v0.toInt < 256 by have q0 := r51_3.2; omega) (by decide))⟩ hP hD hS [] rfl (by decide) rfl (Nat.le_of_ble_eq_true rfl) (Nat.le_of_ble_eq_true rfl)
      · have t37_2 := (i_nlt c37_1)
        have r37_3 : rg v0 256 65535 := rg_leB t37_2 (show rg (256 : Int32) 256 256 from rg_l (by decide)) r22_3 (by decide)
        refine lv_iinc (v := 23) (lv' := [(1, .int 23), (0, .int v0)]) hx hb dJI_numberOfLeadingZeros_40 hl (k := 0) rfl (by decide) (by decide) rfl (fun ls hl => ?_)
        refine lv_iload_n hx hb dJI_numberOfLeadingZeros_43 rfl (lv_at hl 1 rfl) ?_
        refine lv_bipush (v := 8) hx hb dJI_numberOfLeadingZeros_44 (by decide) ?_
        refine lv_iushr hx hb dJI_numberOfLeadingZeros_46 rfl ?_
        refine lv_topi (fun z46_1 ez46_1 => ?_)
        have r46_2 : rg z46_1 1 255 := (rg_of (show 1 ≤ z46_1.toInt ∧ z46_1.toInt ≤ 255 by have q0 := (eq_ushr (c := 256) (k := 8) ez46_1 (by decide) (rg_w (c := 0) (d := 65535) r37_3 (by decide)).1 (by decide)); have q1 := r37_3.1; have q2 := r37_3.2; omega))
        refine lv_istore_n (lv' := [(0, .int z46_1), (1, .int 23)]) hx hb dJI_numberOfLeadingZeros_47 rfl hl (by decide) rfl (fun ls hl => ?_)
        refine lv_iload_n hx hb dJI_numberOfLeadingZeros_48 rfl (lv_at hl 0 rfl) ?_
        refine lv_bipush (v := 16) hx hb dJI_numberOfLeadingZeros_49 (by decide) ?_
        refine lv_icmp_lt (tgt := 61) hx hb dJI_numberOfLeadingZeros_51 (by decide) (fun c51_1 => ?_) (fun c51_1 => ?_)
        · have t51_2 := (i_lt c51_1)
          have r51_3 : rg z46_1 1 15 := rg_ltA t51_2 r46_2 (show rg (16 : Int32) 16 16 from rg_l (by decide)) (by decide)
          refine lv_iload_n hx hb dJI_numberOfLeadingZeros_61 rfl (lv_at hl 0 rfl) ?_
          refine lv_iconst (v := 4) hx hb dJI_numberOfLeadingZeros_62 (by decide) ?_
          refine lv_icmp_lt (tgt := 73) hx hb dJI_numberOfLeadingZeros_63 (by decide) (fun c63_1 => ?_) (fun c63_1 => ?_)
          · have t63_2 := (i_lt c63_1)
            have r63_3 : rg z46_1 1 3 := rg_ltA t63_2 r51_3 (show rg (4 : Int32) 4 4 from rg_l (by decide)) (by decide)
            refine lv_iload_n hx hb dJI_numberOfLeadingZeros_73 rfl (lv_at hl 1 rfl) ?_
            refine lv_iload_n hx hb dJI_numberOfLeadingZeros_74 rfl (lv_at hl 0 rfl) ?_
            refine lv_iconst (v := 1) hx hb dJI_numberOfLeadingZeros_75 (by decide) ?_
            refine lv_iushr hx hb dJI_numberOfLeadingZeros_76 rfl ?_
            refine lv_topi (fun z76_1 ez76_1 => ?_)
            have r76_2 : rg z76_1 0 1 := (rg_of (show 0 ≤ z76_1.toInt ∧ z76_1.toInt ≤ 1 by have q0 := (eq_ushr (c := 2) (k := 1) ez76_1 (by decide) (rg_w (c := 0) (d := 3) r63_3 (by decide)).1 (by decide)); have q1 := (eq_ushr (c := 256) (k := 8) ez46_1 (by decide) (rg_w (c := 0) (d := 65535) r37_3 (by decide)).1 (by decide)); have q2 := r37_3.1; have q3 := t63_2; have q4 := (show (4 : Int32).toInt = 4 from by decide); omega))
            refine lv_isub hx hb dJI_numberOfLeadingZeros_77 ?_
            refine lv_topi (fun z77_1 ez77_1 => ?_)
            have r77_2 : rg z77_1 22 23 := rg_sub ez77_1 (show rg (23 : Int32) 23 23 from rg_l (by decide)) r76_2 (by decide)
            exact endq_i hQ hx hb hr hlocks dJI_numberOfLeadingZeros_78 rfl () ⟨(rg_w r77_2 (by decide)), (NI_mk (n := 23) (a := 512) (b := 1024) (show 0 < v0.toInt by have q0 := r37_3.1; omega) (show z77_1.toInt = 23 ∨ z77_1.toInt = 23 - 1 by have q0 := r77_2.1; have q1 := r77_2.2; omega) (show z77_1.toInt = 23 → v0.toInt < 512 by have q0 := (eq_sub ez77_1 (show rg (23 : Int32) 23 23 from rg_l (by decide)) r76_2 (by decide)); have q1 := (eq_ushr (c := 2) (k := 1) ez76_1 (by decide) (rg_w (c := 0) (d := 3) r63_3 (by decide)).1 (by decide)); have q2 := (eq_ushr (c := 256) (k := 8) ez46_1 (by decide) (rg_w (c := 0) (d := 65535) r37_3 (by decide)).1 (by decide)); have q3 := (show (23 : Int32).toInt = 23 from by decide); omega) (show v0.toInt < 1024 by have q0 := r63_3.2; have q1 := (eq_ushr (c := 256) (k := 8) ez46_1 (by decide) (rg_w (c := 0) (d := 65535) r37_3 (by decide)).1 (by decide)); omega) (by decide))⟩ hP hD hS [] rfl (by decide) rfl (Nat.le_of_ble_eq_true rfl) (Nat.le_of_ble_eq_true rfl)
          · have t63_2 := (i_nlt c63_1)
            have r63_3 : rg z46_1 4 15 := rg_leB t63_2 (show rg (4 : Int32) 4 4 from rg_l (by decide)) r51_3 (by decide)
            refine lv_iinc (v := 21) (lv' := [(1, .int 21), (0, .int z46_1)]) hx hb dJI_numberOfLeadingZeros_66 hl (k := 1) rfl (by decide) (by decide) rfl (fun ls hl => ?_)
            refine lv_iload_n hx hb dJI_numberOfLeadingZeros_69 rfl (lv_at hl 1 rfl) ?_
            refine lv_iconst (v := 2) hx hb dJI_numberOfLeadingZeros_70 (by decide) ?_
            refine lv_iushr hx hb dJI_numberOfLeadingZeros_71 rfl ?_
            refine lv_topi (fun z71_1 ez71_1 => ?_)
            have r71_2 : rg z71_1 1 3 := (rg_of (show 1 ≤ z71_1.toInt ∧ z71_1.toInt ≤ 3 by have q0 := (eq_ushr (c := 4) (k := 2) ez71_1 (by decide) (rg_w (c := 0) (d := 15) r63_3 (by decide)).1 (by decide)); have q1 := r63_3.1; have q2 := r63_3.2; omega))
            refine lv_istore_n (lv' := [(0, .int z71_1), (1, .int 21)]) hx hb dJI_numberOfLeadingZeros_72 rfl hl (by decide) rfl (fun ls hl => ?_)
            refine lv_iload_n hx hb dJI_numberOfLeadingZeros_73 rfl (lv_at hl 1 rfl) ?_
            refine lv_iload_n hx hb dJI_numberOfLeadingZeros_74 rfl (lv_at hl 0 rfl) ?_
            refine lv_iconst (v := 1) hx hb dJI_numberOfLeadingZeros_75 (by decide) ?_
            refine lv_iushr hx hb dJI_numberOfLeadingZeros_76 rfl ?_
            refine lv_topi (fun z76_1 ez76_1 => ?_)
            have r76_2 : rg z76_1 0 1 := (rg_of (show 0 ≤ z76_1.toInt ∧ z76_1.toInt ≤ 1 by have q0 := (eq_ushr (c := 2) (k := 1) ez76_1 (by decide) (rg_w (c := 0) (d := 3) r71_2 (by decide)).1 (by decide)); have q1 := (eq_ushr (c := 4) (k := 2) ez71_1 (by decide) (rg_w (c := 0) (d := 15) r63_3 (by decide)).1 (by decide)); have q2 := r63_3.1; have q3 := t51_2; have q4 := (show (16 : Int32).toInt = 16 from by decide); omega))
            refine lv_isub hx hb dJI_numberOfLeadingZeros_77 ?_
            refine lv_topi (fun z77_1 ez77_1 => ?_)
            have r77_2 : rg z77_1 20 21 := rg_sub ez77_1 (show rg (21 : Int32) 21 21 from rg_l (by decide)) r76_2 (by decide)
            exact endq_i hQ hx hb hr hlocks dJI_numberOfLeadingZeros_78 rfl () ⟨(rg_w r77_2 (by decide)), (NI_mk (n := 21) (a := 2048) (b := 4096) (show 0 < v0.toInt by have q0 := r37_3.1; omega) (show z77_1.toInt = 21 ∨ z77_1.toInt = 21 - 1 by have q0 := r77_2.1; have q1 := r77_2.2; omega) (show z77_1.toInt = 21 → v0.toInt < 2048 by have q0 := (eq_sub ez77_1 (show rg (21 : Int32) 21 21 from rg_l (by decide)) r76_2 (by decide)); have q1 := (eq_ushr (c := 2) (k := 1) ez76_1 (by decide) (rg_w (c := 0) (d := 3) r71_2 (by decide)).1 (by decide)); have q2 := (eq_ushr (c := 4) (k := 2) ez71_1 (by decide) (rg_w (c := 0) (d := 15) r63_3 (by decide)).1 (by decide)); have q3 := (eq_ushr (c := 256) (k := 8) ez46_1 (by decide) (rg_w (c := 0) (d := 65535) r37_3 (by decide)).1 (by decide)); have q4 := (show (21 : Int32).toInt = 21 from by decide); omega) (show v0.toInt < 4096 by have q0 := r63_3.2; have q1 := (eq_ushr (c := 256) (k := 8) ez46_1 (by decide) (rg_w (c := 0) (d := 65535) r37_3 (by decide)).1 (by decide)); omega) (by decide))⟩ hP hD hS [] rfl (by decide) rfl (Nat.le_of_ble_eq_true rfl) (Nat.le_of_ble_eq_true rfl)
        · have t51_2 := (i_nlt c51_1)
          have r51_3 : rg z46_1 16 255 := rg_leB t51_2 (show rg (16 : Int32) 16 16 from rg_l (by decide)) r46_2 (by decide)
          refine lv_iinc (v := 19) (lv' := [(1, .int 19), (0, .int z46_1)]) hx hb dJI_numberOfLeadingZeros_54 hl (k := 1) rfl (by decide) (by decide) rfl (fun ls hl => ?_)
          refine lv_iload_n hx hb dJI_numberOfLeadingZeros_57 rfl (lv_at hl 1 rfl) ?_
          refine lv_iconst (v := 4) hx hb dJI_numberOfLeadingZeros_58 (by decide) ?_
          refine lv_iushr hx hb dJI_numberOfLeadingZeros_59 rfl ?_
          refine lv_topi (fun z59_1 ez59_1 => ?_)
          have r59_2 : rg z59_1 1 15 := (rg_of (show 1 ≤ z59_1.toInt ∧ z59_1.toInt ≤ 15 by have q0 := (eq_ushr (c := 16) (k := 4) ez59_1 (by decide) (rg_w (c := 0) (d := 255) r51_3 (by decide)).1 (by decide)); have q1 := r51_3.1; have q2 := r51_3.2; omega))
          refine lv_istore_n (lv' := [(0, .int z59_1), (1, .int 19)]) hx hb dJI_numberOfLeadingZeros_60 rfl hl (by decide) rfl (fun ls hl => ?_)
          refine lv_iload_n hx hb dJI_numberOfLeadingZeros_61 rfl (lv_at hl 0 rfl) ?_
          refine lv_iconst (v := 4) hx hb dJI_numberOfLeadingZeros_62 (by decide) ?_
          refine lv_icmp_lt (tgt := 73) hx hb dJI_numberOfLeadingZeros_63 (by decide) (fun c63_1 => ?_) (fun c63_1 => ?_)
          · have t63_2 := (i_lt c63_1)
            have r63_3 : rg z59_1 1 3 := rg_ltA t63_2 r59_2 (show rg (4 : Int32) 4 4 from rg_l (by decide)) (by decide)
            refine lv_iload_n hx hb dJI_numberOfLeadingZeros_73 rfl (lv_at hl 1 rfl) ?_
            refine lv_iload_n hx hb dJI_numberOfLeadingZeros_74 rfl (lv_at hl 0 rfl) ?_
            refine lv_iconst (v := 1) hx hb dJI_numberOfLeadingZeros_75 (by decide) ?_
            refine lv_iushr hx hb dJI_numberOfLeadingZeros_76 rfl ?_
            refine lv_topi (fun z76_1 ez76_1 => ?_)
            have r76_2 : rg z76_1 0 1 := (rg_of (show 0 ≤ z76_1.toInt ∧ z76_1.toInt ≤ 1 by have q0 := (eq_ushr (c := 2) (k := 1) ez76_1 (by decide) (rg_w (c := 0) (d := 3) r63_3 (by decide)).1 (by decide)); have q1 := (eq_ushr (c := 16) (k := 4) ez59_1 (by decide) (rg_w (c := 0) (d := 255) r51_3 (by decide)).1 (by decide)); have q2 := r51_3.1; have q3 := t63_2; have q4 := (show (4 : Int32).toInt = 4 from by decide); omega))
            refine lv_isub hx hb dJI_numberOfLeadingZeros_77 ?_
            refine lv_topi (fun z77_1 ez77_1 => ?_)
            have r77_2 : rg z77_1 18 19 := rg_sub ez77_1 (show rg (19 : Int32) 19 19 from rg_l (by decide)) r76_2 (by decide)
            exact endq_i hQ hx hb hr hlocks dJI_numberOfLeadingZeros_78 rfl () ⟨(rg_w r77_2 (by decide)), (NI_mk (n := 19) (a := 8192) (b := 16384) (show 0 < v0.toInt by have q0 := r37_3.1; omega) (show z77_1.toInt = 19 ∨ z77_1.toInt = 19 - 1 by have q0 := r77_2.1; have q1 := r77_2.2; omega) (show z77_1.toInt = 19 → v0.toInt < 8192 by have q0 := (eq_sub ez77_1 (show rg (19 : Int32) 19 19 from rg_l (by decide)) r76_2 (by decide)); have q1 := (eq_ushr (c := 2) (k := 1) ez76_1 (by decide) (rg_w (c := 0) (d := 3) r63_3 (by decide)).1 (by decide)); have q2 := (eq_ushr (c := 16) (k := 4) ez59_1 (by decide) (rg_w (c := 0) (d := 255) r51_3 (by decide)).1 (by decide)); have q3 := (eq_ushr (c := 256) (k := 8) ez46_1 (by decide) (rg_w (c := 0) (d := 65535) r37_3 (by decide)).1 (by decide)); have q4 := (show (19 : Int32).toInt = 19 from by decide); omega) (show v0.toInt < 16384 by have q0 := r63_3.2; have q1 := (eq_ushr (c := 16) (k := 4) ez59_1 (by decide) (rg_w (c := 0) (d := 255) r51_3 (by decide)).1 (by decide)); have q2 := (eq_ushr (c := 256) (k := 8) ez46_1 (by decide) (rg_w (c := 0) (d := 65535) r37_3 (by decide)).1 (by decide)); omega) (by decide))⟩ hP hD hS [] rfl (by decide) rfl (Nat.le_of_ble_eq_true rfl) (Nat.le_of_ble_eq_true rfl)
          · have t63_2 := (i_nlt c63_1)
            have r63_3 : rg z59_1 4 15 := rg_leB t63_2 (show rg (4 : Int32) 4 4 from rg_l (by decide)) r59_2 (by decide)
            refine lv_iinc (v := 17) (lv' := [(1, .int 17), (0, .int z59_1)]) hx hb dJI_numberOfLeadingZeros_66 hl (k := 1) rfl (by decide) (by decide) rfl (fun ls hl => ?_)
            refine lv_iload_n hx hb dJI_numberOfLeadingZeros_69 rfl (lv_at hl 1 rfl) ?_
            refine lv_iconst (v := 2) hx hb dJI_numberOfLeadingZeros_70 (by decide) ?_
            refine lv_iushr hx hb dJI_numberOfLeadingZeros_71 rfl ?_
            refine lv_topi (fun z71_1 ez71_1 => ?_)
            have r71_2 : rg z71_1 1 3 := (rg_of (show 1 ≤ z71_1.toInt ∧ z71_1.toInt ≤ 3 by have q0 := (eq_ushr (c := 4) (k := 2) ez71_1 (by decide) (rg_w (c := 0) (d := 15) r63_3 (by decide)).1 (by decide)); have q1 := r63_3.1; have q2 := r63_3.2; omega))
            refine lv_istore_n (lv' := [(0, .int z71_1), (1, .int 17)]) hx hb dJI_numberOfLeadingZeros_72 rfl hl (by decide) rfl (fun ls hl => ?_)
            refine lv_iload_n hx hb dJI_numberOfLeadingZeros_73 rfl (lv_at hl 1 rfl) ?_
            refine lv_iload_n hx hb dJI_numberOfLeadingZeros_74 rfl (lv_at hl 0 rfl) ?_
            refine lv_iconst (v := 1) hx hb dJI_numberOfLeadingZeros_75 (by decide) ?_
            refine lv_iushr hx hb dJI_numberOfLeadingZeros_76 rfl ?_
            refine lv_topi (fun z76_1 ez76_1 => ?_)
            have r76_2 : rg z76_1 0 1 := (rg_of (show 0 ≤ z76_1.toInt ∧ z76_1.toInt ≤ 1 by have q0 := (eq_ushr (c := 2) (k := 1) ez76_1 (by decide) (rg_w (c := 0) (d := 3) r71_2 (by decide)).1 (by decide)); have q1 := (eq_ushr (c := 4) (k := 2) ez71_1 (by decide) (rg_w (c := 0) (d := 15) r63_3 (by decide)).1 (by decide)); have q2 := r63_3.1; have q3 := (eq_ushr (c := 16) (k := 4) ez59_1 (by decide) (rg_w (c := 0) (d := 255) r51_3 (by decide)).1 (by decide)); have q4 := (eq_ushr (c := 256) (k := 8) ez46_1 (by decide) (rg_w (c := 0) (d := 65535) r37_3 (by decide)).1 (by decide)); have q5 := t22_2; have q6 := (show (65536 : Int32).toInt = 65536 from by decide); omega))
            refine lv_isub hx hb dJI_numberOfLeadingZeros_77 ?_
            refine lv_topi (fun z77_1 ez77_1 => ?_)
            have r77_2 : rg z77_1 16 17 := rg_sub ez77_1 (show rg (17 : Int32) 17 17 from rg_l (by decide)) r76_2 (by decide)
            exact endq_i hQ hx hb hr hlocks dJI_numberOfLeadingZeros_78 rfl () ⟨(rg_w r77_2 (by decide)), (NI_mk (n := 17) (a := 32768) (b := 65536) (show 0 < v0.toInt by have q0 := r37_3.1; omega) (show z77_1.toInt = 17 ∨ z77_1.toInt = 17 - 1 by have q0 := r77_2.1; have q1 := r77_2.2; omega) (show z77_1.toInt = 17 → v0.toInt < 32768 by have q0 := (eq_sub ez77_1 (show rg (17 : Int32) 17 17 from rg_l (by decide)) r76_2 (by decide)); have q1 := (eq_ushr (c := 2) (k := 1) ez76_1 (by decide) (rg_w (c := 0) (d := 3) r71_2 (by decide)).1 (by decide)); have q2 := (eq_ushr (c := 4) (k := 2) ez71_1 (by decide) (rg_w (c := 0) (d := 15) r63_3 (by decide)).1 (by decide)); have q3 := (eq_ushr (c := 16) (k := 4) ez59_1 (by decide) (rg_w (c := 0) (d := 255) r51_3 (by decide)).1 (by decide)); have q4 := (eq_ushr (c := 256) (k := 8) ez46_1 (by decide) (rg_w (c := 0) (d := 65535) r37_3 (by decide)).1 (by decide)); have q5 := (show (17 : Int32).toInt = 17 from by decide); omega) (show v0.toInt < 65536 by have q0 := r37_3.2; omega) (by decide))⟩ hP hD hS [] rfl (by decide) rfl (Nat.le_of_ble_eq_true rfl) (Nat.le_of_ble_eq_true rfl)
    · have t22_2 := (i_nlt c22_1)
      have r22_3 : rg v0 65536 2147483647 := rg_leB t22_2 (show rg (65536 : Int32) 65536 65536 from rg_l (by decide)) r1_3 (by decide)
      refine lv_iinc (v := 15) (lv' := [(1, .int 15), (0, .int v0)]) hx hb dJI_numberOfLeadingZeros_25 hl (k := 0) rfl (by decide) (by decide) rfl (fun ls hl => ?_)
      refine lv_iload_n hx hb dJI_numberOfLeadingZeros_28 rfl (lv_at hl 1 rfl) ?_
      refine lv_bipush (v := 16) hx hb dJI_numberOfLeadingZeros_29 (by decide) ?_
      refine lv_iushr hx hb dJI_numberOfLeadingZeros_31 rfl ?_
      refine lv_topi (fun z31_1 ez31_1 => ?_)
      have r31_2 : rg z31_1 1 32767 := (rg_of (show 1 ≤ z31_1.toInt ∧ z31_1.toInt ≤ 32767 by have q0 := (eq_ushr (c := 65536) (k := 16) ez31_1 (by decide) (rg_w (c := 0) (d := 2147483647) r22_3 (by decide)).1 (by decide)); have q1 := r22_3.1; have q2 := r22_3.2; omega))
      refine lv_istore_n (lv' := [(0, .int z31_1), (1, .int 15)]) hx hb dJI_numberOfLeadingZeros_32 rfl hl (by decide) rfl (fun ls hl => ?_)
      refine lv_iload_n hx hb dJI_numberOfLeadingZeros_33 rfl (lv_at hl 0 rfl) ?_
      refine lv_sipush (v := 256) hx hb dJI_numberOfLeadingZeros_34 (by decide) ?_
      refine lv_icmp_lt (tgt := 48) hx hb dJI_numberOfLeadingZeros_37 (by decide) (fun c37_1 => ?_) (fun c37_1 => ?_)
      · have t37_2 := (i_lt c37_1)
        have r37_3 : rg z31_1 1 255 := rg_ltA t37_2 r31_2 (show rg (256 : Int32) 256 256 from rg_l (by decide)) (by decide)
        refine lv_iload_n hx hb dJI_numberOfLeadingZeros_48 rfl (lv_at hl 0 rfl) ?_
        refine lv_bipush (v := 16) hx hb dJI_numberOfLeadingZeros_49 (by decide) ?_
        refine lv_icmp_lt (tgt := 61) hx hb dJI_numberOfLeadingZeros_51 (by decide) (fun c51_1 => ?_) (fun c51_1 => ?_)
        · have t51_2 := (i_lt c51_1)
          have r51_3 : rg z31_1 1 15 := rg_ltA t51_2 r37_3 (show rg (16 : Int32) 16 16 from rg_l (by decide)) (by decide)
          refine lv_iload_n hx hb dJI_numberOfLeadingZeros_61 rfl (lv_at hl 0 rfl) ?_
          refine lv_iconst (v := 4) hx hb dJI_numberOfLeadingZeros_62 (by decide) ?_
          refine lv_icmp_lt (tgt := 73) hx hb dJI_numberOfLeadingZeros_63 (by decide) (fun c63_1 => ?_) (fun c63_1 => ?_)
          · have t63_2 := (i_lt c63_1)
            have r63_3 : rg z31_1 1 3 := rg_ltA t63_2 r51_3 (show rg (4 : Int32) 4 4 from rg_l (by decide)) (by decide)
            refine lv_iload_n hx hb dJI_numberOfLeadingZeros_73 rfl (lv_at hl 1 rfl) ?_
            refine lv_iload_n hx hb dJI_numberOfLeadingZeros_74 rfl (lv_at hl 0 rfl) ?_
            refine lv_iconst (v := 1) hx hb dJI_numberOfLeadingZeros_75 (by decide) ?_
            refine lv_iushr hx hb dJI_numberOfLeadingZeros_76 rfl ?_
            refine lv_topi (fun z76_1 ez76_1 => ?_)
            have r76_2 : rg z76_1 0 1 := (rg_of (show 0 ≤ z76_1.toInt ∧ z76_1.toInt ≤ 1 by have q0 := (eq_ushr (c := 2) (k := 1) ez76_1 (by decide) (rg_w (c := 0) (d := 3) r63_3 (by decide)).1 (by decide)); have q1 := (eq_ushr (c := 65536) (k := 16) ez31_1 (by decide) (rg_w (c := 0) (d := 2147483647) r22_3 (by decide)).1 (by decide)); have q2 := r22_3.1; have q3 := t63_2; have q4 := (show (4 : Int32).toInt = 4 from by decide); omega))
            refine lv_isub hx hb dJI_numberOfLeadingZeros_77 ?_
            refine lv_topi (fun z77_1 ez77_1 => ?_)
            have r77_2 : rg z77_1 14 15 := rg_sub ez77_1 (show rg (15 : Int32) 15 15 from rg_l (by decide)) r76_2 (by decide)
            exact endq_i hQ hx hb hr hlocks dJI_numberOfLeadingZeros_78 rfl () ⟨(rg_w r77_2 (by decide)), (NI_mk (n := 15) (a := 131072) (b := 262144) (show 0 < v0.toInt by have q0 := r22_3.1; omega) (show z77_1.toInt = 15 ∨ z77_1.toInt = 15 - 1 by have q0 := r77_2.2; have q1 := (eq_sub ez77_1 (show rg (15 : Int32) 15 15 from rg_l (by decide)) r76_2 (by decide)); have q2 := r76_2.2; have q3 := (show (15 : Int32).toInt = 15 from by decide); omega) (show z77_1.toInt = 15 → v0.toInt < 131072 by have q0 := (eq_sub ez77_1 (show rg (15 : Int32) 15 15 from rg_l (by decide)) r76_2 (by decide)); have q1 := (eq_ushr (c := 2) (k := 1) ez76_1 (by decide) (rg_w (c := 0) (d := 3) r63_3 (by decide)).1 (by decide)); have q2 := (eq_ushr (c := 65536) (k := 16) ez31_1 (by decide) (rg_w (c := 0) (d := 2147483647) r22_3 (by decide)).1 (by decide)); have q3 := (show (15 : Int32).toInt = 15 from by decide); omega) (show v0.toInt < 262144 by have q0 := r76_2.2; have q1 := (eq_ushr (c := 2) (k := 1) ez76_1 (by decide) (rg_w (c := 0) (d := 3) r63_3 (by decide)).1 (by decide)); have q2 := (eq_ushr (c := 65536) (k := 16) ez31_1 (by decide) (rg_w (c := 0) (d := 2147483647) r22_3 (by decide)).1 (by decide)); omega) (by decide))⟩ hP hD hS [] rfl (by decide) rfl (Nat.le_of_ble_eq_true rfl) (Nat.le_of_ble_eq_true rfl)
          · have t63_2 := (i_nlt c63_1)
            have r63_3 : rg z31_1 4 15 := rg_leB t63_2 (show rg (4 : Int32) 4 4 from rg_l (by decide)) r51_3 (by decide)
            refine lv_iinc (v := 13) (lv' := [(1, .int 13), (0, .int z31_1)]) hx hb dJI_numberOfLeadingZeros_66 hl (k := 1) rfl (by decide) (by decide) rfl (fun ls hl => ?_)
            refine lv_iload_n hx hb dJI_numberOfLeadingZeros_69 rfl (lv_at hl 1 rfl) ?_
            refine lv_iconst (v := 2) hx hb dJI_numberOfLeadingZeros_70 (by decide) ?_
            refine lv_iushr hx hb dJI_numberOfLeadingZeros_71 rfl ?_
            refine lv_topi (fun z71_1 ez71_1 => ?_)
            have r71_2 : rg z71_1 1 3 := (rg_of (show 1 ≤ z71_1.toInt ∧ z71_1.toInt ≤ 3 by have q0 := (eq_ushr (c := 4) (k := 2) ez71_1 (by decide) (rg_w (c := 0) (d := 15) r63_3 (by decide)).1 (by decide)); have q1 := r63_3.1; have q2 := r63_3.2; omega))
            refine lv_istore_n (lv' := [(0, .int z71_1), (1, .int 13)]) hx hb dJI_numberOfLeadingZeros_72 rfl hl (by decide) rfl (fun ls hl => ?_)
            refine lv_iload_n hx hb dJI_numberOfLeadingZeros_73 rfl (lv_at hl 1 rfl) ?_
            refine lv_iload_n hx hb dJI_numberOfLeadingZeros_74 rfl (lv_at hl 0 rfl) ?_
            refine lv_iconst (v := 1) hx hb dJI_numberOfLeadingZeros_75 (by decide) ?_
            refine lv_iushr hx hb dJI_numberOfLeadingZeros_76 rfl ?_
            refine lv_topi (fun z76_1 ez76_1 => ?_)
            have r76_2 : rg z76_1 0 1 := (rg_of (show 0 ≤ z76_1.toInt ∧ z76_1.toInt ≤ 1 by have q0 := (eq_ushr (c := 2) (k := 1) ez76_1 (by decide) (rg_w (c := 0) (d := 3) r71_2 (by decide)).1 (by decide)); have q1 := (eq_ushr (c := 4) (k := 2) ez71_1 (by decide) (rg_w (c := 0) (d := 15) r63_3 (by decide)).1 (by decide)); have q2 := r63_3.1; have q3 := t51_2; have q4 := (show (16 : Int32).toInt = 16 from by decide); omega))
            refine lv_isub hx hb dJI_numberOfLeadingZeros_77 ?_
            refine lv_topi (fun z77_1 ez77_1 => ?_)
            have r77_2 : rg z77_1 12 13 := rg_sub ez77_1 (show rg (13 : Int32) 13 13 from rg_l (by decide)) r76_2 (by decide)
            exact endq_i hQ hx hb hr hlocks dJI_numberOfLeadingZeros_78 rfl () ⟨(rg_w r77_2 (by decide)), (NI_mk (n := 13) (a := 524288) (b := 1048576) (show 0 < v0.toInt by have q0 := r22_3.1; omega) (show z77_1.toInt = 13 ∨ z77_1.toInt = 13 - 1 by have q0 := r77_2.2; have q1 := (eq_sub ez77_1 (show rg (13 : Int32) 13 13 from rg_l (by decide)) r76_2 (by decide)); have q2 := r76_2.2; have q3 := (show (13 : Int32).toInt = 13 from by decide); omega) (show z77_1.toInt = 13 → v0.toInt < 524288 by have q0 := (eq_sub ez77_1 (show rg (13 : Int32) 13 13 from rg_l (by decide)) r76_2 (by decide)); have q1 := (eq_ushr (c := 2) (k := 1) ez76_1 (by decide) (rg_w (c := 0) (d := 3) r71_2 (by decide)).1 (by decide)); have q2 := (eq_ushr (c := 4) (k := 2) ez71_1 (by decide) (rg_w (c := 0) (d := 15) r63_3 (by decide)).1 (by decide)); have q3 := (eq_ushr (c := 65536) (k := 16) ez31_1 (by decide) (rg_w (c := 0) (d := 2147483647) r22_3 (by decide)).1 (by decide)); have q4 := (show (13 : Int32).toInt = 13 from by decide); omega) (show v0.toInt < 1048576 by have q0 := r76_2.2; have q1 := (eq_ushr (c := 2) (k := 1) ez76_1 (by decide) (rg_w (c := 0) (d := 3) r71_2 (by decide)).1 (by decide)); have q2 := (eq_ushr (c := 4) (k := 2) ez71_1 (by decide) (rg_w (c := 0) (d := 15) r63_3 (by decide)).1 (by decide)); have q3 := (eq_ushr (c := 65536) (k := 16) ez31_1 (by decide) (rg_w (c := 0) (d := 2147483647) r22_3 (by decide)).1 (by decide)); omega) (by decide))⟩ hP hD hS [] rfl (by decide) rfl (Nat.le_of_ble_eq_true rfl) (Nat.le_of_ble_eq_true rfl)
        · have t51_2 := (i_nlt c51_1)
          have r51_3 : rg z31_1 16 255 := rg_leB t51_2 (show rg (16 : Int32) 16 16 from rg_l (by decide)) r37_3 (by decide)
          refine lv_iinc (v := 11) (lv' := [(1, .int 11), (0, .int z31_1)]) hx hb dJI_numberOfLeadingZeros_54 hl (k := 1) rfl (by decide) (by decide) rfl (fun ls hl => ?_)
          refine lv_iload_n hx hb dJI_numberOfLeadingZeros_57 rfl (lv_at hl 1 rfl) ?_
          refine lv_iconst (v := 4) hx hb dJI_numberOfLeadingZeros_58 (by decide) ?_
          refine lv_iushr hx hb dJI_numberOfLeadingZeros_59 rfl ?_
          refine lv_topi (fun z59_1 ez59_1 => ?_)
          have r59_2 : rg z59_1 1 15 := (rg_of (show 1 ≤ z59_1.toInt ∧ z59_1.toInt ≤ 15 by have q0 := (eq_ushr (c := 16) (k := 4) ez59_1 (by decide) (rg_w (c := 0) (d := 255) r51_3 (by decide)).1 (by decide)); have q1 := r51_3.1; have q2 := r51_3.2; omega))
          refine lv_istore_n (lv' := [(0, .int z59_1), (1, .int 11)]) hx hb dJI_numberOfLeadingZeros_60 rfl hl (by decide) rfl (fun ls hl => ?_)
          refine lv_iload_n hx hb dJI_numberOfLeadingZeros_61 rfl (lv_at hl 0 rfl) ?_
          refine lv_iconst (v := 4) hx hb dJI_numberOfLeadingZeros_62 (by decide) ?_
          refine lv_icmp_lt (tgt := 73) hx hb dJI_numberOfLeadingZeros_63 (by decide) (fun c63_1 => ?_) (fun c63_1 => ?_)
          · have t63_2 := (i_lt c63_1)
            have r63_3 : rg z59_1 1 3 := rg_ltA t63_2 r59_2 (show rg (4 : Int32) 4 4 from rg_l (by decide)) (by decide)
            refine lv_iload_n hx hb dJI_numberOfLeadingZeros_73 rfl (lv_at hl 1 rfl) ?_
            refine lv_iload_n hx hb dJI_numberOfLeadingZeros_74 rfl (lv_at hl 0 rfl) ?_
            refine lv_iconst (v := 1) hx hb dJI_numberOfLeadingZeros_75 (by decide) ?_
            refine lv_iushr hx hb dJI_numberOfLeadingZeros_76 rfl ?_
            refine lv_topi (fun z76_1 ez76_1 => ?_)
            have r76_2 : rg z76_1 0 1 := (rg_of (show 0 ≤ z76_1.toInt ∧ z76_1.toInt ≤ 1 by have q0 := (eq_ushr (c := 2) (k := 1) ez76_1 (by decide) (rg_w (c := 0) (d := 3) r63_3 (by decide)).1 (by decide)); have q1 := (eq_ushr (c := 16) (k := 4) ez59_1 (by decide) (rg_w (c := 0) (d := 255) r51_3 (by decide)).1 (by decide)); have q2 := r51_3.1; have q3 := t63_2; have q4 := (show (4 : Int32).toInt = 4 from by decide); omega))
            refine lv_isub hx hb dJI_numberOfLeadingZeros_77 ?_
            refine lv_topi (fun z77_1 ez77_1 => ?_)
            have r77_2 : rg z77_1 10 11 := rg_sub ez77_1 (show rg (11 : Int32) 11 11 from rg_l (by decide)) r76_2 (by decide)
            exact endq_i hQ hx hb hr hlocks dJI_numberOfLeadingZeros_78 rfl () ⟨(rg_w r77_2 (by decide)), (NI_mk (n := 11) (a := 2097152) (b := 4194304) (show 0 < v0.toInt by have q0 := r22_3.1; omega) (show z77_1.toInt = 11 ∨ z77_1.toInt = 11 - 1 by have q0 := r77_2.2; have q1 := (eq_sub ez77_1 (show rg (11 : Int32) 11 11 from rg_l (by decide)) r76_2 (by decide)); have q2 := r76_2.2; have q3 := (show (11 : Int32).toInt = 11 from by decide); omega) (show z77_1.toInt = 11 → v0.toInt < 2097152 by have q0 := (eq_sub ez77_1 (show rg (11 : Int32) 11 11 from rg_l (by decide)) r76_2 (by decide)); have q1 := (eq_ushr (c := 2) (k := 1) ez76_1 (by decide) (rg_w (c := 0) (d := 3) r63_3 (by decide)).1 (by decide)); have q2 := (eq_ushr (c := 16) (k := 4) ez59_1 (by decide) (rg_w (c := 0) (d := 255) r51_3 (by decide)).1 (by decide)); have q3 := (eq_ushr (c := 65536) (k := 16) ez31_1 (by decide) (rg_w (c := 0) (d := 2147483647) r22_3 (by decide)).1 (by decide)); have q4 := (show (11 : Int32).toInt = 11 from by decide); omega) (show v0.toInt < 4194304 by have q0 := r76_2.2; have q1 := (eq_ushr (c := 2) (k := 1) ez76_1 (by decide) (rg_w (c := 0) (d := 3) r63_3 (by decide)).1 (by decide)); have q2 := (eq_ushr (c := 16) (k := 4) ez59_1 (by decide) (rg_w (c := 0) (d := 255) r51_3 (by decide)).1 (by decide)); have q3 := (eq_ushr (c := 65536) (k := 16) ez31_1 (by decide) (rg_w (c := 0) (d := 2147483647) r22_3 (by decide)).1 (by decide)); omega) (by decide))⟩ hP hD hS [] rfl (by decide) rfl (Nat.le_of_ble_eq_true rfl) (Nat.le_of_ble_eq_true rfl)
          · have t63_2 := (i_nlt c63_1)
            have r63_3 : rg z59_1 4 15 := rg_leB t63_2 (show rg (4 : Int32) 4 4 from rg_l (by decide)) r59_2 (by decide)
            refine lv_iinc (v := 9) (lv' := [(1, .int 9), (0, .int z59_1)]) hx hb dJI_numberOfLeadingZeros_66 hl (k := 1) rfl (by decide) (by decide) rfl (fun ls hl => ?_)
            refine lv_iload_n hx hb dJI_numberOfLeadingZeros_69 rfl (lv_at hl 1 rfl) ?_
            refine lv_iconst (v := 2) hx hb dJI_numberOfLeadingZeros_70 (by decide) ?_
            refine lv_iushr hx hb dJI_numberOfLeadingZeros_71 rfl ?_
            refine lv_topi (fun z71_1 ez71_1 => ?_)
            have r71_2 : rg z71_1 1 3 := (rg_of (show 1 ≤ z71_1.toInt ∧ z71_1.toInt ≤ 3 by have q0 := (eq_ushr (c := 4) (k := 2) ez71_1 (by decide) (rg_w (c := 0) (d := 15) r63_3 (by decide)).1 (by decide)); have q1 := r63_3.1; have q2 := r63_3.2; omega))
            refine lv_istore_n (lv' := [(0, .int z71_1), (1, .int 9)]) hx hb dJI_numberOfLeadingZeros_72 rfl hl (by decide) rfl (fun ls hl => ?_)
            refine lv_iload_n hx hb dJI_numberOfLeadingZeros_73 rfl (lv_at hl 1 rfl) ?_
            refine lv_iload_n hx hb dJI_numberOfLeadingZeros_74 rfl (lv_at hl 0 rfl) ?_
            refine lv_iconst (v := 1) hx hb dJI_numberOfLeadingZeros_75 (by decide) ?_
            refine lv_iushr hx hb dJI_numberOfLeadingZeros_76 rfl ?_
            refine lv_topi (fun z76_1 ez76_1 => ?_)
            have r76_2 : rg z76_1 0 1 := (rg_of (show 0 ≤ z76_1.toInt ∧ z76_1.toInt ≤ 1 by have q0 := (eq_ushr (c := 2) (k := 1) ez76_1 (by decide) (rg_w (c := 0) (d := 3) r71_2 (by decide)).1 (by decide)); have q1 := (eq_ushr (c := 4) (k := 2) ez71_1 (by decide) (rg_w (c := 0) (d := 15) r63_3 (by decide)).1 (by decide)); have q2 := r63_3.1; have q3 := (eq_ushr (c := 16) (k := 4) ez59_1 (by decide) (rg_w (c := 0) (d := 255) r51_3 (by decide)).1 (by decide)); have q4 := t37_2; have q5 := (show (256 : Int32).toInt = 256 from by decide); omega))
            refine lv_isub hx hb dJI_numberOfLeadingZeros_77 ?_
            refine lv_topi (fun z77_1 ez77_1 => ?_)
            have r77_2 : rg z77_1 8 9 := rg_sub ez77_1 (show rg (9 : Int32) 9 9 from rg_l (by decide)) r76_2 (by decide)
            exact endq_i hQ hx hb hr hlocks dJI_numberOfLeadingZeros_78 rfl () ⟨(rg_w r77_2 (by decide)), (NI_mk (n := 9) (a := 8388608) (b := 16777216) (show 0 < v0.toInt by have q0 := r22_3.1; omega) (show z77_1.toInt = 9 ∨ z77_1.toInt = 9 - 1 by have q0 := r77_2.2; have q1 := (eq_sub ez77_1 (show rg (9 : Int32) 9 9 from rg_l (by decide)) r76_2 (by decide)); have q2 := r76_2.2; have q3 := (show (9 : Int32).toInt = 9 from by decide); omega) (show z77_1.toInt = 9 → v0.toInt < 8388608 by have q0 := (eq_sub ez77_1 (show rg (9 : Int32) 9 9 from rg_l (by decide)) r76_2 (by decide)); have q1 := (eq_ushr (c := 2) (k := 1) ez76_1 (by decide) (rg_w (c := 0) (d := 3) r71_2 (by decide)).1 (by decide)); have q2 := (eq_ushr (c := 4) (k := 2) ez71_1 (by decide) (rg_w (c := 0) (d := 15) r63_3 (by decide)).1 (by decide)); have q3 := (eq_ushr (c := 16) (k := 4) ez59_1 (by decide) (rg_w (c := 0) (d := 255) r51_3 (by decide)).1 (by decide)); have q4 := (eq_ushr (c := 65536) (k := 16) ez31_1 (by decide) (rg_w (c := 0) (d := 2147483647) r22_3 (by decide)).1 (by decide)); have q5 := (show (9 : Int32).toInt = 9 from by decide); omega) (show v0.toInt < 16777216 by have q0 := r76_2.2; have q1 := (eq_ushr (c := 2) (k := 1) ez76_1 (by decide) (rg_w (c := 0) (d := 3) r71_2 (by decide)).1 (by decide)); have q2 := (eq_ushr (c := 4) (k := 2) ez71_1 (by decide) (rg_w (c := 0) (d := 15) r63_3 (by decide)).1 (by decide)); have q3 := (eq_ushr (c := 16) (k := 4) ez59_1 (by decide) (rg_w (c := 0) (d := 255) r51_3 (by decide)).1 (by decide)); have q4 := (eq_ushr (c := 65536) (k := 16) ez31_1 (by decide) (rg_w (c := 0) (d := 2147483647) r22_3 (by decide)).1 (by decide)); omega) (by decide))⟩ hP hD hS [] rfl (by decide) rfl (Nat.le_of_ble_eq_true rfl) (Nat.le_of_ble_eq_true rfl)
      · have t37_2 := (i_nlt c37_1)
        have r37_3 : rg z31_1 256 32767 := rg_leB t37_2 (show rg (256 : Int32) 256 256 from rg_l (by decide)) r31_2 (by decide)
        refine lv_iinc (v := 7) (lv' := [(1, .int 7), (0, .int z31_1)]) hx hb dJI_numberOfLeadingZeros_40 hl (k := 1) rfl (by decide) (by decide) rfl (fun ls hl => ?_)
        refine lv_iload_n hx hb dJI_numberOfLeadingZeros_43 rfl (lv_at hl 1 rfl) ?_
        refine lv_bipush (v := 8) hx hb dJI_numberOfLeadingZeros_44 (by decide) ?_
        refine lv_iushr hx hb dJI_numberOfLeadingZeros_46 rfl ?_
        refine lv_topi (fun z46_1 ez46_1 => ?_)
        have r46_2 : rg z46_1 1 127 := (rg_of (show 1 ≤ z46_1.toInt ∧ z46_1.toInt ≤ 127 by have q0 := (eq_ushr (c := 256) (k := 8) ez46_1 (by decide) (rg_w (c := 0) (d := 32767) r37_3 (by decide)).1 (by decide)); have q1 := r37_3.1; have q2 := r37_3.2; omega))
        refine lv_istore_n (lv' := [(0, .int z46_1), (1, .int 7)]) hx hb dJI_numberOfLeadingZeros_47 rfl hl (by decide) rfl (fun ls hl => ?_)
        refine lv_iload_n hx hb dJI_numberOfLeadingZeros_48 rfl (lv_at hl 0 rfl) ?_
        refine lv_bipush (v := 16) hx hb dJI_numberOfLeadingZeros_49 (by decide) ?_
        refine lv_icmp_lt (tgt := 61) hx hb dJI_numberOfLeadingZeros_51 (by decide) (fun c51_1 => ?_) (fun c51_1 => ?_)
        · have t51_2 := (i_lt c51_1)
          have r51_3 : rg z46_1 1 15 := rg_ltA t51_2 r46_2 (show rg (16 : Int32) 16 16 from rg_l (by decide)) (by decide)
          refine lv_iload_n hx hb dJI_numberOfLeadingZeros_61 rfl (lv_at hl 0 rfl) ?_
          refine lv_iconst (v := 4) hx hb dJI_numberOfLeadingZeros_62 (by decide) ?_
          refine lv_icmp_lt (tgt := 73) hx hb dJI_numberOfLeadingZeros_63 (by decide) (fun c63_1 => ?_) (fun c63_1 => ?_)
          · have t63_2 := (i_lt c63_1)
            have r63_3 : rg z46_1 1 3 := rg_ltA t63_2 r51_3 (show rg (4 : Int32) 4 4 from rg_l (by decide)) (by decide)
            refine lv_iload_n hx hb dJI_numberOfLeadingZeros_73 rfl (lv_at hl 1 rfl) ?_
            refine lv_iload_n hx hb dJI_numberOfLeadingZeros_74 rfl (lv_at hl 0 rfl) ?_
            refine lv_iconst (v := 1) hx hb dJI_numberOfLeadingZeros_75 (by decide) ?_
            refine lv_iushr hx hb dJI_numberOfLeadingZeros_76 rfl ?_
            refine lv_topi (fun z76_1 ez76_1 => ?_)
            have r76_2 : rg z76_1 0 1 := (rg_of (show 0 ≤ z76_1.toInt ∧ z76_1.toInt ≤ 1 by have q0 := (eq_ushr (c := 2) (k := 1) ez76_1 (by decide) (rg_w (c := 0) (d := 3) r63_3 (by decide)).1 (by decide)); have q1 := (eq_ushr (c := 256) (k := 8) ez46_1 (by decide) (rg_w (c := 0) (d := 32767) r37_3 (by decide)).1 (by decide)); have q2 := r37_3.1; have q3 := t63_2; have q4 := (show (4 : Int32).toInt = 4 from by decide); omega))
            refine lv_isub hx hb dJI_numberOfLeadingZeros_77 ?_
            refine lv_topi (fun z77_1 ez77_1 => ?_)
            have r77_2 : rg z77_1 6 7 := rg_sub ez77_1 (show rg (7 : Int32) 7 7 from rg_l (by decide)) r76_2 (by decide)
            exact endq_i hQ hx hb hr hlocks dJI_numberOfLeadingZeros_78 rfl () ⟨(rg_w r77_2 (by decide)), (NI_mk (n := 7) (a := 33554432) (b := 67108864) (show 0 < v0.toInt by have q0 := r22_3.1; omega) (show z77_1.toInt = 7 ∨ z77_1.toInt = 7 - 1 by have q0 := r77_2.2; have q1 := (eq_sub ez77_1 (show rg (7 : Int32) 7 7 from rg_l (by decide)) r76_2 (by decide)); have q2 := r76_2.2; have q3 := (show (7 : Int32).toInt = 7 from by decide); omega) (show z77_1.toInt = 7 → v0.toInt < 33554432 by have q0 := (eq_sub ez77_1 (show rg (7 : Int32) 7 7 from rg_l (by decide)) r76_2 (by decide)); have q1 := (eq_ushr (c := 2) (k := 1) ez76_1 (by decide) (rg_w (c := 0) (d := 3) r63_3 (by decide)).1 (by decide)); have q2 := (eq_ushr (c := 256) (k := 8) ez46_1 (by decide) (rg_w (c := 0) (d := 32767) r37_3 (by decide)).1 (by decide)); have q3 := (eq_ushr (c := 65536) (k := 16) ez31_1 (by decide) (rg_w (c := 0) (d := 2147483647) r22_3 (by decide)).1 (by decide)); have q4 := t37_2; have q5 := (show (256 : Int32).toInt = 256 from by decide); have q6 := (show (7 : Int32).toInt = 7 from by decide); omega) (show v0.toInt < 67108864 by have q0 := r22_3.2; have q1 := (eq_ushr (c := 256) (k := 8) ez46_1 (by decide) (rg_w (c := 0) (d := 32767) r37_3 (by decide)).1 (by decide)); have q2 := (eq_ushr (c := 65536) (k := 16) ez31_1 (by decide) (rg_w (c := 0) (d := 2147483647) r22_3 (by decide)).1 (by decide)); have q3 := t63_2; have q4 := (show (4 : Int32).toInt = 4 from by decide); omega) (by decide))⟩ hP hD hS [] rfl (by decide) rfl (Nat.le_of_ble_eq_true rfl) (Nat.le_of_ble_eq_true rfl)
          · have t63_2 := (i_nlt c63_1)
            have r63_3 : rg z46_1 4 15 := rg_leB t63_2 (show rg (4 : Int32) 4 4 from rg_l (by decide)) r51_3 (by decide)
            refine lv_iinc (v := 5) (lv' := [(1, .int 5), (0, .int z46_1)]) hx hb dJI_numberOfLeadingZeros_66 hl (k := 1) rfl (by decide) (by decide) rfl (fun ls hl => ?_)
            refine lv_iload_n hx hb dJI_numberOfLeadingZeros_69 rfl (lv_at hl 1 rfl) ?_
            refine lv_iconst (v := 2) hx hb dJI_numberOfLeadingZeros_70 (by decide) ?_
            refine lv_iushr hx hb dJI_numberOfLeadingZeros_71 rfl ?_
            refine lv_topi (fun z71_1 ez71_1 => ?_)
            have r71_2 : rg z71_1 1 3 := (rg_of (show 1 ≤ z71_1.toInt ∧ z71_1.toInt ≤ 3 by have q0 := (eq_ushr (c := 4) (k := 2) ez71_1 (by decide) (rg_w (c := 0) (d := 15) r63_3 (by decide)).1 (by decide)); have q1 := r63_3.2; have q2 := t63_2; have q3 := (show (4 : Int32).toInt = 4 from by decide); omega))
            refine lv_istore_n (lv' := [(0, .int z71_1), (1, .int 5)]) hx hb dJI_numberOfLeadingZeros_72 rfl hl (by decide) rfl (fun ls hl => ?_)
            refine lv_iload_n hx hb dJI_numberOfLeadingZeros_73 rfl (lv_at hl 1 rfl) ?_
            refine lv_iload_n hx hb dJI_numberOfLeadingZeros_74 rfl (lv_at hl 0 rfl) ?_
            refine lv_iconst (v := 1) hx hb dJI_numberOfLeadingZeros_75 (by decide) ?_
            refine lv_iushr hx hb dJI_numberOfLeadingZeros_76 rfl ?_
            refine lv_topi (fun z76_1 ez76_1 => ?_)
            have r76_2 : rg z76_1 0 1 := (rg_of (show 0 ≤ z76_1.toInt ∧ z76_1.toInt ≤ 1 by have q0 := (eq_ushr (c := 2) (k := 1) ez76_1 (by decide) (rg_w (c := 0) (d := 3) r71_2 (by decide)).1 (by decide)); have q1 := (eq_ushr (c := 4) (k := 2) ez71_1 (by decide) (rg_w (c := 0) (d := 15) r63_3 (by decide)).1 (by decide)); have q2 := t51_2; have q3 := t63_2; have q4 := (show (16 : Int32).toInt = 16 from by decide); have q5 := (show (4 : Int32).toInt = 4 from by decide); omega))
            refine lv_isub hx hb dJI_numberOfLeadingZeros_77 ?_
            refine lv_topi (fun z77_1 ez77_1 => ?_)
            have r77_2 : rg z77_1 4 5 := rg_sub ez77_1 (show rg (5 : Int32) 5 5 from rg_l (by decide)) r76_2 (by decide)
            exact endq_i hQ hx hb hr hlocks dJI_numberOfLeadingZeros_78 rfl () ⟨(rg_w r77_2 (by decide)), (NI_mk (n := 5) (a := 134217728) (b := 268435456) (show 0 < v0.toInt by have q0 := r22_3.1; omega) (show z77_1.toInt = 5 ∨ z77_1.toInt = 5 - 1 by have q0 := r77_2.2; have q1 := (eq_sub ez77_1 (show rg (5 : Int32) 5 5 from rg_l (by decide)) r76_2 (by decide)); have q2 := r76_2.2; have q3 := (show (5 : Int32).toInt = 5 from by decide); omega) (show z77_1.toInt = 5 → v0.toInt < 134217728 by have q0 := (eq_sub ez77_1 (show rg (5 : Int32) 5 5 from rg_l (by decide)) r76_2 (by decide)); have q1 := (eq_ushr (c := 2) (k := 1) ez76_1 (by decide) (rg_w (c := 0) (d := 3) r71_2 (by decide)).1 (by decide)); have q2 := (eq_ushr (c := 4) (k := 2) ez71_1 (by decide) (rg_w (c := 0) (d := 15) r63_3 (by decide)).1 (by decide)); have q3 := (eq_ushr (c := 256) (k := 8) ez46_1 (by decide) (rg_w (c := 0) (d := 32767) r37_3 (by decide)).1 (by decide)); have q4 := r37_3.2; have q5 := (eq_ushr (c := 65536) (k := 16) ez31_1 (by decide) (rg_w (c := 0) (d := 2147483647) r22_3 (by decide)).1 (by decide)); have q6 := t63_2; have q7 := (show (4 : Int32).toInt = 4 from by decide); have q8 := (show (5 : Int32).toInt = 5 from by decide); omega) (show v0.toInt < 268435456 by have q0 := r22_3.2; have q1 := (eq_ushr (c := 256) (k := 8) ez46_1 (by decide) (rg_w (c := 0) (d := 32767) r37_3 (by decide)).1 (by decide)); have q2 := (eq_ushr (c := 65536) (k := 16) ez31_1 (by decide) (rg_w (c := 0) (d := 2147483647) r22_3 (by decide)).1 (by decide)); have q3 := t51_2; have q4 := (show (16 : Int32).toInt = 16 from by decide); omega) (by decide))⟩ hP hD hS [] rfl (by decide) rfl (Nat.le_of_ble_eq_true rfl) (Nat.le_of_ble_eq_true rfl)
        · have t51_2 := (i_nlt c51_1)
          have r51_3 : rg z46_1 16 127 := rg_leB t51_2 (show rg (16 : Int32) 16 16 from rg_l (by decide)) r46_2 (by decide)
          refine lv_iinc (v := 3) (lv' := [(1, .int 3), (0, .int z46_1)]) hx hb dJI_numberOfLeadingZeros_54 hl (k := 1) rfl (by decide) (by decide) rfl (fun ls hl => ?_)
          refine lv_iload_n hx hb dJI_numberOfLeadingZeros_57 rfl (lv_at hl 1 rfl) ?_
          refine lv_iconst (v := 4) hx hb dJI_numberOfLeadingZeros_58 (by decide) ?_
          refine lv_iushr hx hb dJI_numberOfLeadingZeros_59 rfl ?_
          refine lv_topi (fun z59_1 ez59_1 => ?_)
          have r59_2 : rg z59_1 1 7 := (rg_of (show 1 ≤ z59_1.toInt ∧ z59_1.toInt ≤ 7 by have q0 := (eq_ushr (c := 16) (k := 4) ez59_1 (by decide) (rg_w (c := 0) (d := 127) r51_3 (by decide)).1 (by decide)); have q1 := r51_3.2; have q2 := t51_2; have q3 := (show (16 : Int32).toInt = 16 from by decide); omega))
          refine lv_istore_n (lv' := [(0, .int z59_1), (1, .int 3)]) hx hb dJI_numberOfLeadingZeros_60 rfl hl (by decide) rfl (fun ls hl => ?_)
          refine lv_iload_n hx hb dJI_numberOfLeadingZeros_61 rfl (lv_at hl 0 rfl) ?_
          refine lv_iconst (v := 4) hx hb dJI_numberOfLeadingZeros_62 (by decide) ?_
          refine lv_icmp_lt (tgt := 73) hx hb dJI_numberOfLeadingZeros_63 (by decide) (fun c63_1 => ?_) (fun c63_1 => ?_)
          · have t63_2 := (i_lt c63_1)
            have r63_3 : rg z59_1 1 3 := rg_ltA t63_2 r59_2 (show rg (4 : Int32) 4 4 from rg_l (by decide)) (by decide)
            refine lv_iload_n hx hb dJI_numberOfLeadingZeros_73 rfl (lv_at hl 1 rfl) ?_
            refine lv_iload_n hx hb dJI_numberOfLeadingZeros_74 rfl (lv_at hl 0 rfl) ?_
            refine lv_iconst (v := 1) hx hb dJI_numberOfLeadingZeros_75 (by decide) ?_
            refine lv_iushr hx hb dJI_numberOfLeadingZeros_76 rfl ?_
            refine lv_topi (fun z76_1 ez76_1 => ?_)
            have r76_2 : rg z76_1 0 1 := (rg_of (show 0 ≤ z76_1.toInt ∧ z76_1.toInt ≤ 1 by have q0 := (eq_ushr (c := 2) (k := 1) ez76_1 (by decide) (rg_w (c := 0) (d := 3) r63_3 (by decide)).1 (by decide)); have q1 := (eq_ushr (c := 16) (k := 4) ez59_1 (by decide) (rg_w (c := 0) (d := 127) r51_3 (by decide)).1 (by decide)); have q2 := t51_2; have q3 := t63_2; have q4 := (show (16 : Int32).toInt = 16 from by decide); have q5 := (show (4 : Int32).toInt = 4 from by decide); omega))
            refine lv_isub hx hb dJI_numberOfLeadingZeros_77 ?_
            refine lv_topi (fun z77_1 ez77_1 => ?_)
            have r77_2 : rg z77_1 2 3 := rg_sub ez77_1 (show rg (3 : Int32) 3 3 from rg_l (by decide)) r76_2 (by decide)
            exact endq_i hQ hx hb hr hlocks dJI_numberOfLeadingZeros_78 rfl () ⟨(rg_w r77_2 (by decide)), (NI_mk (n := 3) (a := 536870912) (b := 1073741824) (show 0 < v0.toInt by have q0 := r22_3.1; omega) (show z77_1.toInt = 3 ∨ z77_1.toInt = 3 - 1 by have q0 := r77_2.2; have q1 := (eq_sub ez77_1 (show rg (3 : Int32) 3 3 from rg_l (by decide)) r76_2 (by decide)); have q2 := (eq_ushr (c := 2) (k := 1) ez76_1 (by decide) (rg_w (c := 0) (d := 3) r63_3 (by decide)).1 (by decide)); have q3 := t63_2; have q4 := (show (3 : Int32).toInt = 3 from by decide); have q5 := (show (4 : Int32).toInt = 4 from by decide); omega) (show z77_1.toInt = 3 → v0.toInt < 536870912 by have q0 := (eq_sub ez77_1 (show rg (3 : Int32) 3 3 from rg_l (by decide)) r76_2 (by decide)); have q1 := (eq_ushr (c := 2) (k := 1) ez76_1 (by decide) (rg_w (c := 0) (d := 3) r63_3 (by decide)).1 (by decide)); have q2 := (eq_ushr (c := 16) (k := 4) ez59_1 (by decide) (rg_w (c := 0) (d := 127) r51_3 (by decide)).1 (by decide)); have q3 := (eq_ushr (c := 256) (k := 8) ez46_1 (by decide) (rg_w (c := 0) (d := 32767) r37_3 (by decide)).1 (by decide)); have q4 := r37_3.2; have q5 := (eq_ushr (c := 65536) (k := 16) ez31_1 (by decide) (rg_w (c := 0) (d := 2147483647) r22_3 (by decide)).1 (by decide)); have q6 := t51_2; have q7 := (show (16 : Int32).toInt = 16 from by decide); have q8 := (show (3 : Int32).toInt = 3 from by decide); omega) (show v0.toInt < 1073741824 by have q0 := r76_2.2; have q1 := (eq_ushr (c := 2) (k := 1) ez76_1 (by decide) (rg_w (c := 0) (d := 3) r63_3 (by decide)).1 (by decide)); have q2 := (eq_ushr (c := 16) (k := 4) ez59_1 (by decide) (rg_w (c := 0) (d := 127) r51_3 (by decide)).1 (by decide)); have q3 := (eq_ushr (c := 256) (k := 8) ez46_1 (by decide) (rg_w (c := 0) (d := 32767) r37_3 (by decide)).1 (by decide)); have q4 := (eq_ushr (c := 65536) (k := 16) ez31_1 (by decide) (rg_w (c := 0) (d := 2147483647) r22_3 (by decide)).1 (by decide)); omega) (by decide))⟩ hP hD hS [] rfl (by decide) rfl (Nat.le_of_ble_eq_true rfl) (Nat.le_of_ble_eq_true rfl)
          · have t63_2 := (i_nlt c63_1)
            have r63_3 : rg z59_1 4 7 := rg_leB t63_2 (show rg (4 : Int32) 4 4 from rg_l (by decide)) r59_2 (by decide)
            refine lv_iinc (v := 1) (lv' := [(1, .int 1), (0, .int z59_1)]) hx hb dJI_numberOfLeadingZeros_66 hl (k := 1) rfl (by decide) (by decide) rfl (fun ls hl => ?_)
            refine lv_iload_n hx hb dJI_numberOfLeadingZeros_69 rfl (lv_at hl 1 rfl) ?_
            refine lv_iconst (v := 2) hx hb dJI_numberOfLeadingZeros_70 (by decide) ?_
            refine lv_iushr hx hb dJI_numberOfLeadingZeros_71 rfl ?_
            refine lv_topi (fun z71_1 ez71_1 => ?_)
            have r71_2 : rg z71_1 1 1 := (rg_of (show 1 ≤ z71_1.toInt ∧ z71_1.toInt ≤ 1 by have q0 := (eq_ushr (c := 4) (k := 2) ez71_1 (by decide) (rg_w (c := 0) (d := 7) r63_3 (by decide)).1 (by decide)); have q1 := (eq_ushr (c := 16) (k := 4) ez59_1 (by decide) (rg_w (c := 0) (d := 127) r51_3 (by decide)).1 (by decide)); have q2 := (eq_ushr (c := 256) (k := 8) ez46_1 (by decide) (rg_w (c := 0) (d := 32767) r37_3 (by decide)).1 (by decide)); have q3 := (eq_ushr (c := 65536) (k := 16) ez31_1 (by decide) (rg_w (c := 0) (d := 2147483647) r22_3 (by decide)).1 (by decide)); have q4 := r22_3.2; have q5 := t37_2; have q6 := t63_2; have q7 := (show (256 : Int32).toInt = 256 from by decide); have q8 := (show (4 : Int32).toInt = 4 from by decide); omega))
            refine lv_istore_n (lv' := [(0, .int z71_1), (1, .int 1)]) hx hb dJI_numberOfLeadingZeros_72 rfl hl (by decide) rfl (fun ls hl => ?_)
            refine lv_iload_n hx hb dJI_numberOfLeadingZeros_73 rfl (lv_at hl 1 rfl) ?_
            refine lv_iload_n hx hb dJI_numberOfLeadingZeros_74 rfl (lv_at hl 0 rfl) ?_
            refine lv_iconst (v := 1) hx hb dJI_numberOfLeadingZeros_75 (by decide) ?_
            refine lv_iushr hx hb dJI_numberOfLeadingZeros_76 rfl ?_
            refine lv_topi (fun z76_1 ez76_1 => ?_)
            have r76_2 : rg z76_1 0 0 := (rg_of (show 0 ≤ z76_1.toInt ∧ z76_1.toInt ≤ 0 by have q0 := (eq_ushr (c := 2) (k := 1) ez76_1 (by decide) (rg_w (c := 0) (d := 1) r71_2 (by decide)).1 (by decide)); have q1 := (eq_ushr (c := 4) (k := 2) ez71_1 (by decide) (rg_w (c := 0) (d := 7) r63_3 (by decide)).1 (by decide)); have q2 := (eq_ushr (c := 16) (k := 4) ez59_1 (by decide) (rg_w (c := 0) (d := 127) r51_3 (by decide)).1 (by decide)); have q3 := (eq_ushr (c := 256) (k := 8) ez46_1 (by decide) (rg_w (c := 0) (d := 32767) r37_3 (by decide)).1 (by decide)); have q4 := (eq_ushr (c := 65536) (k := 16) ez31_1 (by decide) (rg_w (c := 0) (d := 2147483647) r22_3 (by decide)).1 (by decide)); have q5 := r22_3.2; have q6 := t37_2; have q7 := t63_2; have q8 := (show (256 : Int32).toInt = 256 from by decide); have q9 := (show (4 : Int32).toInt = 4 from by decide); omega))
            refine lv_isub hx hb dJI_numberOfLeadingZeros_77 ?_
            refine lv_topi (fun z77_1 ez77_1 => ?_)
            have r77_2 : rg z77_1 1 1 := rg_sub ez77_1 (show rg (1 : Int32) 1 1 from rg_l (by decide)) r76_2 (by decide)
            exact endq_i hQ hx hb hr hlocks dJI_numberOfLeadingZeros_78 rfl () ⟨(rg_w r77_2 (by decide)), (NI_mk (n := 1) (a := 2147483648) (b := 4294967296) (show 0 < v0.toInt by have q0 := r22_3.1; omega) (show z77_1.toInt = 1 ∨ z77_1.toInt = 1 - 1 by have q0 := (eq_sub ez77_1 (show rg (1 : Int32) 1 1 from rg_l (by decide)) r76_2 (by decide)); have q1 := (eq_ushr (c := 2) (k := 1) ez76_1 (by decide) (rg_w (c := 0) (d := 1) r71_2 (by decide)).1 (by decide)); have q2 := (eq_ushr (c := 4) (k := 2) ez71_1 (by decide) (rg_w (c := 0) (d := 7) r63_3 (by decide)).1 (by decide)); have q3 := (eq_ushr (c := 16) (k := 4) ez59_1 (by decide) (rg_w (c := 0) (d := 127) r51_3 (by decide)).1 (by decide)); have q4 := (eq_ushr (c := 256) (k := 8) ez46_1 (by decide) (rg_w (c := 0) (d := 32767) r37_3 (by decide)).1 (by decide)); have q5 := r37_3.2; have q6 := t63_2; have q7 := (show (1 : Int32).toInt = 1 from by decide); have q8 := (show (4 : Int32).toInt = 4 from by decide); omega) (show z77_1.toInt = 1 → v0.toInt < 2147483648 by have q0 := r37_3.2; have q1 := (eq_ushr (c := 65536) (k := 16) ez31_1 (by decide) (rg_w (c := 0) (d := 2147483647) r22_3 (by decide)).1 (by decide)); omega) (show v0.toInt < 4294967296 by have q0 := r22_3.2; omega) (by decide))⟩ hP hD hS [] rfl (by decide) rfl (Nat.le_of_ble_eq_true rfl) (Nat.le_of_ble_eq_true rfl)
  · have t1_2 := (i_nlt c1_1)
    have r1_3 : rg v0 (-2147483648) 0 := rg_leA t1_2 (rg_any v0) (show rg (0 : Int32) 0 0 from rg_l (by decide)) (by decide)
    refine lv_iload_n hx hb dJI_numberOfLeadingZeros_4 rfl (lv_at hl 0 rfl) ?_
    refine lv_if_ne (tgt := 13) hx hb dJI_numberOfLeadingZeros_5 (by decide) (fun c5_1 => ?_) (fun c5_1 => ?_)
    · have t5_2 := (i_ne c5_1)
      have r5_3 : rg v0 (-2147483648) (-1) := rg_neAh t5_2 r1_3 (show rg (0 : Int32) 0 0 from rg_l (by decide)) (by decide)
      refine lv_iconst (v := 0) hx hb dJI_numberOfLeadingZeros_13 (by decide) ?_
      exact endq_i hQ hx hb hr hlocks dJI_numberOfLeadingZeros_14 rfl () ⟨(rg_w (show rg (0 : Int32) 0 0 from rg_l (by decide)) (by decide)), (NI_n _)⟩ hP hD hS [] rfl (by decide) rfl (Nat.le_of_ble_eq_true rfl) (Nat.le_of_ble_eq_true rfl)
    · have t5_2 := (i_eq c5_1)
      have r5_3 : rg v0 0 0 := rg_eqA t5_2 r1_3 (show rg (0 : Int32) 0 0 from rg_l (by decide)) (by decide)
      refine lv_bipush (v := 32) hx hb dJI_numberOfLeadingZeros_8 (by decide) ?_
      refine lv_goto (tgt := 14) hx hb dJI_numberOfLeadingZeros_10 (by decide) ?_
      exact endq_i hQ hx hb hr hlocks dJI_numberOfLeadingZeros_14 rfl () ⟨(rg_w (show rg (32 : Int32) 32 32 from rg_l (by decide)) (by decide)), (NI_0 (show v0.toInt = 0 by have q0 := r5_3.1; have q1 := r5_3.2; omega))⟩ hP hD hS [] rfl (by decide) rfl (Nat.le_of_ble_eq_true rfl) (Nat.le_of_ble_eq_true rfl)
set_option maxHeartbeats 2000000 in
theorem c_JL_numberOfLeadingZeros_mo (l : Launch) (D : va_G) (ct : Nat → ClassId) (v0 : Int64)  : KI (S := Unit) l yJL_numberOfLeadingZeros cJL_numberOfLeadingZeros 3 (some .int) 2 41 D ct [.long v0] [] 0 0 (fun (r : Int32) (_ : Unit) => rg r 0 64 ∧ (NZ (UN v0) (r.toInt))) (fun (_ : Unit) => []) := by
  refine KIq_of (by decide) (Nat.le_of_ble_eq_true rfl) (fun p e s m below meth c A Q C0 hA H locs hS hP hD hQ ls hl => ?_)
  obtain ⟨hx, hb, hr, hown, hin, hml, hlocks, hn, hK, hZ, hSK⟩ := C0
  have hl : lv_has ls 3 [(0, .long v0)] := hl
  refine lv_lload_n hx hb dJL_numberOfLeadingZeros_0 rfl (lv_at hl 0 rfl) ?_
  refine lv_bipush (v := 32) hx hb dJL_numberOfLeadingZeros_1 (by decide) ?_
  refine lv_lushr hx hb dJL_numberOfLeadingZeros_3 rfl ?_
  refine lv_topl (fun z3_1 ez3_1 => ?_)
  refine lv_l2i hx hb dJL_numberOfLeadingZeros_4 rfl ?_
  refine lv_topi (fun z4_1 ez4_1 => ?_)
  refine lv_istore_n (lv' := [(2, .int z4_1), (0, .long v0)]) hx hb dJL_numberOfLeadingZeros_5 rfl hl (by decide) rfl (fun ls hl => ?_)
  refine lv_iload_n hx hb dJL_numberOfLeadingZeros_6 rfl (lv_at hl 0 rfl) ?_
  refine lv_if_ne (tgt := 21) hx hb dJL_numberOfLeadingZeros_7 (by decide) (fun c7_1 => ?_) (fun c7_1 => ?_)
  · have t7_2 := (i_ne c7_1)
    refine lv_iload_n hx hb dJL_numberOfLeadingZeros_21 rfl (lv_at hl 0 rfl) ?_
    refine go_i (k1 := 0) (n1 := 0) (wr := []) [] [] (rn_S (As := [.int z4_1]) (rest := []) (c_JI_numberOfLeadingZeros_mo l D ct z4_1  _) (cb_of (n := 1) hn mw_2517 mw_26 mw_2515 mhJI_numberOfLeadingZeros ⟨(Nat.le_of_ble_eq_true rfl), (Nat.le_of_ble_eq_true rfl)⟩) hx hb hml hown hn hK hSK hZ hS mw_2516 rfl hl.1 (Nat.le_of_ble_eq_true rfl) dJL_numberOfLeadingZeros_22 ⟨(Nat.le_of_ble_eq_true rfl), (Nat.le_of_ble_eq_true rfl)⟩) hP hD hS hA rfl rfl (by decide) (by decide) (by decide) (Nat.le_of_ble_eq_true rfl) (Nat.le_of_ble_eq_true rfl) (fun r22_1 u22_2 H locs hp22_3 hP hD hS => ?_)
    obtain ⟨hp22_4, hp22_5⟩ := hp22_3
    have hp22_4 : rg r22_1 0 32 := hp22_4
    have hp22_5 : NI (z4_1.toInt) (r22_1.toInt) := hp22_5
    have hP : va_P D vwCl [] _ := hP
    have hD : va_D A [] := hD
    exact endq_i hQ hx hb hr hlocks dJL_numberOfLeadingZeros_25 rfl () ⟨(rg_w hp22_4 (by decide)), (NZ_hi ez3_1 ez4_1 hp22_5 (show z4_1.toInt ≠ 0 by have q0 := t7_2; have q1 := (show (0 : Int32).toInt = 0 from by decide); omega))⟩ hP hD hS [] rfl (by decide) rfl (Nat.le_of_ble_eq_true rfl) (Nat.le_of_ble_eq_true rfl)
  · have t7_2 := (i_eq c7_1)
    have r7_3 : rg z4_1 0 0 := rg_eqA t7_2 (rg_any z4_1) (show rg (0 : Int32) 0 0 from rg_l (by decide)) (by decide)
    refine lv_bipush (v := 32) hx hb dJL_numberOfLeadingZeros_10 (by decide) ?_
    refine lv_lload_n hx hb dJL_numberOfLeadingZeros_12 rfl (lv_at hl 1 rfl) ?_
    refine lv_l2i hx hb dJL_numberOfLeadingZeros_13 rfl ?_
    refine lv_topi (fun z13_1 ez13_1 => ?_)
    refine go_i (k1 := 0) (n1 := 0) (wr := []) [] [] (rn_S (As := [.int z13_1]) (rest := [.int 32]) (c_JI_numberOfLeadingZeros_mo l D ct z13_1  _) (cb_of (n := 1) hn mw_2517 mw_26 mw_2515 mhJI_numberOfLeadingZeros ⟨(Nat.le_of_ble_eq_true rfl), (Nat.le_of_ble_eq_true rfl)⟩) hx hb hml hown hn hK hSK hZ hS mw_2516 rfl hl.1 (Nat.le_of_ble_eq_true rfl) dJL_numberOfLeadingZeros_14 ⟨(Nat.le_of_ble_eq_true rfl), (Nat.le_of_ble_eq_true rfl)⟩) hP hD hS hA rfl rfl (by decide) (by decide) (by decide) (Nat.le_of_ble_eq_true rfl) (Nat.le_of_ble_eq_true rfl) (fun r14_1 u14_2 H locs hp14_3 hP hD hS => ?_)
    obtain ⟨hp14_4, hp14_5⟩ := hp14_3
    have hp14_4 : rg r14_1 0 32 := hp14_4
    have hp14_5 : NI (z13_1.toInt) (r14_1.toInt) := hp14_5
    have hP : va_P D vwCl [] _ := hP
    have hD : va_D A [] := hD
    refine lv_iadd hx hb dJL_numberOfLeadingZeros_17 ?_
    refine lv_topi (fun z17_1 ez17_1 => ?_)
    have r17_2 : rg z17_1 32 64 := rg_add ez17_1 (show rg (32 : Int32) 32 32 from rg_l (by decide)) hp14_4 (by decide)
    refine lv_goto (tgt := 25) hx hb dJL_numberOfLeadingZeros_18 (by decide) ?_
    exact endq_i hQ hx hb hr hlocks dJL_numberOfLeadingZeros_25 rfl () ⟨(rg_w r17_2 (by decide)), (NZ_lo ez3_1 ez4_1 (show z4_1.toInt = 0 by have q0 := r7_3.1; have q1 := r7_3.2; omega) ez13_1 hp14_5 (show z17_1.toInt = 32 + r14_1.toInt by have q0 := (eq_add ez17_1 (show rg (32 : Int32) 32 32 from rg_l (by decide)) hp14_4 (by decide)); have q1 := (show (32 : Int32).toInt = 32 from by decide); omega))⟩ hP hD hS [] rfl (by decide) rfl (Nat.le_of_ble_eq_true rfl) (Nat.le_of_ble_eq_true rfl)
