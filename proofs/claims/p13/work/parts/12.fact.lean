set_option maxHeartbeats 2000000 in
theorem c_X1_lose (l : Launch) (D : va_G) (ct : Nat → ClassId) (L : List Nat) (g : Nat → va_E) (fa : Nat) (hfp : FP L g) (hm_fa : fa ∈ L) : KV (S := (Nat → va_E)) l yX1_lose cX1_lose 1 none 1 20 D ct [.ref fa] ([] ++ va_pl L g) 0 0 (fun (gp : (Nat → va_E)) => FP L gp) (fun (gp : (Nat → va_E)) => ([]) ++ va_pl L gp) := by
  refine KVq_of (by decide) (Nat.le_of_ble_eq_true rfl) (fun p e s m below meth c A Q C0 hA H locs hS hP hD hQ ls hl => ?_)
  obtain ⟨hx, hb, hr, hown, hin, hml, hlocks, hn, hK, hZ, hSK⟩ := C0
  have hl : lv_has ls 1 [(0, .ref fa)] := hl
  refine lv_aload_n hx hb dX1_lose_0 rfl (lv_at hl 0 rfl) ?_
  refine lv_iconst (v := 0) hx hb dX1_lose_1 (by decide) ?_
  refine fp_put0 hx hb hn hown hK hP hD hS hfp hm_fa mw_317 (x := 0) dX1_lose_2 (fun g2_1 H locs hf2_2 hP hD hS => ?_)
  refine lv_aload_n hx hb dX1_lose_5 rfl (lv_at hl 0 rfl) ?_
  refine lv_lconst (v := 0) hx hb dX1_lose_6 (by decide) ?_
  refine fp_put1 hx hb hn hown hK hP hD hS hf2_2 hm_fa mw_319 (x := 0) dX1_lose_7 (fun g7_1 H locs hf7_2 hP hD hS => ?_)
  refine lv_aload_n hx hb dX1_lose_10 rfl (lv_at hl 0 rfl) ?_
  refine lv_lconst (v := 0) hx hb dX1_lose_11 (by decide) ?_
  refine fp_put2 hx hb hn hown hK hP hD hS hf7_2 hm_fa mw_321 (x := 0) dX1_lose_12 (fun g12_1 H locs hf12_2 hP hD hS => ?_)
  refine lv_aload_n hx hb dX1_lose_15 rfl (lv_at hl 0 rfl) ?_
  refine lv_lconst (v := 0) hx hb dX1_lose_16 (by decide) ?_
  refine fp_put3 hx hb hn hown hK hP hD hS hf12_2 hm_fa mw_323 (x := 0) dX1_lose_17 (fun g17_1 H locs hf17_2 hP hD hS => ?_)
  refine lv_aload_n hx hb dX1_lose_20 rfl (lv_at hl 0 rfl) ?_
  refine lv_lconst (v := 0) hx hb dX1_lose_21 (by decide) ?_
  refine fp_put4 hx hb hn hown hK hP hD hS hf17_2 hm_fa mw_325 (x := 0) dX1_lose_22 (fun g22_1 H locs hf22_2 hP hD hS => ?_)
  exact endp_v hQ hx hb hr hlocks dX1_lose_25 g22_1 hf22_2 hP hD hS [] (by decide) rfl (Nat.le_of_ble_eq_true rfl) (Nat.le_of_ble_eq_true rfl)
set_option maxHeartbeats 2000000 in
theorem c_X1_copy (l : Launch) (D : va_G) (ct : Nat → ClassId) (L : List Nat) (g : Nat → va_E) (fa : Nat) (fb : Nat) (hfp : FP L g) (hm_fa : fa ∈ L) (hm_fb : fb ∈ L) : KV (S := (Nat → va_E)) l yX1_copy cX1_copy 2 none 1 20 D ct [.ref fa, .ref fb] ([] ++ va_pl L g) 0 0 (fun (gp : (Nat → va_E)) => FP L gp) (fun (gp : (Nat → va_E)) => ([]) ++ va_pl L gp) := by
  refine KVq_of (by decide) (Nat.le_of_ble_eq_true rfl) (fun p e s m below meth c A Q C0 hA H locs hS hP hD hQ ls hl => ?_)
  obtain ⟨hx, hb, hr, hown, hin, hml, hlocks, hn, hK, hZ, hSK⟩ := C0
  have hl : lv_has ls 2 [(0, .ref fa), (1, .ref fb)] := hl
  refine lv_aload_n hx hb dX1_copy_0 rfl (lv_at hl 0 rfl) ?_
  refine lv_aload_n hx hb dX1_copy_1 rfl (lv_at hl 1 rfl) ?_
  refine fp_get0 hx hb hn hown hK hP hfp hm_fb mw_317 dX1_copy_2 (fun x2_1 => ?_)
  refine fp_put0 hx hb hn hown hK hP hD hS hfp hm_fa mw_317 (x := x2_1) dX1_copy_5 (fun g5_1 H locs hf5_2 hP hD hS => ?_)
  refine lv_aload_n hx hb dX1_copy_8 rfl (lv_at hl 0 rfl) ?_
  refine lv_aload_n hx hb dX1_copy_9 rfl (lv_at hl 1 rfl) ?_
  refine fp_get1 hx hb hn hown hK hP hf5_2 hm_fb mw_319 dX1_copy_10 (fun x10_1 => ?_)
  refine fp_put1 hx hb hn hown hK hP hD hS hf5_2 hm_fa mw_319 (x := x10_1) dX1_copy_13 (fun g13_1 H locs hf13_2 hP hD hS => ?_)
  refine lv_aload_n hx hb dX1_copy_16 rfl (lv_at hl 0 rfl) ?_
  refine lv_aload_n hx hb dX1_copy_17 rfl (lv_at hl 1 rfl) ?_
  refine fp_get2 hx hb hn hown hK hP hf13_2 hm_fb mw_321 dX1_copy_18 (fun x18_1 => ?_)
  refine fp_put2 hx hb hn hown hK hP hD hS hf13_2 hm_fa mw_321 (x := x18_1) dX1_copy_21 (fun g21_1 H locs hf21_2 hP hD hS => ?_)
  refine lv_aload_n hx hb dX1_copy_24 rfl (lv_at hl 0 rfl) ?_
  refine lv_aload_n hx hb dX1_copy_25 rfl (lv_at hl 1 rfl) ?_
  refine fp_get3 hx hb hn hown hK hP hf21_2 hm_fb mw_323 dX1_copy_26 (fun x26_1 => ?_)
  refine fp_put3 hx hb hn hown hK hP hD hS hf21_2 hm_fa mw_323 (x := x26_1) dX1_copy_29 (fun g29_1 H locs hf29_2 hP hD hS => ?_)
  refine lv_aload_n hx hb dX1_copy_32 rfl (lv_at hl 0 rfl) ?_
  refine lv_aload_n hx hb dX1_copy_33 rfl (lv_at hl 1 rfl) ?_
  refine fp_get4 hx hb hn hown hK hP hf29_2 hm_fb mw_325 dX1_copy_34 (fun x34_1 => ?_)
  refine fp_put4 hx hb hn hown hK hP hD hS hf29_2 hm_fa mw_325 (x := x34_1) dX1_copy_37 (fun g37_1 H locs hf37_2 hP hD hS => ?_)
  exact endp_v hQ hx hb hr hlocks dX1_copy_40 g37_1 hf37_2 hP hD hS [] (by decide) rfl (Nat.le_of_ble_eq_true rfl) (Nat.le_of_ble_eq_true rfl)
set_option maxHeartbeats 2000000 in
theorem c_X1_setRange (l : Launch) (D : va_G) (ct : Nat → ClassId) (L : List Nat) (g : Nat → va_E) (fa : Nat) (v0 : Int64) (v1 : Int64) (hfp : FP L g) (hm_fa : fa ∈ L) : KV (S := (Nat → va_E)) l yX1_setRange cX1_setRange 5 none 1 20 D ct [.ref fa, .long v0, .long v1] ([] ++ va_pl L g) 0 0 (fun (gp : (Nat → va_E)) => FP L gp) (fun (gp : (Nat → va_E)) => ([]) ++ va_pl L gp) := by
  refine KVq_of (by decide) (Nat.le_of_ble_eq_true rfl) (fun p e s m below meth c A Q C0 hA H locs hS hP hD hQ ls hl => ?_)
  obtain ⟨hx, hb, hr, hown, hin, hml, hlocks, hn, hK, hZ, hSK⟩ := C0
  have hl : lv_has ls 5 [(0, .ref fa), (1, .long v0), (3, .long v1)] := hl
  refine lv_aload_n hx hb dX1_setRange_0 rfl (lv_at hl 0 rfl) ?_
  refine lv_iconst (v := 1) hx hb dX1_setRange_1 (by decide) ?_
  refine fp_put0 hx hb hn hown hK hP hD hS hfp hm_fa mw_317 (x := 1) dX1_setRange_2 (fun g2_1 H locs hf2_2 hP hD hS => ?_)
  refine lv_aload_n hx hb dX1_setRange_5 rfl (lv_at hl 0 rfl) ?_
  refine lv_lload_n hx hb dX1_setRange_6 rfl (lv_at hl 1 rfl) ?_
  refine fp_put1 hx hb hn hown hK hP hD hS hf2_2 hm_fa mw_319 (x := v0) dX1_setRange_7 (fun g7_1 H locs hf7_2 hP hD hS => ?_)
  refine lv_aload_n hx hb dX1_setRange_10 rfl (lv_at hl 0 rfl) ?_
  refine lv_lload_n hx hb dX1_setRange_11 rfl (lv_at hl 2 rfl) ?_
  refine fp_put2 hx hb hn hown hK hP hD hS hf7_2 hm_fa mw_321 (x := v1) dX1_setRange_12 (fun g12_1 H locs hf12_2 hP hD hS => ?_)
  refine lv_aload_n hx hb dX1_setRange_15 rfl (lv_at hl 0 rfl) ?_
  refine lv_lconst (v := 0) hx hb dX1_setRange_16 (by decide) ?_
  refine fp_put3 hx hb hn hown hK hP hD hS hf12_2 hm_fa mw_323 (x := 0) dX1_setRange_17 (fun g17_1 H locs hf17_2 hP hD hS => ?_)
  refine lv_aload_n hx hb dX1_setRange_20 rfl (lv_at hl 0 rfl) ?_
  refine lv_lconst (v := 0) hx hb dX1_setRange_21 (by decide) ?_
  refine fp_put4 hx hb hn hown hK hP hD hS hf17_2 hm_fa mw_325 (x := 0) dX1_setRange_22 (fun g22_1 H locs hf22_2 hP hD hS => ?_)
  exact endp_v hQ hx hb hr hlocks dX1_setRange_25 g22_1 hf22_2 hP hD hS [] (by decide) rfl (Nat.le_of_ble_eq_true rfl) (Nat.le_of_ble_eq_true rfl)
set_option maxHeartbeats 2000000 in
theorem c_X1_setExact (l : Launch) (D : va_G) (ct : Nat → ClassId) (L : List Nat) (g : Nat → va_E) (fa : Nat) (v0 : Int64) (hfp : FP L g) (hm_fa : fa ∈ L) : KV (S := (Nat → va_E)) l yX1_setExact cX1_setExact 3 none 2 44 D ct [.ref fa, .long v0] ([] ++ va_pl L g) 0 0 (fun (gp : (Nat → va_E)) => FP L gp) (fun (gp : (Nat → va_E)) => ([]) ++ va_pl L gp) := by
  refine KVq_of (by decide) (Nat.le_of_ble_eq_true rfl) (fun p e s m below meth c A Q C0 hA H locs hS hP hD hQ ls hl => ?_)
  obtain ⟨hx, hb, hr, hown, hin, hml, hlocks, hn, hK, hZ, hSK⟩ := C0
  have hl : lv_has ls 3 [(0, .ref fa), (1, .long v0)] := hl
  refine lv_aload_n hx hb dX1_setExact_0 rfl (lv_at hl 0 rfl) ?_
  refine lv_lload_n hx hb dX1_setExact_1 rfl (lv_at hl 1 rfl) ?_
  refine lv_lload_n hx hb dX1_setExact_2 rfl (lv_at hl 1 rfl) ?_
  obtain ⟨kj3_1, loj3_1, hij3_1, suj3_1, onj3_1, hej3_1⟩ := hfp fa hm_fa
  obtain ⟨j3_1, hj3_1⟩ := va_pl_get (X := []) (f := g) hm_fa
  rw [hej3_1] at hj3_1
  refine gp_v (k1 := 0) (n1 := 0) (wr := []) [] [] (rn_V (As := [.long v0, .long v0]) (rest := []) (c_X1_setRange l D ct L g fa v0 v0 hfp hm_fa _) (cb_of (n := 2) hn mw_1019 mw_12 mw_1024 mhX1_setRange ⟨(Nat.le_of_ble_eq_true rfl), (Nat.le_of_ble_eq_true rfl)⟩) hx hb hml hown hn hK hSK hZ hS mw_1018 mw_s99 (ci := 1) (q0 := j3_1) rfl rfl hj3_1 rfl hl.1 (Nat.le_of_ble_eq_true rfl) dX1_setExact_3 ⟨(Nat.le_of_ble_eq_true rfl), (Nat.le_of_ble_eq_true rfl)⟩) hP hD hS hA rfl rfl (by decide) (by decide) (by decide) (Nat.le_of_ble_eq_true rfl) (Nat.le_of_ble_eq_true rfl) (fun u3_3 H locs hp3_4 hP hD hS => ?_)
  have hp3_5 := hp3_4
  have hP : va_P D vwCl ([] ++ va_pl L u3_3) _ := hP
  have hD : va_D A ([] ++ va_pl L u3_3) := hD
  refine lv_aload_n hx hb dX1_setExact_6 rfl (lv_at hl 0 rfl) ?_
  refine lv_ldc2 (v := (-1)) hx hb hown (hn.get mw_1025 rfl) dX1_setExact_7 ?_
  refine fp_put3 hx hb hn hown hK hP hD hS hp3_5 hm_fa mw_323 (x := (-1)) dX1_setExact_10 (fun g10_1 H locs hf10_2 hP hD hS => ?_)
  refine lv_aload_n hx hb dX1_setExact_13 rfl (lv_at hl 0 rfl) ?_
  refine lv_lload_n hx hb dX1_setExact_14 rfl (lv_at hl 1 rfl) ?_
  refine fp_put4 hx hb hn hown hK hP hD hS hf10_2 hm_fa mw_325 (x := v0) dX1_setExact_15 (fun g15_1 H locs hf15_2 hP hD hS => ?_)
  exact endp_v hQ hx hb hr hlocks dX1_setExact_18 g15_1 hf15_2 hP hD hS [] (by decide) rfl (Nat.le_of_ble_eq_true rfl) (Nat.le_of_ble_eq_true rfl)
set_option maxHeartbeats 2000000 in
theorem c_X1_setBytes (l : Launch) (D : va_G) (ct : Nat → ClassId) (L : List Nat) (g : Nat → va_E) (fa : Nat) (v0 : Int32) (hfp : FP L g) (hm_fa : fa ∈ L) (h_v0 : rg v0 0 8) : KV (S := (Nat → va_E)) l yX1_setBytes cX1_setBytes 2 none 2 44 D ct [.ref fa, .int v0] ([] ++ va_pl L g) 0 0 (fun (gp : (Nat → va_E)) => FP L gp) (fun (gp : (Nat → va_E)) => ([]) ++ va_pl L gp) := by
  refine KVq_of (by decide) (Nat.le_of_ble_eq_true rfl) (fun p e s m below meth c A Q C0 hA H locs hS hP hD hQ ls hl => ?_)
  obtain ⟨hx, hb, hr, hown, hin, hml, hlocks, hn, hK, hZ, hSK⟩ := C0
  have hl : lv_has ls 2 [(0, .ref fa), (1, .int v0)] := hl
  refine lv_iload_n hx hb dX1_setBytes_0 rfl (lv_at hl 1 rfl) ?_
  refine lv_bipush (v := 8) hx hb dX1_setBytes_1 (by decide) ?_
  refine lv_icmp_lt (tgt := 15) hx hb dX1_setBytes_3 (by decide) (fun c3_1 => ?_) (fun c3_1 => ?_)
  · have t3_2 := (i_lt c3_1)
    have r3_3 : rg v0 0 7 := rg_ltA t3_2 h_v0 (show rg (8 : Int32) 8 8 from rg_l (by decide)) (by decide)
    refine lv_aload_n hx hb dX1_setBytes_15 rfl (lv_at hl 0 rfl) ?_
    refine lv_lconst (v := 0) hx hb dX1_setBytes_16 (by decide) ?_
    refine lv_lconst (v := 1) hx hb dX1_setBytes_17 (by decide) ?_
    refine lv_bipush (v := 8) hx hb dX1_setBytes_18 (by decide) ?_
    refine lv_iload_n hx hb dX1_setBytes_20 rfl (lv_at hl 1 rfl) ?_
    refine lv_imul hx hb dX1_setBytes_21 ?_
    refine lv_topi (fun z21_1 ez21_1 => ?_)
    have r21_2 : rg z21_1 0 56 := rg_mul ez21_1 (show rg (8 : Int32) 8 8 from rg_l (by decide)) r3_3 (by decide)
    refine lv_lshl hx hb dX1_setBytes_22 rfl ?_
    refine lv_topl (fun z22_1 ez22_1 => ?_)
    refine lv_lconst (v := 1) hx hb dX1_setBytes_23 (by decide) ?_
    refine lv_lsub hx hb dX1_setBytes_24 ?_
    refine lv_topl (fun z24_1 ez24_1 => ?_)
    obtain ⟨kj25_1, loj25_1, hij25_1, suj25_1, onj25_1, hej25_1⟩ := hfp fa hm_fa
    obtain ⟨j25_1, hj25_1⟩ := va_pl_get (X := []) (f := g) hm_fa
    rw [hej25_1] at hj25_1
    refine gp_v (k1 := 0) (n1 := 0) (wr := []) [] [] (rn_V (As := [.long 0, .long z24_1]) (rest := []) (c_X1_setRange l D ct L g fa (0 : Int64) z24_1 hfp hm_fa _) (cb_of (n := 2) hn mw_1019 mw_12 mw_1024 mhX1_setRange ⟨(Nat.le_of_ble_eq_true rfl), (Nat.le_of_ble_eq_true rfl)⟩) hx hb hml hown hn hK hSK hZ hS mw_1018 mw_s99 (ci := 1) (q0 := j25_1) rfl rfl hj25_1 rfl hl.1 (Nat.le_of_ble_eq_true rfl) dX1_setBytes_25 ⟨(Nat.le_of_ble_eq_true rfl), (Nat.le_of_ble_eq_true rfl)⟩) hP hD hS hA rfl rfl (by decide) (by decide) (by decide) (Nat.le_of_ble_eq_true rfl) (Nat.le_of_ble_eq_true rfl) (fun u25_3 H locs hp25_4 hP hD hS => ?_)
    have hp25_5 := hp25_4
    have hP : va_P D vwCl ([] ++ va_pl L u25_3) _ := hP
    have hD : va_D A ([] ++ va_pl L u25_3) := hD
    refine lv_aload_n hx hb dX1_setBytes_28 rfl (lv_at hl 0 rfl) ?_
    refine lv_ldc2 (v := (-1)) hx hb hown (hn.get mw_1025 rfl) dX1_setBytes_29 ?_
    refine lv_bipush (v := 8) hx hb dX1_setBytes_32 (by decide) ?_
    refine lv_iload_n hx hb dX1_setBytes_34 rfl (lv_at hl 1 rfl) ?_
    refine lv_imul hx hb dX1_setBytes_35 ?_
    refine lv_topi (fun z35_1 ez35_1 => ?_)
    have r35_2 : rg z35_1 0 56 := rg_mul ez35_1 (show rg (8 : Int32) 8 8 from rg_l (by decide)) r3_3 (by decide)
    refine lv_lshl hx hb dX1_setBytes_36 rfl ?_
    refine lv_topl (fun z36_1 ez36_1 => ?_)
    refine fp_put3 hx hb hn hown hK hP hD hS hp25_5 hm_fa mw_323 (x := z36_1) dX1_setBytes_37 (fun g37_1 H locs hf37_2 hP hD hS => ?_)
    exact endp_v hQ hx hb hr hlocks dX1_setBytes_40 g37_1 hf37_2 hP hD hS [] (by decide) rfl (Nat.le_of_ble_eq_true rfl) (Nat.le_of_ble_eq_true rfl)
  · have t3_2 := (i_nlt c3_1)
    have r3_3 : rg v0 8 8 := rg_leB t3_2 (show rg (8 : Int32) 8 8 from rg_l (by decide)) h_v0 (by decide)
    refine lv_aload_n hx hb dX1_setBytes_6 rfl (lv_at hl 0 rfl) ?_
    refine lv_lconst (v := 0) hx hb dX1_setBytes_7 (by decide) ?_
    refine lv_ldc2 (v := (-1)) hx hb hown (hn.get mw_1025 rfl) dX1_setBytes_8 ?_
    obtain ⟨kj11_1, loj11_1, hij11_1, suj11_1, onj11_1, hej11_1⟩ := hfp fa hm_fa
    obtain ⟨j11_1, hj11_1⟩ := va_pl_get (X := []) (f := g) hm_fa
    rw [hej11_1] at hj11_1
    refine gp_v (k1 := 0) (n1 := 0) (wr := []) [] [] (rn_V (As := [.long 0, .long (-1)]) (rest := []) (c_X1_setRange l D ct L g fa (0 : Int64) ((-1) : Int64) hfp hm_fa _) (cb_of (n := 2) hn mw_1019 mw_12 mw_1024 mhX1_setRange ⟨(Nat.le_of_ble_eq_true rfl), (Nat.le_of_ble_eq_true rfl)⟩) hx hb hml hown hn hK hSK hZ hS mw_1018 mw_s99 (ci := 1) (q0 := j11_1) rfl rfl hj11_1 rfl hl.1 (Nat.le_of_ble_eq_true rfl) dX1_setBytes_11 ⟨(Nat.le_of_ble_eq_true rfl), (Nat.le_of_ble_eq_true rfl)⟩) hP hD hS hA rfl rfl (by decide) (by decide) (by decide) (Nat.le_of_ble_eq_true rfl) (Nat.le_of_ble_eq_true rfl) (fun u11_3 H locs hp11_4 hP hD hS => ?_)
    have hp11_5 := hp11_4
    have hP : va_P D vwCl ([] ++ va_pl L u11_3) _ := hP
    have hD : va_D A ([] ++ va_pl L u11_3) := hD
    exact endp_v hQ hx hb hr hlocks dX1_setBytes_14 u11_3 hp11_5 hP hD hS [] (by decide) rfl (Nat.le_of_ble_eq_true rfl) (Nat.le_of_ble_eq_true rfl)
set_option maxHeartbeats 2000000 in
theorem c_X1_isExact (l : Launch) (D : va_G) (ct : Nat → ClassId) (L : List Nat) (g : Nat → va_E) (fa : Nat) (hfp : FP L g) (hm_fa : fa ∈ L) : KI (S := Unit) l yX1_isExact cX1_isExact 1 (some .boolean) 1 20 D ct [.ref fa] ([] ++ va_pl L g) 0 0 (fun (r : Int32) (_ : Unit) => rg r 0 1) (fun (_ : Unit) => ([]) ++ va_pl L g) := by
  refine KIq_of (by decide) (Nat.le_of_ble_eq_true rfl) (fun p e s m below meth c A Q C0 hA H locs hS hP hD hQ ls hl => ?_)
  obtain ⟨hx, hb, hr, hown, hin, hml, hlocks, hn, hK, hZ, hSK⟩ := C0
  have hl : lv_has ls 1 [(0, .ref fa)] := hl
  refine lv_aload_n hx hb dX1_isExact_0 rfl (lv_at hl 0 rfl) ?_
  refine fp_get1 hx hb hn hown hK hP hfp hm_fa mw_319 dX1_isExact_1 (fun x1_1 => ?_)
  refine lv_aload_n hx hb dX1_isExact_4 rfl (lv_at hl 0 rfl) ?_
  refine fp_get2 hx hb hn hown hK hP hfp hm_fa mw_321 dX1_isExact_5 (fun x5_1 => ?_)
  refine W.lcmp hx hb dX1_isExact_8 ?_
  refine lv_topi (fun z8_1 ez8_1 => ?_)
  refine lv_if_ne (tgt := 16) hx hb dX1_isExact_9 (by decide) (fun c9_1 => ?_) (fun c9_1 => ?_)
  · have t9_2 := (l_ne ez8_1 c9_1)
    refine lv_iconst (v := 0) hx hb dX1_isExact_16 (by decide) ?_
    exact endp_i hQ hx hb hr hlocks dX1_isExact_17 (by decide) () (rg_w (show rg (0 : Int32) 0 0 from rg_l (by decide)) (by decide)) hP hD hS [] (by decide) rfl (Nat.le_of_ble_eq_true rfl) (Nat.le_of_ble_eq_true rfl)
  · have t9_2 := (l_eq ez8_1 c9_1)
    refine lv_iconst (v := 1) hx hb dX1_isExact_12 (by decide) ?_
    refine lv_goto (tgt := 17) hx hb dX1_isExact_13 (by decide) ?_
    exact endp_i hQ hx hb hr hlocks dX1_isExact_17 (by decide) () (rg_w (show rg (1 : Int32) 1 1 from rg_l (by decide)) (by decide)) hP hD hS [] (by decide) rfl (Nat.le_of_ble_eq_true rfl) (Nat.le_of_ble_eq_true rfl)
set_option maxHeartbeats 2000000 in
theorem c_X1_settle (l : Launch) (D : va_G) (ct : Nat → ClassId) (L : List Nat) (g : Nat → va_E) (fa : Nat) (hfp : FP L g) (hm_fa : fa ∈ L) : KV (S := (Nat → va_E)) l yX1_settle cX1_settle 1 none 1 20 D ct [.ref fa] ([] ++ va_pl L g) 0 0 (fun (gp : (Nat → va_E)) => FP L gp) (fun (gp : (Nat → va_E)) => ([]) ++ va_pl L gp) := by
  refine KVq_of (by decide) (Nat.le_of_ble_eq_true rfl) (fun p e s m below meth c A Q C0 hA H locs hS hP hD hQ ls hl => ?_)
  obtain ⟨hx, hb, hr, hown, hin, hml, hlocks, hn, hK, hZ, hSK⟩ := C0
  have hl : lv_has ls 1 [(0, .ref fa)] := hl
  refine lv_aload_n hx hb dX1_settle_0 rfl (lv_at hl 0 rfl) ?_
  refine fp_get1 hx hb hn hown hK hP hfp hm_fa mw_319 dX1_settle_1 (fun x1_1 => ?_)
  refine lv_aload_n hx hb dX1_settle_4 rfl (lv_at hl 0 rfl) ?_
  refine fp_get2 hx hb hn hown hK hP hfp hm_fa mw_321 dX1_settle_5 (fun x5_1 => ?_)
  refine W.lcmp hx hb dX1_settle_8 ?_
  refine lv_topi (fun z8_1 ez8_1 => ?_)
  refine lv_if_ne (tgt := 30) hx hb dX1_settle_9 (by decide) (fun c9_1 => ?_) (fun c9_1 => ?_)
  · have t9_2 := (l_ne ez8_1 c9_1)
    refine lv_aload_n hx hb dX1_settle_30 rfl (lv_at hl 0 rfl) ?_
    refine fp_get3 hx hb hn hown hK hP hfp hm_fa mw_323 dX1_settle_31 (fun x31_1 => ?_)
    refine lv_ldc2 (v := (-1)) hx hb hown (hn.get mw_1025 rfl) dX1_settle_34 ?_
    refine W.lcmp hx hb dX1_settle_37 ?_
    refine lv_topi (fun z37_1 ez37_1 => ?_)
    refine lv_if_ne (tgt := 57) hx hb dX1_settle_38 (by decide) (fun c38_1 => ?_) (fun c38_1 => ?_)
    · have t38_2 := (l_ne ez37_1 c38_1)
      exact endp_v hQ hx hb hr hlocks dX1_settle_57 g hfp hP hD hS [] (by decide) rfl (Nat.le_of_ble_eq_true rfl) (Nat.le_of_ble_eq_true rfl)
    · have t38_2 := (l_eq ez37_1 c38_1)
      have r38_3 : rl x31_1 (-1) (-1) := rl_eqA t38_2 (rl_any x31_1) (show rl ((-1) : Int64) (-1) (-1) from rl_l (by decide)) (by decide)
      refine lv_aload_n hx hb dX1_settle_41 rfl (lv_at hl 0 rfl) ?_
      refine lv_aload_n hx hb dX1_settle_42 rfl (lv_at hl 0 rfl) ?_
      refine fp_get4 hx hb hn hown hK hP hfp hm_fa mw_325 dX1_settle_43 (fun x43_1 => ?_)
      refine fp_put1 hx hb hn hown hK hP hD hS hfp hm_fa mw_319 (x := x43_1) dX1_settle_46 (fun g46_1 H locs hf46_2 hP hD hS => ?_)
      refine lv_aload_n hx hb dX1_settle_49 rfl (lv_at hl 0 rfl) ?_
      refine lv_aload_n hx hb dX1_settle_50 rfl (lv_at hl 0 rfl) ?_
      refine fp_get4 hx hb hn hown hK hP hf46_2 hm_fa mw_325 dX1_settle_51 (fun x51_1 => ?_)
      refine fp_put2 hx hb hn hown hK hP hD hS hf46_2 hm_fa mw_321 (x := x51_1) dX1_settle_54 (fun g54_1 H locs hf54_2 hP hD hS => ?_)
      exact endp_v hQ hx hb hr hlocks dX1_settle_57 g54_1 hf54_2 hP hD hS [] (by decide) rfl (Nat.le_of_ble_eq_true rfl) (Nat.le_of_ble_eq_true rfl)
  · have t9_2 := (l_eq ez8_1 c9_1)
    refine lv_aload_n hx hb dX1_settle_12 rfl (lv_at hl 0 rfl) ?_
    refine lv_ldc2 (v := (-1)) hx hb hown (hn.get mw_1025 rfl) dX1_settle_13 ?_
    refine fp_put3 hx hb hn hown hK hP hD hS hfp hm_fa mw_323 (x := (-1)) dX1_settle_16 (fun g16_1 H locs hf16_2 hP hD hS => ?_)
    refine lv_aload_n hx hb dX1_settle_19 rfl (lv_at hl 0 rfl) ?_
    refine lv_aload_n hx hb dX1_settle_20 rfl (lv_at hl 0 rfl) ?_
    refine fp_get1 hx hb hn hown hK hP hf16_2 hm_fa mw_319 dX1_settle_21 (fun x21_1 => ?_)
    refine fp_put4 hx hb hn hown hK hP hD hS hf16_2 hm_fa mw_325 (x := x21_1) dX1_settle_24 (fun g24_1 H locs hf24_2 hP hD hS => ?_)
    refine lv_goto (tgt := 57) hx hb dX1_settle_27 (by decide) ?_
    exact endp_v hQ hx hb hr hlocks dX1_settle_57 g24_1 hf24_2 hP hD hS [] (by decide) rfl (Nat.le_of_ble_eq_true rfl) (Nat.le_of_ble_eq_true rfl)
set_option maxHeartbeats 2000000 in
theorem c_X1_cut (l : Launch) (D : va_G) (ct : Nat → ClassId) (L : List Nat) (g : Nat → va_E) (fa : Nat) (hfp : FP L g) (hm_fa : fa ∈ L) : KV (S := (Nat → va_E)) l yX1_cut cX1_cut 1 none 2 43 D ct [.ref fa] ([] ++ va_pl L g) 0 0 (fun (gp : (Nat → va_E)) => FP L gp) (fun (gp : (Nat → va_E)) => ([]) ++ va_pl L gp) := by
  refine KVq_of (by decide) (Nat.le_of_ble_eq_true rfl) (fun p e s m below meth c A Q C0 hA H locs hS hP hD hQ ls hl => ?_)
  obtain ⟨hx, hb, hr, hown, hin, hml, hlocks, hn, hK, hZ, hSK⟩ := C0
  have hl : lv_has ls 1 [(0, .ref fa)] := hl
  refine lv_ldc2 (v := 4294967295) hx hb hown (hn.get mw_1094 rfl) dX1_cut_0 ?_
  refine lv_aload_n hx hb dX1_cut_3 rfl (lv_at hl 0 rfl) ?_
  refine fp_get2 hx hb hn hown hK hP hfp hm_fa mw_321 dX1_cut_4 (fun x4_1 => ?_)
  refine gq_i (k1 := 0) (n1 := 0) (wr := []) [] [] (rn_SN (As := [.long 4294967295, .long x4_1]) (rest := []) (c_X11_below l D ct (4294967295 : Int64) x4_1  _) (cn_of (n := 2) hn mw_1040 mw_1 mw_1095 mhX11_below ⟨(Nat.le_of_ble_eq_true rfl), (Nat.le_of_ble_eq_true rfl)⟩) hx hb hml hown hn hK hSK hZ hS mw_1039 rfl hl.1 (Nat.le_of_ble_eq_true rfl) dX1_cut_7 ⟨(Nat.le_of_ble_eq_true rfl), (Nat.le_of_ble_eq_true rfl)⟩) hP hD hS hA rfl rfl (by decide) (by decide) (by decide) (Nat.le_of_ble_eq_true rfl) (Nat.le_of_ble_eq_true rfl) (fun r7_1 u7_2 H locs hp7_3 hP hD hS => ?_)
  have hp7_4 := hp7_3
  have hp7_4 : rg r7_1 0 1 := hp7_4
  have hP : va_P D vwCl ([] ++ va_pl L g) _ := hP
  have hD : va_D A ([] ++ va_pl L g) := hD
  have b25 : ∀ (j25_pool : Nat → va_E) (H : Heap) (locs : List Loc) (ls : Array Slot), (FP L j25_pool) → lv_has ls 1 [(0, .ref fa)] → va_P D vwCl ([] ++ va_pl L j25_pool) H → va_D A ([] ++ va_pl L j25_pool) → va_S A s.heap H locs → W p l e ({ frames := 2, cells := 0, slots := 0, locals := 43 }) s m [.ref fa].toArray below meth c H locs 0 0 Q (F0 m 25 ls []) := by
    intro j25_pool H locs ls hf25_1001 hl hP hD hS
    refine lv_aload_n hx hb dX1_cut_25 rfl (lv_at hl 0 rfl) ?_
    refine lv_dup hx hb dX1_cut_26 rfl ?_
    refine fp_get3 hx hb hn hown hK hP hf25_1001 hm_fa mw_323 dX1_cut_27 (fun x27_1 => ?_)
    refine lv_ldc2 (v := (-4294967296)) hx hb hown (hn.get mw_1096 rfl) dX1_cut_30 ?_
    refine lv_lor hx hb dX1_cut_33 ?_
    refine lv_topl (fun z33_1 ez33_1 => ?_)
    refine fp_put3 hx hb hn hown hK hP hD hS hf25_1001 hm_fa mw_323 (x := z33_1) dX1_cut_34 (fun g34_1 H locs hf34_2 hP hD hS => ?_)
    refine lv_aload_n hx hb dX1_cut_37 rfl (lv_at hl 0 rfl) ?_
    refine lv_dup hx hb dX1_cut_38 rfl ?_
    refine fp_get4 hx hb hn hown hK hP hf34_2 hm_fa mw_325 dX1_cut_39 (fun x39_1 => ?_)
    refine lv_ldc2 (v := 4294967295) hx hb hown (hn.get mw_1094 rfl) dX1_cut_42 ?_
    refine lv_land hx hb dX1_cut_45 ?_
    refine lv_topl (fun z45_1 ez45_1 => ?_)
    have r45_2 : rl z45_1 0 4294967295 := rgL_andr ez45_1 (show rl (4294967295 : Int64) 4294967295 4294967295 from rl_l (by decide)) (by decide)
    refine fp_put4 hx hb hn hown hK hP hD hS hf34_2 hm_fa mw_325 (x := z45_1) dX1_cut_46 (fun g46_1 H locs hf46_2 hP hD hS => ?_)
    refine lv_aload_n hx hb dX1_cut_49 rfl (lv_at hl 0 rfl) ?_
    obtain ⟨kj50_1, loj50_1, hij50_1, suj50_1, onj50_1, hej50_1⟩ := hf46_2 fa hm_fa
    obtain ⟨j50_1, hj50_1⟩ := va_pl_get (X := []) (f := g46_1) hm_fa
    rw [hej50_1] at hj50_1
    refine gp_v (k1 := 0) (n1 := 0) (wr := []) [] [] (rn_V (As := []) (rest := []) (c_X1_settle l D ct L g46_1 fa hf46_2 hm_fa _) (cb_of (n := 0) hn mw_1100 mw_12 mw_1097 mhX1_settle ⟨(Nat.le_of_ble_eq_true rfl), (Nat.le_of_ble_eq_true rfl)⟩) hx hb hml hown hn hK hSK hZ hS mw_1099 mw_s113 (ci := 1) (q0 := j50_1) rfl rfl hj50_1 rfl hl.1 (Nat.le_of_ble_eq_true rfl) dX1_cut_50 ⟨(Nat.le_of_ble_eq_true rfl), (Nat.le_of_ble_eq_true rfl)⟩) hP hD hS hA rfl rfl (by decide) (by decide) (by decide) (Nat.le_of_ble_eq_true rfl) (Nat.le_of_ble_eq_true rfl) (fun u50_3 H locs hp50_4 hP hD hS => ?_)
    have hp50_5 := hp50_4
    have hP : va_P D vwCl ([] ++ va_pl L u50_3) _ := hP
    have hD : va_D A ([] ++ va_pl L u50_3) := hD
    exact endp_v hQ hx hb hr hlocks dX1_cut_53 u50_3 hp50_5 hP hD hS [] (by decide) rfl (Nat.le_of_ble_eq_true rfl) (Nat.le_of_ble_eq_true rfl)
  refine lv_if_eq (tgt := 25) hx hb dX1_cut_10 (by decide) (fun c10_1 => ?_) (fun c10_1 => ?_)
  · have t10_2 := (i_eq c10_1)
    have r10_3 : rg r7_1 0 0 := rg_eqA t10_2 hp7_4 (show rg (0 : Int32) 0 0 from rg_l (by decide)) (by decide)
    exact b25 g H locs ls hfp (lv_sub hl [0] rfl) hP hD hS
  · have t10_2 := (i_ne c10_1)
    have r10_3 : rg r7_1 1 1 := rg_neAl t10_2 hp7_4 (show rg (0 : Int32) 0 0 from rg_l (by decide)) (by decide)
    refine lv_aload_n hx hb dX1_cut_13 rfl (lv_at hl 0 rfl) ?_
    refine lv_lconst (v := 0) hx hb dX1_cut_14 (by decide) ?_
    refine fp_put1 hx hb hn hown hK hP hD hS hfp hm_fa mw_319 (x := 0) dX1_cut_15 (fun g15_1 H locs hf15_2 hP hD hS => ?_)
    refine lv_aload_n hx hb dX1_cut_18 rfl (lv_at hl 0 rfl) ?_
    refine lv_ldc2 (v := 4294967295) hx hb hown (hn.get mw_1094 rfl) dX1_cut_19 ?_
    refine fp_put2 hx hb hn hown hK hP hD hS hf15_2 hm_fa mw_321 (x := 4294967295) dX1_cut_22 (fun g22_1 H locs hf22_2 hP hD hS => ?_)
    exact b25 g22_1 H locs ls hf22_2 (lv_sub hl [0] rfl) hP hD hS
set_option maxHeartbeats 2000000 in
theorem c_X1_filled (l : Launch) (D : va_G) (ct : Nat → ClassId) (v0 : Int64)  : KL (S := Unit) l yX1_filled cX1_filled 5 (some .long) 1 20 D ct [.long v0] [] 0 0 (fun (r : Int64) (_ : Unit) => True) (fun (_ : Unit) => []) := by
  refine KLq_of (by decide) (Nat.le_of_ble_eq_true rfl) (fun p e s m below meth c A Q C0 hA H locs hS hP hD hQ ls hl => ?_)
  obtain ⟨hx, hb, hr, hown, hin, hml, hlocks, hn, hK, hZ, hSK⟩ := C0
  have hl : lv_has ls 5 [(0, .long v0)] := hl
  refine lv_lload_n hx hb dX1_filled_0 rfl (lv_at hl 0 rfl) ?_
  refine lv_lstore_n (lv' := [(2, .long v0), (0, .long v0)]) hx hb dX1_filled_1 rfl hl (by decide) rfl (fun ls hl => ?_)
  refine lv_iconst (v := 1) hx hb dX1_filled_2 (by decide) ?_
  refine lv_istore (lv' := [(4, .int 1), (2, .long v0), (0, .long v0)]) hx hb dX1_filled_3 hl (by decide) rfl (fun ls hl => ?_)
  have b5 : ∀ (n : Nat) (j5_l2 : Int64) (j5_l4 : Int32) (H : Heap) (locs : List Loc) (ls : Array Slot), (rg j5_l4 1 126) → (128 - j5_l4.toInt).toNat < n → lv_has ls 5 [(2, .long j5_l2), (4, .int j5_l4)] → va_P D vwCl [] H → va_D A [] → va_S A s.heap H locs → W p l e ({ frames := 1, cells := 0, slots := 0, locals := 20 }) s m [.long v0].toArray below meth c H locs 0 0 Q (F0 m 5 ls []) := by
    intro n
    induction n with
    | zero => intros; rename_i hms _ _ _ _; exact absurd hms (Nat.not_lt_zero _)
    | succ n ih =>
      intro j5_l2 j5_l4 H locs ls r5_1001 hms hl hP hD hS
      refine lv_iload hx hb dX1_filled_5 (lv_at hl 1 rfl) ?_
      refine lv_bipush (v := 64) hx hb dX1_filled_7 (by decide) ?_
      refine lv_icmp_ge (tgt := 28) hx hb dX1_filled_9 (by decide) (fun c9_1 => ?_) (fun c9_1 => ?_)
      · have t9_2 := (i_le c9_1)
        have r9_3 : rg j5_l4 64 126 := rg_leB t9_2 (show rg (64 : Int32) 64 64 from rg_l (by decide)) r5_1001 (by decide)
        refine lv_lload_n hx hb dX1_filled_28 rfl (lv_at hl 0 rfl) ?_
        exact endq_l hQ hx hb hr hlocks dX1_filled_29 () trivial hP hD hS [] rfl (by decide) rfl (Nat.le_of_ble_eq_true rfl) (Nat.le_of_ble_eq_true rfl)
      · have t9_2 := (i_nle c9_1)
        have r9_3 : rg j5_l4 1 63 := rg_ltA t9_2 r5_1001 (show rg (64 : Int32) 64 64 from rg_l (by decide)) (by decide)
        refine lv_lload_n hx hb dX1_filled_12 rfl (lv_at hl 0 rfl) ?_
        refine lv_lload_n hx hb dX1_filled_13 rfl (lv_at hl 0 rfl) ?_
        refine lv_iload hx hb dX1_filled_14 (lv_at hl 1 rfl) ?_
        refine lv_lushr hx hb dX1_filled_16 rfl ?_
        refine lv_topl (fun z16_1 ez16_1 => ?_)
        refine lv_lor hx hb dX1_filled_17 ?_
        refine lv_topl (fun z17_1 ez17_1 => ?_)
        refine lv_lstore_n (lv' := [(2, .long z17_1), (4, .int j5_l4)]) hx hb dX1_filled_18 rfl hl (by decide) rfl (fun ls hl => ?_)
        refine lv_iload hx hb dX1_filled_19 (lv_at hl 1 rfl) ?_
        refine lv_iconst (v := 2) hx hb dX1_filled_21 (by decide) ?_
        refine lv_imul hx hb dX1_filled_22 ?_
        refine lv_topi (fun z22_1 ez22_1 => ?_)
        have r22_2 : rg z22_1 2 126 := rg_mul ez22_1 r9_3 (show rg (2 : Int32) 2 2 from rg_l (by decide)) (by decide)
        refine lv_istore (lv' := [(4, .int z22_1), (2, .long z17_1)]) hx hb dX1_filled_23 hl (by decide) rfl (fun ls hl => ?_)
        refine lv_goto (tgt := 5) hx hb dX1_filled_25 (by decide) ?_
        exact ih z17_1 z22_1 H locs ls (rg_w r22_2 (by decide)) (show (128 - z22_1.toInt).toNat < n by have q0 := r9_3.1; have q1 := r9_3.2; have q2 := r22_2.1; have q3 := r22_2.2; have q4 := (eq_mulr ez22_1 r9_3 (show rg (2 : Int32) 2 2 from rg_l (by decide)) (by decide)); have q5 := (show rg (2 : Int32) 2 2 from rg_l (by decide)).1; have q6 := (show rg (2 : Int32) 2 2 from rg_l (by decide)).2; have q7 := (show rg (64 : Int32) 64 64 from rg_l (by decide)).1; have q8 := (show rg (64 : Int32) 64 64 from rg_l (by decide)).2; have q9 := t9_2; have q10 := hms; omega) (lv_sub hl [1, 0] rfl) hP hD hS
  exact b5 _ v0 (1 : Int32) H locs ls (rg_w (show rg (1 : Int32) 1 1 from rg_l (by decide)) (by decide)) (Nat.lt_succ_self _) (lv_sub hl [1, 0] rfl) hP hD hS
set_option maxHeartbeats 2000000 in
theorem c_X1_addBits (l : Launch) (D : va_G) (ct : Nat → ClassId) (L : List Nat) (g : Nat → va_E) (fa : Nat) (fb : Nat) (hfp : FP L g) (hm_fa : fa ∈ L) (hm_fb : fb ∈ L) : KV (S := (Nat → va_E)) l yX1_addBits cX1_addBits 6 none 1 20 D ct [.ref fa, .ref fb] ([] ++ va_pl L g) 0 0 (fun (gp : (Nat → va_E)) => FP L gp) (fun (gp : (Nat → va_E)) => ([]) ++ va_pl L gp) := by
  refine KVq_of (by decide) (Nat.le_of_ble_eq_true rfl) (fun p e s m below meth c A Q C0 hA H locs hS hP hD hQ ls hl => ?_)
  obtain ⟨hx, hb, hr, hown, hin, hml, hlocks, hn, hK, hZ, hSK⟩ := C0
  have hl : lv_has ls 6 [(0, .ref fa), (1, .ref fb)] := hl
  refine lv_aload_n hx hb dX1_addBits_0 rfl (lv_at hl 0 rfl) ?_
  refine fp_get4 hx hb hn hown hK hP hfp hm_fa mw_325 dX1_addBits_1 (fun x1_1 => ?_)
  refine lv_aload_n hx hb dX1_addBits_4 rfl (lv_at hl 1 rfl) ?_
  refine fp_get4 hx hb hn hown hK hP hfp hm_fb mw_325 dX1_addBits_5 (fun x5_1 => ?_)
  refine lv_ladd hx hb dX1_addBits_8 ?_
  refine lv_topl (fun z8_1 ez8_1 => ?_)
  refine lv_lstore_n (lv' := [(2, .long z8_1), (0, .ref fa), (1, .ref fb)]) hx hb dX1_addBits_9 rfl hl (by decide) rfl (fun ls hl => ?_)
  refine lv_lload_n hx hb dX1_addBits_10 rfl (lv_at hl 0 rfl) ?_
  refine lv_aload_n hx hb dX1_addBits_11 rfl (lv_at hl 1 rfl) ?_
  refine fp_get3 hx hb hn hown hK hP hfp hm_fa mw_323 dX1_addBits_12 (fun x12_1 => ?_)
  refine lv_ldc2 (v := (-1)) hx hb hown (hn.get mw_1025 rfl) dX1_addBits_15 ?_
  refine lv_lxor hx hb dX1_addBits_18 ?_
  refine lv_topl (fun z18_1 ez18_1 => ?_)
  refine lv_ladd hx hb dX1_addBits_19 ?_
  refine lv_topl (fun z19_1 ez19_1 => ?_)
  refine lv_aload_n hx hb dX1_addBits_20 rfl (lv_at hl 2 rfl) ?_
  refine fp_get3 hx hb hn hown hK hP hfp hm_fb mw_323 dX1_addBits_21 (fun x21_1 => ?_)
  refine lv_ldc2 (v := (-1)) hx hb hown (hn.get mw_1025 rfl) dX1_addBits_24 ?_
  refine lv_lxor hx hb dX1_addBits_27 ?_
  refine lv_topl (fun z27_1 ez27_1 => ?_)
  refine lv_ladd hx hb dX1_addBits_28 ?_
  refine lv_topl (fun z28_1 ez28_1 => ?_)
  refine lv_lstore (lv' := [(4, .long z28_1), (2, .long z8_1), (0, .ref fa), (1, .ref fb)]) hx hb dX1_addBits_29 hl (by decide) rfl (fun ls hl => ?_)
  refine lv_aload_n hx hb dX1_addBits_31 rfl (lv_at hl 2 rfl) ?_
  refine lv_lload_n hx hb dX1_addBits_32 rfl (lv_at hl 1 rfl) ?_
  refine lv_lload hx hb dX1_addBits_33 (lv_at hl 0 rfl) ?_
  refine lv_lxor hx hb dX1_addBits_35 ?_
  refine lv_topl (fun z35_1 ez35_1 => ?_)
  refine lv_aload_n hx hb dX1_addBits_36 rfl (lv_at hl 2 rfl) ?_
  refine fp_get3 hx hb hn hown hK hP hfp hm_fa mw_323 dX1_addBits_37 (fun x37_1 => ?_)
  refine lv_ldc2 (v := (-1)) hx hb hown (hn.get mw_1025 rfl) dX1_addBits_40 ?_
  refine lv_lxor hx hb dX1_addBits_43 ?_
  refine lv_topl (fun z43_1 ez43_1 => ?_)
  refine lv_lor hx hb dX1_addBits_44 ?_
  refine lv_topl (fun z44_1 ez44_1 => ?_)
  refine lv_aload_n hx hb dX1_addBits_45 rfl (lv_at hl 3 rfl) ?_
  refine fp_get3 hx hb hn hown hK hP hfp hm_fb mw_323 dX1_addBits_46 (fun x46_1 => ?_)
  refine lv_ldc2 (v := (-1)) hx hb hown (hn.get mw_1025 rfl) dX1_addBits_49 ?_
  refine lv_lxor hx hb dX1_addBits_52 ?_
  refine lv_topl (fun z52_1 ez52_1 => ?_)
  refine lv_lor hx hb dX1_addBits_53 ?_
  refine lv_topl (fun z53_1 ez53_1 => ?_)
  refine lv_ldc2 (v := (-1)) hx hb hown (hn.get mw_1025 rfl) dX1_addBits_54 ?_
  refine lv_lxor hx hb dX1_addBits_57 ?_
  refine lv_topl (fun z57_1 ez57_1 => ?_)
  refine fp_put3 hx hb hn hown hK hP hD hS hfp hm_fa mw_323 (x := z57_1) dX1_addBits_58 (fun g58_1 H locs hf58_2 hP hD hS => ?_)
  refine lv_aload_n hx hb dX1_addBits_61 rfl (lv_at hl 2 rfl) ?_
  refine lv_lload_n hx hb dX1_addBits_62 rfl (lv_at hl 1 rfl) ?_
  refine lv_aload_n hx hb dX1_addBits_63 rfl (lv_at hl 2 rfl) ?_
  refine fp_get3 hx hb hn hown hK hP hf58_2 hm_fa mw_323 dX1_addBits_64 (fun x64_1 => ?_)
  refine lv_land hx hb dX1_addBits_67 ?_
  refine lv_topl (fun z67_1 ez67_1 => ?_)
  refine fp_put4 hx hb hn hown hK hP hD hS hf58_2 hm_fa mw_325 (x := z67_1) dX1_addBits_68 (fun g68_1 H locs hf68_2 hP hD hS => ?_)
  exact endp_v hQ hx hb hr hlocks dX1_addBits_71 g68_1 hf68_2 hP hD hS [] (by decide) rfl (Nat.le_of_ble_eq_true rfl) (Nat.le_of_ble_eq_true rfl)
set_option maxHeartbeats 2000000 in
theorem c_X1_takeBits (l : Launch) (D : va_G) (ct : Nat → ClassId) (L : List Nat) (g : Nat → va_E) (fa : Nat) (fb : Nat) (hfp : FP L g) (hm_fa : fa ∈ L) (hm_fb : fb ∈ L) : KV (S := (Nat → va_E)) l yX1_takeBits cX1_takeBits 8 none 1 20 D ct [.ref fa, .ref fb] ([] ++ va_pl L g) 0 0 (fun (gp : (Nat → va_E)) => FP L gp) (fun (gp : (Nat → va_E)) => ([]) ++ va_pl L gp) := by
  refine KVq_of (by decide) (Nat.le_of_ble_eq_true rfl) (fun p e s m below meth c A Q C0 hA H locs hS hP hD hQ ls hl => ?_)
  obtain ⟨hx, hb, hr, hown, hin, hml, hlocks, hn, hK, hZ, hSK⟩ := C0
  have hl : lv_has ls 8 [(0, .ref fa), (1, .ref fb)] := hl
  refine lv_aload_n hx hb dX1_takeBits_0 rfl (lv_at hl 0 rfl) ?_
  refine fp_get4 hx hb hn hown hK hP hfp hm_fa mw_325 dX1_takeBits_1 (fun x1_1 => ?_)
  refine lv_aload_n hx hb dX1_takeBits_4 rfl (lv_at hl 1 rfl) ?_
  refine fp_get4 hx hb hn hown hK hP hfp hm_fb mw_325 dX1_takeBits_5 (fun x5_1 => ?_)
  refine lv_lsub hx hb dX1_takeBits_8 ?_
  refine lv_topl (fun z8_1 ez8_1 => ?_)
  refine lv_lstore_n (lv' := [(2, .long z8_1), (0, .ref fa), (1, .ref fb)]) hx hb dX1_takeBits_9 rfl hl (by decide) rfl (fun ls hl => ?_)
  refine lv_lload_n hx hb dX1_takeBits_10 rfl (lv_at hl 0 rfl) ?_
  refine lv_aload_n hx hb dX1_takeBits_11 rfl (lv_at hl 1 rfl) ?_
  refine fp_get3 hx hb hn hown hK hP hfp hm_fa mw_323 dX1_takeBits_12 (fun x12_1 => ?_)
  refine lv_ldc2 (v := (-1)) hx hb hown (hn.get mw_1025 rfl) dX1_takeBits_15 ?_
  refine lv_lxor hx hb dX1_takeBits_18 ?_
  refine lv_topl (fun z18_1 ez18_1 => ?_)
  refine lv_ladd hx hb dX1_takeBits_19 ?_
  refine lv_topl (fun z19_1 ez19_1 => ?_)
  refine lv_lstore (lv' := [(4, .long z19_1), (2, .long z8_1), (0, .ref fa), (1, .ref fb)]) hx hb dX1_takeBits_20 hl (by decide) rfl (fun ls hl => ?_)
  refine lv_lload_n hx hb dX1_takeBits_22 rfl (lv_at hl 1 rfl) ?_
  refine lv_aload_n hx hb dX1_takeBits_23 rfl (lv_at hl 3 rfl) ?_
  refine fp_get3 hx hb hn hown hK hP hfp hm_fb mw_323 dX1_takeBits_24 (fun x24_1 => ?_)
  refine lv_ldc2 (v := (-1)) hx hb hown (hn.get mw_1025 rfl) dX1_takeBits_27 ?_
  refine lv_lxor hx hb dX1_takeBits_30 ?_
  refine lv_topl (fun z30_1 ez30_1 => ?_)
  refine lv_lsub hx hb dX1_takeBits_31 ?_
  refine lv_topl (fun z31_1 ez31_1 => ?_)
  refine lv_lstore (lv' := [(6, .long z31_1), (4, .long z19_1), (2, .long z8_1), (0, .ref fa), (1, .ref fb)]) hx hb dX1_takeBits_32 hl (by decide) rfl (fun ls hl => ?_)
  refine lv_aload_n hx hb dX1_takeBits_34 rfl (lv_at hl 3 rfl) ?_
  refine lv_lload hx hb dX1_takeBits_35 (lv_at hl 1 rfl) ?_
  refine lv_lload hx hb dX1_takeBits_37 (lv_at hl 0 rfl) ?_
  refine lv_lxor hx hb dX1_takeBits_39 ?_
  refine lv_topl (fun z39_1 ez39_1 => ?_)
  refine lv_aload_n hx hb dX1_takeBits_40 rfl (lv_at hl 3 rfl) ?_
  refine fp_get3 hx hb hn hown hK hP hfp hm_fa mw_323 dX1_takeBits_41 (fun x41_1 => ?_)
  refine lv_ldc2 (v := (-1)) hx hb hown (hn.get mw_1025 rfl) dX1_takeBits_44 ?_
  refine lv_lxor hx hb dX1_takeBits_47 ?_
  refine lv_topl (fun z47_1 ez47_1 => ?_)
  refine lv_lor hx hb dX1_takeBits_48 ?_
  refine lv_topl (fun z48_1 ez48_1 => ?_)
  refine lv_aload_n hx hb dX1_takeBits_49 rfl (lv_at hl 4 rfl) ?_
  refine fp_get3 hx hb hn hown hK hP hfp hm_fb mw_323 dX1_takeBits_50 (fun x50_1 => ?_)
  refine lv_ldc2 (v := (-1)) hx hb hown (hn.get mw_1025 rfl) dX1_takeBits_53 ?_
  refine lv_lxor hx hb dX1_takeBits_56 ?_
  refine lv_topl (fun z56_1 ez56_1 => ?_)
  refine lv_lor hx hb dX1_takeBits_57 ?_
  refine lv_topl (fun z57_1 ez57_1 => ?_)
  refine lv_ldc2 (v := (-1)) hx hb hown (hn.get mw_1025 rfl) dX1_takeBits_58 ?_
  refine lv_lxor hx hb dX1_takeBits_61 ?_
  refine lv_topl (fun z61_1 ez61_1 => ?_)
  refine fp_put3 hx hb hn hown hK hP hD hS hfp hm_fa mw_323 (x := z61_1) dX1_takeBits_62 (fun g62_1 H locs hf62_2 hP hD hS => ?_)
  refine lv_aload_n hx hb dX1_takeBits_65 rfl (lv_at hl 3 rfl) ?_
  refine lv_lload_n hx hb dX1_takeBits_66 rfl (lv_at hl 2 rfl) ?_
  refine lv_aload_n hx hb dX1_takeBits_67 rfl (lv_at hl 3 rfl) ?_
  refine fp_get3 hx hb hn hown hK hP hf62_2 hm_fa mw_323 dX1_takeBits_68 (fun x68_1 => ?_)
  refine lv_land hx hb dX1_takeBits_71 ?_
  refine lv_topl (fun z71_1 ez71_1 => ?_)
  refine fp_put4 hx hb hn hown hK hP hD hS hf62_2 hm_fa mw_325 (x := z71_1) dX1_takeBits_72 (fun g72_1 H locs hf72_2 hP hD hS => ?_)
  exact endp_v hQ hx hb hr hlocks dX1_takeBits_75 g72_1 hf72_2 hP hD hS [] (by decide) rfl (Nat.le_of_ble_eq_true rfl) (Nat.le_of_ble_eq_true rfl)
set_option maxHeartbeats 2000000 in
theorem c_X1_isUnsigned (l : Launch) (D : va_G) (ct : Nat → ClassId) (L : List Nat) (g : Nat → va_E) (fa : Nat) (v0 : Int32) (hfp : FP L g) (hm_fa : fa ∈ L) (h_v0 : rg v0 0 1) : KI (S := Unit) l yX1_isUnsigned cX1_isUnsigned 2 (some .boolean) 1 20 D ct [.ref fa, .int v0] ([] ++ va_pl L g) 0 0 (fun (r : Int32) (_ : Unit) => rg r 0 1) (fun (_ : Unit) => ([]) ++ va_pl L g) := by
  refine KIq_of (by decide) (Nat.le_of_ble_eq_true rfl) (fun p e s m below meth c A Q C0 hA H locs hS hP hD hQ ls hl => ?_)
  obtain ⟨hx, hb, hr, hown, hin, hml, hlocks, hn, hK, hZ, hSK⟩ := C0
  have hl : lv_has ls 2 [(0, .ref fa), (1, .int v0)] := hl
  refine lv_iload_n hx hb dX1_isUnsigned_0 rfl (lv_at hl 1 rfl) ?_
  refine lv_if_eq (tgt := 21) hx hb dX1_isUnsigned_1 (by decide) (fun c1_1 => ?_) (fun c1_1 => ?_)
  · have t1_2 := (i_eq c1_1)
    have r1_3 : rg v0 0 0 := rg_eqA t1_2 h_v0 (show rg (0 : Int32) 0 0 from rg_l (by decide)) (by decide)
    refine lv_aload_n hx hb dX1_isUnsigned_21 rfl (lv_at hl 0 rfl) ?_
    refine fp_get2 hx hb hn hown hK hP hfp hm_fa mw_321 dX1_isUnsigned_22 (fun x22_1 => ?_)
    refine lv_lconst (v := 0) hx hb dX1_isUnsigned_25 (by decide) ?_
    refine W.lcmp hx hb dX1_isUnsigned_26 ?_
    refine lv_topi (fun z26_1 ez26_1 => ?_)
    refine lv_if_lt (tgt := 45) hx hb dX1_isUnsigned_27 (by decide) (fun c27_1 => ?_) (fun c27_1 => ?_)
    · have t27_2 := (l_lt ez26_1 c27_1)
      have r27_3 : rl x22_1 (-9223372036854775808) (-1) := rl_ltA t27_2 (rl_any x22_1) (show rl (0 : Int64) 0 0 from rl_l (by decide)) (by decide)
      refine lv_iconst (v := 0) hx hb dX1_isUnsigned_45 (by decide) ?_
      exact endp_i hQ hx hb hr hlocks dX1_isUnsigned_46 (by decide) () (rg_w (show rg (0 : Int32) 0 0 from rg_l (by decide)) (by decide)) hP hD hS [] (by decide) rfl (Nat.le_of_ble_eq_true rfl) (Nat.le_of_ble_eq_true rfl)
    · have t27_2 := (l_nlt ez26_1 c27_1)
      have r27_3 : rl x22_1 0 9223372036854775807 := rl_leB t27_2 (show rl (0 : Int64) 0 0 from rl_l (by decide)) (rl_any x22_1) (by decide)
      refine lv_aload_n hx hb dX1_isUnsigned_30 rfl (lv_at hl 0 rfl) ?_
      refine fp_get2 hx hb hn hown hK hP hfp hm_fa mw_321 dX1_isUnsigned_31 (fun x31_1 => ?_)
      refine lv_ldc2 (v := 2147483647) hx hb hown (hn.get mw_1129 rfl) dX1_isUnsigned_34 ?_
      refine W.lcmp hx hb dX1_isUnsigned_37 ?_
      refine lv_topi (fun z37_1 ez37_1 => ?_)
      refine lv_if_gt (tgt := 45) hx hb dX1_isUnsigned_38 (by decide) (fun c38_1 => ?_) (fun c38_1 => ?_)
      · have t38_2 := (l_gt ez37_1 c38_1)
        have r38_3 : rl x31_1 2147483648 9223372036854775807 := rl_ltB t38_2 (show rl (2147483647 : Int64) 2147483647 2147483647 from rl_l (by decide)) (rl_any x31_1) (by decide)
        refine lv_iconst (v := 0) hx hb dX1_isUnsigned_45 (by decide) ?_
        exact endp_i hQ hx hb hr hlocks dX1_isUnsigned_46 (by decide) () (rg_w (show rg (0 : Int32) 0 0 from rg_l (by decide)) (by decide)) hP hD hS [] (by decide) rfl (Nat.le_of_ble_eq_true rfl) (Nat.le_of_ble_eq_true rfl)
      · have t38_2 := (l_ngt ez37_1 c38_1)
        have r38_3 : rl x31_1 (-9223372036854775808) 2147483647 := rl_leA t38_2 (rl_any x31_1) (show rl (2147483647 : Int64) 2147483647 2147483647 from rl_l (by decide)) (by decide)
        refine lv_iconst (v := 1) hx hb dX1_isUnsigned_41 (by decide) ?_
        refine lv_goto (tgt := 46) hx hb dX1_isUnsigned_42 (by decide) ?_
        exact endp_i hQ hx hb hr hlocks dX1_isUnsigned_46 (by decide) () (rg_w (show rg (1 : Int32) 1 1 from rg_l (by decide)) (by decide)) hP hD hS [] (by decide) rfl (Nat.le_of_ble_eq_true rfl) (Nat.le_of_ble_eq_true rfl)
  · have t1_2 := (i_ne c1_1)
    have r1_3 : rg v0 1 1 := rg_neAl t1_2 h_v0 (show rg (0 : Int32) 0 0 from rg_l (by decide)) (by decide)
    refine lv_aload_n hx hb dX1_isUnsigned_4 rfl (lv_at hl 0 rfl) ?_
    refine fp_get2 hx hb hn hown hK hP hfp hm_fa mw_321 dX1_isUnsigned_5 (fun x5_1 => ?_)
    refine lv_lconst (v := 0) hx hb dX1_isUnsigned_8 (by decide) ?_
    refine W.lcmp hx hb dX1_isUnsigned_9 ?_
    refine lv_topi (fun z9_1 ez9_1 => ?_)
    refine lv_if_lt (tgt := 17) hx hb dX1_isUnsigned_10 (by decide) (fun c10_1 => ?_) (fun c10_1 => ?_)
    · have t10_2 := (l_lt ez9_1 c10_1)
      have r10_3 : rl x5_1 (-9223372036854775808) (-1) := rl_ltA t10_2 (rl_any x5_1) (show rl (0 : Int64) 0 0 from rl_l (by decide)) (by decide)
      refine lv_iconst (v := 0) hx hb dX1_isUnsigned_17 (by decide) ?_
      refine lv_goto (tgt := 46) hx hb dX1_isUnsigned_18 (by decide) ?_
      exact endp_i hQ hx hb hr hlocks dX1_isUnsigned_46 (by decide) () (rg_w (show rg (0 : Int32) 0 0 from rg_l (by decide)) (by decide)) hP hD hS [] (by decide) rfl (Nat.le_of_ble_eq_true rfl) (Nat.le_of_ble_eq_true rfl)
    · have t10_2 := (l_nlt ez9_1 c10_1)
      have r10_3 : rl x5_1 0 9223372036854775807 := rl_leB t10_2 (show rl (0 : Int64) 0 0 from rl_l (by decide)) (rl_any x5_1) (by decide)
      refine lv_iconst (v := 1) hx hb dX1_isUnsigned_13 (by decide) ?_
      refine lv_goto (tgt := 46) hx hb dX1_isUnsigned_14 (by decide) ?_
      exact endp_i hQ hx hb hr hlocks dX1_isUnsigned_46 (by decide) () (rg_w (show rg (1 : Int32) 1 1 from rg_l (by decide)) (by decide)) hP hD hS [] (by decide) rfl (Nat.le_of_ble_eq_true rfl) (Nat.le_of_ble_eq_true rfl)
set_option maxHeartbeats 2000000 in
theorem c_X1_shiftBits (l : Launch) (D : va_G) (ct : Nat → ClassId) (L : List Nat) (g : Nat → va_E) (fa : Nat) (fb : Nat) (v0 : Int32) (v1 : Int32) (hfp : FP L g) (hm_fa : fa ∈ L) (hm_fb : fb ∈ L) (h_v1 : rg v1 0 1) : KV (S := (Nat → va_E)) l yX1_shiftBits cX1_shiftBits 7 none 2 41 D ct [.ref fa, .int v0, .int v1, .ref fb] ([] ++ va_pl L g) 0 0 (fun (gp : (Nat → va_E)) => FP L gp) (fun (gp : (Nat → va_E)) => ([]) ++ va_pl L gp) := by
  refine KVq_of (by decide) (Nat.le_of_ble_eq_true rfl) (fun p e s m below meth c A Q C0 hA H locs hS hP hD hQ ls hl => ?_)
  obtain ⟨hx, hb, hr, hown, hin, hml, hlocks, hn, hK, hZ, hSK⟩ := C0
  have hl : lv_has ls 7 [(0, .ref fa), (1, .int v0), (2, .int v1), (3, .ref fb)] := hl
  refine lv_iload_n hx hb dX1_shiftBits_0 rfl (lv_at hl 1 rfl) ?_
  refine lv_bipush (v := 6) hx hb dX1_shiftBits_1 (by decide) ?_
  have b11 : ∀ (j11_s0 : Int32) (H : Heap) (locs : List Loc) (ls : Array Slot), (rg j11_s0 0 1) → lv_has ls 7 [(0, .ref fa), (1, .int v0), (2, .int v1), (3, .ref fb)] → va_P D vwCl ([] ++ va_pl L g) H → va_D A ([] ++ va_pl L g) → va_S A s.heap H locs → W p l e ({ frames := 2, cells := 0, slots := 0, locals := 41 }) s m [.ref fa, .int v0, .int v1, .ref fb].toArray below meth c H locs 0 0 Q (F0 m 11 ls [.int j11_s0]) := by
    intro j11_s0 H locs ls r11_1001 hl hP hD hS
    refine lv_istore (lv' := [(4, .int j11_s0), (0, .ref fa), (1, .int v0), (2, .int v1), (3, .ref fb)]) hx hb dX1_shiftBits_11 hl (by decide) rfl (fun ls hl => ?_)
    refine lv_iload_n hx hb dX1_shiftBits_13 rfl (lv_at hl 2 rfl) ?_
    refine lv_bipush (v := 7) hx hb dX1_shiftBits_14 (by decide) ?_
    have b38 : ∀ (j38_s0 : Int32) (H : Heap) (locs : List Loc) (ls : Array Slot), (rg j38_s0 0 1) → lv_has ls 7 [(0, .ref fa), (2, .int v1), (3, .ref fb), (4, .int j11_s0)] → va_P D vwCl ([] ++ va_pl L g) H → va_D A ([] ++ va_pl L g) → va_S A s.heap H locs → W p l e ({ frames := 2, cells := 0, slots := 0, locals := 41 }) s m [.ref fa, .int v0, .int v1, .ref fb].toArray below meth c H locs 0 0 Q (F0 m 38 ls [.int j38_s0]) := by
      intro j38_s0 H locs ls r38_1001 hl hP hD hS
      refine lv_istore (lv' := [(5, .int j38_s0), (0, .ref fa), (2, .int v1), (3, .ref fb), (4, .int j11_s0)]) hx hb dX1_shiftBits_38 hl (by decide) rfl (fun ls hl => ?_)
      refine lv_iload hx hb dX1_shiftBits_40 (lv_at hl 4 rfl) ?_
      have b57 : ∀  (H : Heap) (locs : List Loc) (ls : Array Slot), lv_has ls 7 [(0, .ref fa)] → va_P D vwCl ([] ++ va_pl L g) H → va_D A ([] ++ va_pl L g) → va_S A s.heap H locs → W p l e ({ frames := 2, cells := 0, slots := 0, locals := 41 }) s m [.ref fa, .int v0, .int v1, .ref fb].toArray below meth c H locs 0 0 Q (F0 m 57 ls []) := by
        intro  H locs ls  hl hP hD hS
        refine lv_aload_n hx hb dX1_shiftBits_57 rfl (lv_at hl 0 rfl) ?_
        refine lv_lconst (v := 0) hx hb dX1_shiftBits_58 (by decide) ?_
        refine fp_put3 hx hb hn hown hK hP hD hS hfp hm_fa mw_323 (x := 0) dX1_shiftBits_59 (fun g59_1 H locs hf59_2 hP hD hS => ?_)
        refine lv_aload_n hx hb dX1_shiftBits_62 rfl (lv_at hl 0 rfl) ?_
        refine lv_lconst (v := 0) hx hb dX1_shiftBits_63 (by decide) ?_
        refine fp_put4 hx hb hn hown hK hP hD hS hf59_2 hm_fa mw_325 (x := 0) dX1_shiftBits_64 (fun g64_1 H locs hf64_2 hP hD hS => ?_)
        exact endp_v hQ hx hb hr hlocks dX1_shiftBits_67 g64_1 hf64_2 hP hD hS [] (by decide) rfl (Nat.le_of_ble_eq_true rfl) (Nat.le_of_ble_eq_true rfl)
      have b50 : ∀  (H : Heap) (locs : List Loc) (ls : Array Slot), lv_has ls 7 [(0, .ref fa), (2, .int v1), (3, .ref fb), (4, .int j11_s0)] → va_P D vwCl ([] ++ va_pl L g) H → va_D A ([] ++ va_pl L g) → va_S A s.heap H locs → W p l e ({ frames := 2, cells := 0, slots := 0, locals := 41 }) s m [.ref fa, .int v0, .int v1, .ref fb].toArray below meth c H locs 0 0 Q (F0 m 50 ls []) := by
        intro  H locs ls  hl hP hD hS
        refine lv_aload_n hx hb dX1_shiftBits_50 rfl (lv_at hl 2 rfl) ?_
        obtain ⟨kj51_1, loj51_1, hij51_1, suj51_1, onj51_1, hej51_1⟩ := hfp fb hm_fb
        obtain ⟨j51_1, hj51_1⟩ := va_pl_get (X := []) (f := g) hm_fb
        rw [hej51_1] at hj51_1
        refine gp_i (k1 := 0) (n1 := 0) (wr := []) [] [] (rn_V (As := []) (rest := []) (c_X1_isExact l D ct L g fb hfp hm_fb _) (cb_of (n := 0) hn mw_1133 mw_12 mw_1130 mhX1_isExact ⟨(Nat.le_of_ble_eq_true rfl), (Nat.le_of_ble_eq_true rfl)⟩) hx hb hml hown hn hK hSK hZ hS mw_1132 mw_s119 (ci := 1) (q0 := j51_1) rfl rfl hj51_1 rfl hl.1 (Nat.le_of_ble_eq_true rfl) dX1_shiftBits_51 ⟨(Nat.le_of_ble_eq_true rfl), (Nat.le_of_ble_eq_true rfl)⟩) hP hD hS hA rfl rfl (by decide) (by decide) (by decide) (Nat.le_of_ble_eq_true rfl) (Nat.le_of_ble_eq_true rfl) (fun r51_2 u51_3 H locs hp51_4 hP hD hS => ?_)
        have hp51_5 := hp51_4
        have hp51_5 : rg r51_2 0 1 := hp51_5
        have hP : va_P D vwCl ([] ++ va_pl L g) _ := hP
        have hD : va_D A ([] ++ va_pl L g) := hD
        refine lv_if_ne (tgt := 68) hx hb dX1_shiftBits_54 (by decide) (fun c54_1 => ?_) (fun c54_1 => ?_)
        · have t54_2 := (i_ne c54_1)
          have r54_3 : rg r51_2 1 1 := rg_neAl t54_2 hp51_5 (show rg (0 : Int32) 0 0 from rg_l (by decide)) (by decide)
          refine lv_aload_n hx hb dX1_shiftBits_68 rfl (lv_at hl 2 rfl) ?_
          refine fp_get1 hx hb hn hown hK hP hfp hm_fb mw_319 dX1_shiftBits_69 (fun x69_1 => ?_)
          refine lv_iload_n hx hb dX1_shiftBits_72 rfl (lv_at hl 1 rfl) ?_
          have b83 : ∀ (j83_s0 : Int32) (H : Heap) (locs : List Loc) (ls : Array Slot), (rg j83_s0 31 63) → lv_has ls 7 [(0, .ref fa), (4, .int j11_s0)] → va_P D vwCl ([] ++ va_pl L g) H → va_D A ([] ++ va_pl L g) → va_S A s.heap H locs → W p l e ({ frames := 2, cells := 0, slots := 0, locals := 41 }) s m [.ref fa, .int v0, .int v1, .ref fb].toArray below meth c H locs 0 0 Q (F0 m 83 ls [.int j83_s0, .long x69_1]) := by
            intro j83_s0 H locs ls r83_1001 hl hP hD hS
            refine lv_i2l hx hb dX1_shiftBits_83 rfl ?_
            refine lv_topl (fun z83_1 ez83_1 => ?_)
            have r83_2 : rl z83_1 31 63 := rl_i2l ez83_1 r83_1001
            refine lv_land hx hb dX1_shiftBits_84 ?_
            refine lv_topl (fun z84_1 ez84_1 => ?_)
            have r84_2 : rl z84_1 0 63 := rgL_andr ez84_1 r83_2 (by decide)
            refine lv_l2i hx hb dX1_shiftBits_85 rfl ?_
            refine lv_topi (fun z85_1 ez85_1 => ?_)
            have r85_2 : rg z85_1 0 63 := rg_l2i ez85_1 r84_2 (by decide)
            refine lv_istore (lv' := [(6, .int z85_1), (0, .ref fa), (4, .int j11_s0)]) hx hb dX1_shiftBits_86 hl (by decide) rfl (fun ls hl => ?_)
            refine lv_iload hx hb dX1_shiftBits_88 (lv_at hl 2 rfl) ?_
            refine lv_if_eq (tgt := 126) hx hb dX1_shiftBits_90 (by decide) (fun c90_1 => ?_) (fun c90_1 => ?_)
            · have t90_2 := (i_eq c90_1)
              have r90_3 : rg j11_s0 0 0 := rg_eqA t90_2 r11_1001 (show rg (0 : Int32) 0 0 from rg_l (by decide)) (by decide)
              refine lv_aload_n hx hb dX1_shiftBits_126 rfl (lv_at hl 1 rfl) ?_
              refine lv_aload_n hx hb dX1_shiftBits_127 rfl (lv_at hl 1 rfl) ?_
              refine fp_get3 hx hb hn hown hK hP hfp hm_fa mw_323 dX1_shiftBits_128 (fun x128_1 => ?_)
              refine lv_ldc2 (v := (-1)) hx hb hown (hn.get mw_1025 rfl) dX1_shiftBits_131 ?_
              refine lv_lxor hx hb dX1_shiftBits_134 ?_
              refine lv_topl (fun z134_1 ez134_1 => ?_)
              refine lv_iload hx hb dX1_shiftBits_135 (lv_at hl 0 rfl) ?_
              refine lv_lushr hx hb dX1_shiftBits_137 rfl ?_
              refine lv_topl (fun z137_1 ez137_1 => ?_)
              refine lv_ldc2 (v := (-1)) hx hb hown (hn.get mw_1025 rfl) dX1_shiftBits_138 ?_
              refine lv_lxor hx hb dX1_shiftBits_141 ?_
              refine lv_topl (fun z141_1 ez141_1 => ?_)
              refine fp_put3 hx hb hn hown hK hP hD hS hfp hm_fa mw_323 (x := z141_1) dX1_shiftBits_142 (fun g142_1 H locs hf142_2 hP hD hS => ?_)
              refine lv_aload_n hx hb dX1_shiftBits_145 rfl (lv_at hl 1 rfl) ?_
              refine lv_aload_n hx hb dX1_shiftBits_146 rfl (lv_at hl 1 rfl) ?_
              refine fp_get4 hx hb hn hown hK hP hf142_2 hm_fa mw_325 dX1_shiftBits_147 (fun x147_1 => ?_)
              refine lv_iload hx hb dX1_shiftBits_150 (lv_at hl 0 rfl) ?_
              refine lv_lushr hx hb dX1_shiftBits_152 rfl ?_
              refine lv_topl (fun z152_1 ez152_1 => ?_)
              refine fp_put4 hx hb hn hown hK hP hD hS hf142_2 hm_fa mw_325 (x := z152_1) dX1_shiftBits_153 (fun g153_1 H locs hf153_2 hP hD hS => ?_)
              exact endp_v hQ hx hb hr hlocks dX1_shiftBits_156 g153_1 hf153_2 hP hD hS [] (by decide) rfl (Nat.le_of_ble_eq_true rfl) (Nat.le_of_ble_eq_true rfl)
            · have t90_2 := (i_ne c90_1)
              have r90_3 : rg j11_s0 1 1 := rg_neAl t90_2 r11_1001 (show rg (0 : Int32) 0 0 from rg_l (by decide)) (by decide)
              refine lv_aload_n hx hb dX1_shiftBits_93 rfl (lv_at hl 1 rfl) ?_
              refine lv_aload_n hx hb dX1_shiftBits_94 rfl (lv_at hl 1 rfl) ?_
              refine fp_get3 hx hb hn hown hK hP hfp hm_fa mw_323 dX1_shiftBits_95 (fun x95_1 => ?_)
              refine lv_ldc2 (v := (-1)) hx hb hown (hn.get mw_1025 rfl) dX1_shiftBits_98 ?_
              refine lv_lxor hx hb dX1_shiftBits_101 ?_
              refine lv_topl (fun z101_1 ez101_1 => ?_)
              refine lv_iload hx hb dX1_shiftBits_102 (lv_at hl 0 rfl) ?_
              refine lv_lshl hx hb dX1_shiftBits_104 rfl ?_
              refine lv_topl (fun z104_1 ez104_1 => ?_)
              refine lv_ldc2 (v := (-1)) hx hb hown (hn.get mw_1025 rfl) dX1_shiftBits_105 ?_
              refine lv_lxor hx hb dX1_shiftBits_108 ?_
              refine lv_topl (fun z108_1 ez108_1 => ?_)
              refine fp_put3 hx hb hn hown hK hP hD hS hfp hm_fa mw_323 (x := z108_1) dX1_shiftBits_109 (fun g109_1 H locs hf109_2 hP hD hS => ?_)
              refine lv_aload_n hx hb dX1_shiftBits_112 rfl (lv_at hl 1 rfl) ?_
              refine lv_aload_n hx hb dX1_shiftBits_113 rfl (lv_at hl 1 rfl) ?_
              refine fp_get4 hx hb hn hown hK hP hf109_2 hm_fa mw_325 dX1_shiftBits_114 (fun x114_1 => ?_)
              refine lv_iload hx hb dX1_shiftBits_117 (lv_at hl 0 rfl) ?_
              refine lv_lshl hx hb dX1_shiftBits_119 rfl ?_
              refine lv_topl (fun z119_1 ez119_1 => ?_)
              refine fp_put4 hx hb hn hown hK hP hD hS hf109_2 hm_fa mw_325 (x := z119_1) dX1_shiftBits_120 (fun g120_1 H locs hf120_2 hP hD hS => ?_)
              refine lv_goto (tgt := 156) hx hb dX1_shiftBits_123 (by decide) ?_
              exact endp_v hQ hx hb hr hlocks dX1_shiftBits_156 g120_1 hf120_2 hP hD hS [] (by decide) rfl (Nat.le_of_ble_eq_true rfl) (Nat.le_of_ble_eq_true rfl)
          refine lv_if_eq (tgt := 81) hx hb dX1_shiftBits_73 (by decide) (fun c73_1 => ?_) (fun c73_1 => ?_)
          · have t73_2 := (i_eq c73_1)
            have r73_3 : rg v1 0 0 := rg_eqA t73_2 h_v1 (show rg (0 : Int32) 0 0 from rg_l (by decide)) (by decide)
            refine lv_bipush (v := 31) hx hb dX1_shiftBits_81 (by decide) ?_
            exact b83 (31 : Int32) H locs ls (rg_w (show rg (31 : Int32) 31 31 from rg_l (by decide)) (by decide)) (lv_sub hl [0, 3] rfl) hP hD hS
          · have t73_2 := (i_ne c73_1)
            have r73_3 : rg v1 1 1 := rg_neAl t73_2 h_v1 (show rg (0 : Int32) 0 0 from rg_l (by decide)) (by decide)
            refine lv_bipush (v := 63) hx hb dX1_shiftBits_76 (by decide) ?_
            refine lv_goto (tgt := 83) hx hb dX1_shiftBits_78 (by decide) ?_
            exact b83 (63 : Int32) H locs ls (rg_w (show rg (63 : Int32) 63 63 from rg_l (by decide)) (by decide)) (lv_sub hl [0, 3] rfl) hP hD hS
        · have t54_2 := (i_eq c54_1)
          have r54_3 : rg r51_2 0 0 := rg_eqA t54_2 hp51_5 (show rg (0 : Int32) 0 0 from rg_l (by decide)) (by decide)
          exact b57  H locs ls  (lv_sub hl [0] rfl) hP hD hS
      refine lv_if_ne (tgt := 50) hx hb dX1_shiftBits_42 (by decide) (fun c42_1 => ?_) (fun c42_1 => ?_)
      · have t42_2 := (i_ne c42_1)
        have r42_3 : rg j11_s0 1 1 := rg_neAl t42_2 r11_1001 (show rg (0 : Int32) 0 0 from rg_l (by decide)) (by decide)
        exact b50  H locs ls  (lv_sub hl [1, 2, 3, 4] rfl) hP hD hS
      · have t42_2 := (i_eq c42_1)
        have r42_3 : rg j11_s0 0 0 := rg_eqA t42_2 r11_1001 (show rg (0 : Int32) 0 0 from rg_l (by decide)) (by decide)
        refine lv_iload hx hb dX1_shiftBits_45 (lv_at hl 0 rfl) ?_
        refine lv_if_eq (tgt := 57) hx hb dX1_shiftBits_47 (by decide) (fun c47_1 => ?_) (fun c47_1 => ?_)
        · have t47_2 := (i_eq c47_1)
          have r47_3 : rg j38_s0 0 0 := rg_eqA t47_2 r38_1001 (show rg (0 : Int32) 0 0 from rg_l (by decide)) (by decide)
          exact b57  H locs ls  (lv_sub hl [1] rfl) hP hD hS
        · have t47_2 := (i_ne c47_1)
          have r47_3 : rg j38_s0 1 1 := rg_neAl t47_2 r38_1001 (show rg (0 : Int32) 0 0 from rg_l (by decide)) (by decide)
          exact b50  H locs ls  (lv_sub hl [1, 2, 3, 4] rfl) hP hD hS
    have b33 : ∀  (H : Heap) (locs : List Loc) (ls : Array Slot), lv_has ls 7 [(0, .ref fa), (2, .int v1), (3, .ref fb), (4, .int j11_s0)] → va_P D vwCl ([] ++ va_pl L g) H → va_D A ([] ++ va_pl L g) → va_S A s.heap H locs → W p l e ({ frames := 2, cells := 0, slots := 0, locals := 41 }) s m [.ref fa, .int v0, .int v1, .ref fb].toArray below meth c H locs 0 0 Q (F0 m 33 ls []) := by
      intro  H locs ls  hl hP hD hS
      refine lv_iconst (v := 1) hx hb dX1_shiftBits_33 (by decide) ?_
      refine lv_goto (tgt := 38) hx hb dX1_shiftBits_34 (by decide) ?_
      exact b38 (1 : Int32) H locs ls (rg_w (show rg (1 : Int32) 1 1 from rg_l (by decide)) (by decide)) (lv_sub hl [0, 1, 2, 3] rfl) hP hD hS
    refine lv_icmp_eq (tgt := 33) hx hb dX1_shiftBits_16 (by decide) (fun c16_1 => ?_) (fun c16_1 => ?_)
    · have t16_2 := (i_eq c16_1)
      have r16_3 : rg v0 7 7 := rg_eqA t16_2 (rg_any v0) (show rg (7 : Int32) 7 7 from rg_l (by decide)) (by decide)
      exact b33  H locs ls  (lv_sub hl [1, 3, 4, 0] rfl) hP hD hS
    · have t16_2 := (i_ne c16_1)
      refine lv_iload_n hx hb dX1_shiftBits_19 rfl (lv_at hl 2 rfl) ?_
      refine lv_bipush (v := 12) hx hb dX1_shiftBits_20 (by decide) ?_
      have b37 : ∀  (H : Heap) (locs : List Loc) (ls : Array Slot), lv_has ls 7 [(0, .ref fa), (2, .int v1), (3, .ref fb), (4, .int j11_s0)] → va_P D vwCl ([] ++ va_pl L g) H → va_D A ([] ++ va_pl L g) → va_S A s.heap H locs → W p l e ({ frames := 2, cells := 0, slots := 0, locals := 41 }) s m [.ref fa, .int v0, .int v1, .ref fb].toArray below meth c H locs 0 0 Q (F0 m 37 ls []) := by
        intro  H locs ls  hl hP hD hS
        refine lv_iconst (v := 0) hx hb dX1_shiftBits_37 (by decide) ?_
        exact b38 (0 : Int32) H locs ls (rg_w (show rg (0 : Int32) 0 0 from rg_l (by decide)) (by decide)) (lv_sub hl [0, 1, 2, 3] rfl) hP hD hS
      refine lv_icmp_ne (tgt := 37) hx hb dX1_shiftBits_22 (by decide) (fun c22_1 => ?_) (fun c22_1 => ?_)
      · have t22_2 := (i_ne c22_1)
        exact b37  H locs ls  (lv_sub hl [1, 3, 4, 0] rfl) hP hD hS
      · have t22_2 := (i_eq c22_1)
        have r22_3 : rg v0 12 12 := rg_eqA t22_2 (rg_any v0) (show rg (12 : Int32) 12 12 from rg_l (by decide)) (by decide)
        refine lv_aload_n hx hb dX1_shiftBits_25 rfl (lv_at hl 1 rfl) ?_
        refine lv_iload_n hx hb dX1_shiftBits_26 rfl (lv_at hl 3 rfl) ?_
        obtain ⟨kj27_1, loj27_1, hij27_1, suj27_1, onj27_1, hej27_1⟩ := hfp fa hm_fa
        obtain ⟨j27_1, hj27_1⟩ := va_pl_get (X := []) (f := g) hm_fa
        rw [hej27_1] at hj27_1
        refine gp_i (k1 := 0) (n1 := 0) (wr := []) [] [] (rn_V (As := [.int v1]) (rest := []) (c_X1_isUnsigned l D ct L g fa v1 hfp hm_fa h_v1 _) (cb_of (n := 1) hn mw_1128 mw_12 mw_1125 mhX1_isUnsigned ⟨(Nat.le_of_ble_eq_true rfl), (Nat.le_of_ble_eq_true rfl)⟩) hx hb hml hown hn hK hSK hZ hS mw_1127 mw_s118 (ci := 1) (q0 := j27_1) rfl rfl hj27_1 rfl hl.1 (Nat.le_of_ble_eq_true rfl) dX1_shiftBits_27 ⟨(Nat.le_of_ble_eq_true rfl), (Nat.le_of_ble_eq_true rfl)⟩) hP hD hS hA rfl rfl (by decide) (by decide) (by decide) (Nat.le_of_ble_eq_true rfl) (Nat.le_of_ble_eq_true rfl) (fun r27_2 u27_3 H locs hp27_4 hP hD hS => ?_)
        have hp27_5 := hp27_4
        have hp27_5 : rg r27_2 0 1 := hp27_5
        have hP : va_P D vwCl ([] ++ va_pl L g) _ := hP
        have hD : va_D A ([] ++ va_pl L g) := hD
        refine lv_if_eq (tgt := 37) hx hb dX1_shiftBits_30 (by decide) (fun c30_1 => ?_) (fun c30_1 => ?_)
        · have t30_2 := (i_eq c30_1)
          have r30_3 : rg r27_2 0 0 := rg_eqA t30_2 hp27_5 (show rg (0 : Int32) 0 0 from rg_l (by decide)) (by decide)
          exact b37  H locs ls  (lv_sub hl [1, 3, 4, 0] rfl) hP hD hS
        · have t30_2 := (i_ne c30_1)
          have r30_3 : rg r27_2 1 1 := rg_neAl t30_2 hp27_5 (show rg (0 : Int32) 0 0 from rg_l (by decide)) (by decide)
          exact b33  H locs ls  (lv_sub hl [1, 3, 4, 0] rfl) hP hD hS
  refine lv_icmp_ne (tgt := 10) hx hb dX1_shiftBits_3 (by decide) (fun c3_1 => ?_) (fun c3_1 => ?_)
  · have t3_2 := (i_ne c3_1)
    refine lv_iconst (v := 0) hx hb dX1_shiftBits_10 (by decide) ?_
    exact b11 (0 : Int32) H locs ls (rg_w (show rg (0 : Int32) 0 0 from rg_l (by decide)) (by decide)) (lv_sub hl [0, 1, 2, 3] rfl) hP hD hS
  · have t3_2 := (i_eq c3_1)
    have r3_3 : rg v0 6 6 := rg_eqA t3_2 (rg_any v0) (show rg (6 : Int32) 6 6 from rg_l (by decide)) (by decide)
    refine lv_iconst (v := 1) hx hb dX1_shiftBits_6 (by decide) ?_
    refine lv_goto (tgt := 11) hx hb dX1_shiftBits_7 (by decide) ?_
    exact b11 (1 : Int32) H locs ls (rg_w (show rg (1 : Int32) 1 1 from rg_l (by decide)) (by decide)) (lv_sub hl [0, 1, 2, 3] rfl) hP hD hS
set_option maxHeartbeats 2000000 in
theorem c_X1_workBits (l : Launch) (D : va_G) (ct : Nat → ClassId) (L : List Nat) (g : Nat → va_E) (fa : Nat) (fb : Nat) (v0 : Int32) (v1 : Int32) (hfp : FP L g) (hm_fa : fa ∈ L) (hm_fb : fb ∈ L) (h_v1 : rg v1 0 1) : KV (S := (Nat → va_E)) l yX1_workBits cX1_workBits 8 none 3 67 D ct [.ref fa, .int v0, .int v1, .ref fb] ([] ++ va_pl L g) 0 0 (fun (gp : (Nat → va_E)) => FP L gp) (fun (gp : (Nat → va_E)) => ([]) ++ va_pl L gp) := by
  refine KVq_of (by decide) (Nat.le_of_ble_eq_true rfl) (fun p e s m below meth c A Q C0 hA H locs hS hP hD hQ ls hl => ?_)
  obtain ⟨hx, hb, hr, hown, hin, hml, hlocks, hn, hK, hZ, hSK⟩ := C0
  have hl : lv_has ls 8 [(0, .ref fa), (1, .int v0), (2, .int v1), (3, .ref fb)] := hl
  refine lv_aload_n hx hb dX1_workBits_0 rfl (lv_at hl 0 rfl) ?_
  refine fp_get3 hx hb hn hown hK hP hfp hm_fa mw_323 dX1_workBits_1 (fun x1_1 => ?_)
  refine lv_aload_n hx hb dX1_workBits_4 rfl (lv_at hl 0 rfl) ?_
  refine fp_get4 hx hb hn hown hK hP hfp hm_fa mw_325 dX1_workBits_5 (fun x5_1 => ?_)
  refine lv_ldc2 (v := (-1)) hx hb hown (hn.get mw_1025 rfl) dX1_workBits_8 ?_
  refine lv_lxor hx hb dX1_workBits_11 ?_
  refine lv_topl (fun z11_1 ez11_1 => ?_)
  refine lv_land hx hb dX1_workBits_12 ?_
  refine lv_topl (fun z12_1 ez12_1 => ?_)
  refine lv_lstore (lv' := [(4, .long z12_1), (0, .ref fa), (1, .int v0), (2, .int v1), (3, .ref fb)]) hx hb dX1_workBits_13 hl (by decide) rfl (fun ls hl => ?_)
  refine lv_aload_n hx hb dX1_workBits_15 rfl (lv_at hl 4 rfl) ?_
  refine fp_get3 hx hb hn hown hK hP hfp hm_fb mw_323 dX1_workBits_16 (fun x16_1 => ?_)
  refine lv_aload_n hx hb dX1_workBits_19 rfl (lv_at hl 4 rfl) ?_
  refine fp_get4 hx hb hn hown hK hP hfp hm_fb mw_325 dX1_workBits_20 (fun x20_1 => ?_)
  refine lv_ldc2 (v := (-1)) hx hb hown (hn.get mw_1025 rfl) dX1_workBits_23 ?_
  refine lv_lxor hx hb dX1_workBits_26 ?_
  refine lv_topl (fun z26_1 ez26_1 => ?_)
  refine lv_land hx hb dX1_workBits_27 ?_
  refine lv_topl (fun z27_1 ez27_1 => ?_)
  refine lv_lstore (lv' := [(6, .long z27_1), (4, .long z12_1), (0, .ref fa), (1, .int v0), (2, .int v1), (3, .ref fb)]) hx hb dX1_workBits_28 hl (by decide) rfl (fun ls hl => ?_)
  refine lv_iload_n hx hb dX1_workBits_30 rfl (lv_at hl 3 rfl) ?_
  have b198 : ∀  (H : Heap) (locs : List Loc) (ls : Array Slot), lv_has ls 8 [(0, .ref fa), (1, .int v0), (2, .int v1), (3, .ref fb)] → va_P D vwCl ([] ++ va_pl L g) H → va_D A ([] ++ va_pl L g) → va_S A s.heap H locs → W p l e ({ frames := 3, cells := 0, slots := 0, locals := 67 }) s m [.ref fa, .int v0, .int v1, .ref fb].toArray below meth c H locs 0 0 Q (F0 m 198 ls []) := by
    intro  H locs ls  hl hP hD hS
    refine lv_aload_n hx hb dX1_workBits_198 rfl (lv_at hl 0 rfl) ?_
    refine lv_iload_n hx hb dX1_workBits_199 rfl (lv_at hl 1 rfl) ?_
    refine lv_iload_n hx hb dX1_workBits_200 rfl (lv_at hl 2 rfl) ?_
    refine lv_aload_n hx hb dX1_workBits_201 rfl (lv_at hl 3 rfl) ?_
    obtain ⟨kj202_1, loj202_1, hij202_1, suj202_1, onj202_1, hej202_1⟩ := hfp fa hm_fa
    obtain ⟨j202_1, hj202_1⟩ := va_pl_get (X := []) (f := g) hm_fa
    rw [hej202_1] at hj202_1
    refine gp_v (k1 := 0) (n1 := 0) (wr := []) [] [] (rn_V (As := [.int v0, .int v1, .ref fb]) (rest := []) (c_X1_shiftBits l D ct L g fa fb v0 v1 hfp hm_fa hm_fb h_v1 _) (cb_of (n := 3) hn mw_1124 mw_12 mw_1121 mhX1_shiftBits ⟨(Nat.le_of_ble_eq_true rfl), (Nat.le_of_ble_eq_true rfl)⟩) hx hb hml hown hn hK hSK hZ hS mw_1123 mw_s117 (ci := 1) (q0 := j202_1) rfl rfl hj202_1 rfl hl.1 (Nat.le_of_ble_eq_true rfl) dX1_workBits_202 ⟨(Nat.le_of_ble_eq_true rfl), (Nat.le_of_ble_eq_true rfl)⟩) hP hD hS hA rfl rfl (by decide) (by decide) (by decide) (Nat.le_of_ble_eq_true rfl) (Nat.le_of_ble_eq_true rfl) (fun u202_3 H locs hp202_4 hP hD hS => ?_)
    have hp202_5 := hp202_4
    have hP : va_P D vwCl ([] ++ va_pl L u202_3) _ := hP
    have hD : va_D A ([] ++ va_pl L u202_3) := hD
    exact endp_v hQ hx hb hr hlocks dX1_workBits_205 u202_3 hp202_5 hP hD hS [] (by decide) rfl (Nat.le_of_ble_eq_true rfl) (Nat.le_of_ble_eq_true rfl)
  by_cases h31_101 : v0.toInt = 0
  · have r31_102 : rg v0 0 0 := rg_at h31_101
    refine lv_tableIn (off := 57) (tgt := 88) hx hb dX1_workBits_31 (by rw [h31_101]; decide) (by rw [h31_101]; decide) (by rw [h31_101]; rfl) (by decide) ?_
    refine lv_aload_n hx hb dX1_workBits_88 rfl (lv_at hl 2 rfl) ?_
    refine lv_aload_n hx hb dX1_workBits_89 rfl (lv_at hl 5 rfl) ?_
    obtain ⟨kj90_1, loj90_1, hij90_1, suj90_1, onj90_1, hej90_1⟩ := hfp fa hm_fa
    obtain ⟨j90_1, hj90_1⟩ := va_pl_get (X := []) (f := g) hm_fa
    rw [hej90_1] at hj90_1
    refine gp_v (k1 := 0) (n1 := 0) (wr := []) [] [] (rn_V (As := [.ref fb]) (rest := []) (c_X1_addBits l D ct L g fa fb hfp hm_fa hm_fb _) (cb_of (n := 1) hn mw_1116 mw_12 mw_1113 mhX1_addBits ⟨(Nat.le_of_ble_eq_true rfl), (Nat.le_of_ble_eq_true rfl)⟩) hx hb hml hown hn hK hSK hZ hS mw_1115 mw_s115 (ci := 1) (q0 := j90_1) rfl rfl hj90_1 rfl hl.1 (Nat.le_of_ble_eq_true rfl) dX1_workBits_90 ⟨(Nat.le_of_ble_eq_true rfl), (Nat.le_of_ble_eq_true rfl)⟩) hP hD hS hA rfl rfl (by decide) (by decide) (by decide) (Nat.le_of_ble_eq_true rfl) (Nat.le_of_ble_eq_true rfl) (fun u90_3 H locs hp90_4 hP hD hS => ?_)
    have hp90_5 := hp90_4
    have hP : va_P D vwCl ([] ++ va_pl L u90_3) _ := hP
    have hD : va_D A ([] ++ va_pl L u90_3) := hD
    refine lv_goto (tgt := 205) hx hb dX1_workBits_93 (by decide) ?_
    exact endp_v hQ hx hb hr hlocks dX1_workBits_205 u90_3 hp90_5 hP hD hS [] (by decide) rfl (Nat.le_of_ble_eq_true rfl) (Nat.le_of_ble_eq_true rfl)
  by_cases h31_111 : v0.toInt = 1
  · have r31_112 : rg v0 1 1 := rg_at h31_111
    refine lv_tableIn (off := 65) (tgt := 96) hx hb dX1_workBits_31 (by rw [h31_111]; decide) (by rw [h31_111]; decide) (by rw [h31_111]; rfl) (by decide) ?_
    refine lv_aload_n hx hb dX1_workBits_96 rfl (lv_at hl 2 rfl) ?_
    refine lv_aload_n hx hb dX1_workBits_97 rfl (lv_at hl 5 rfl) ?_
    obtain ⟨kj98_1, loj98_1, hij98_1, suj98_1, onj98_1, hej98_1⟩ := hfp fa hm_fa
    obtain ⟨j98_1, hj98_1⟩ := va_pl_get (X := []) (f := g) hm_fa
    rw [hej98_1] at hj98_1
    refine gp_v (k1 := 0) (n1 := 0) (wr := []) [] [] (rn_V (As := [.ref fb]) (rest := []) (c_X1_takeBits l D ct L g fa fb hfp hm_fa hm_fb _) (cb_of (n := 1) hn mw_1120 mw_12 mw_1117 mhX1_takeBits ⟨(Nat.le_of_ble_eq_true rfl), (Nat.le_of_ble_eq_true rfl)⟩) hx hb hml hown hn hK hSK hZ hS mw_1119 mw_s116 (ci := 1) (q0 := j98_1) rfl rfl hj98_1 rfl hl.1 (Nat.le_of_ble_eq_true rfl) dX1_workBits_98 ⟨(Nat.le_of_ble_eq_true rfl), (Nat.le_of_ble_eq_true rfl)⟩) hP hD hS hA rfl rfl (by decide) (by decide) (by decide) (Nat.le_of_ble_eq_true rfl) (Nat.le_of_ble_eq_true rfl) (fun u98_3 H locs hp98_4 hP hD hS => ?_)
    have hp98_5 := hp98_4
    have hP : va_P D vwCl ([] ++ va_pl L u98_3) _ := hP
    have hD : va_D A ([] ++ va_pl L u98_3) := hD
    refine lv_goto (tgt := 205) hx hb dX1_workBits_101 (by decide) ?_
    exact endp_v hQ hx hb hr hlocks dX1_workBits_205 u98_3 hp98_5 hP hD hS [] (by decide) rfl (Nat.le_of_ble_eq_true rfl) (Nat.le_of_ble_eq_true rfl)
  by_cases h31_121 : v0.toInt = 2
  · have r31_122 : rg v0 2 2 := rg_at h31_121
    refine lv_tableIn (off := 167) (tgt := 198) hx hb dX1_workBits_31 (by rw [h31_121]; decide) (by rw [h31_121]; decide) (by rw [h31_121]; rfl) (by decide) ?_
    exact b198  H locs ls  (lv_sub hl [2, 3, 4, 5] rfl) hP hD hS
  by_cases h31_131 : v0.toInt = 3
  · have r31_132 : rg v0 3 3 := rg_at h31_131
    refine lv_tableIn (off := 167) (tgt := 198) hx hb dX1_workBits_31 (by rw [h31_131]; decide) (by rw [h31_131]; decide) (by rw [h31_131]; rfl) (by decide) ?_
    exact b198  H locs ls  (lv_sub hl [2, 3, 4, 5] rfl) hP hD hS
  by_cases h31_141 : v0.toInt = 4
  · have r31_142 : rg v0 4 4 := rg_at h31_141
    refine lv_tableIn (off := 73) (tgt := 104) hx hb dX1_workBits_31 (by rw [h31_141]; decide) (by rw [h31_141]; decide) (by rw [h31_141]; rfl) (by decide) ?_
    refine lv_aload_n hx hb dX1_workBits_104 rfl (lv_at hl 2 rfl) ?_
    refine lv_dup hx hb dX1_workBits_105 rfl ?_
    refine fp_get4 hx hb hn hown hK hP hfp hm_fa mw_325 dX1_workBits_106 (fun x106_1 => ?_)
    refine lv_aload_n hx hb dX1_workBits_109 rfl (lv_at hl 5 rfl) ?_
    refine fp_get4 hx hb hn hown hK hP hfp hm_fb mw_325 dX1_workBits_110 (fun x110_1 => ?_)
    refine lv_lor hx hb dX1_workBits_113 ?_
    refine lv_topl (fun z113_1 ez113_1 => ?_)
    refine fp_put4 hx hb hn hown hK hP hD hS hfp hm_fa mw_325 (x := z113_1) dX1_workBits_114 (fun g114_1 H locs hf114_2 hP hD hS => ?_)
    refine lv_aload_n hx hb dX1_workBits_117 rfl (lv_at hl 2 rfl) ?_
    refine lv_aload_n hx hb dX1_workBits_118 rfl (lv_at hl 2 rfl) ?_
    refine fp_get4 hx hb hn hown hK hP hf114_2 hm_fa mw_325 dX1_workBits_119 (fun x119_1 => ?_)
    refine lv_lload hx hb dX1_workBits_122 (lv_at hl 1 rfl) ?_
    refine lv_lload hx hb dX1_workBits_124 (lv_at hl 0 rfl) ?_
    refine lv_land hx hb dX1_workBits_126 ?_
    refine lv_topl (fun z126_1 ez126_1 => ?_)
    refine lv_lor hx hb dX1_workBits_127 ?_
    refine lv_topl (fun z127_1 ez127_1 => ?_)
    refine fp_put3 hx hb hn hown hK hP hD hS hf114_2 hm_fa mw_323 (x := z127_1) dX1_workBits_128 (fun g128_1 H locs hf128_2 hP hD hS => ?_)
    refine lv_goto (tgt := 205) hx hb dX1_workBits_131 (by decide) ?_
    exact endp_v hQ hx hb hr hlocks dX1_workBits_205 g128_1 hf128_2 hP hD hS [] (by decide) rfl (Nat.le_of_ble_eq_true rfl) (Nat.le_of_ble_eq_true rfl)
  by_cases h31_151 : v0.toInt = 5
  · have r31_152 : rg v0 5 5 := rg_at h31_151
    refine lv_tableIn (off := 103) (tgt := 134) hx hb dX1_workBits_31 (by rw [h31_151]; decide) (by rw [h31_151]; decide) (by rw [h31_151]; rfl) (by decide) ?_
    refine lv_aload_n hx hb dX1_workBits_134 rfl (lv_at hl 2 rfl) ?_
    refine lv_dup hx hb dX1_workBits_135 rfl ?_
    refine fp_get4 hx hb hn hown hK hP hfp hm_fa mw_325 dX1_workBits_136 (fun x136_1 => ?_)
    refine lv_aload_n hx hb dX1_workBits_139 rfl (lv_at hl 5 rfl) ?_
    refine fp_get4 hx hb hn hown hK hP hfp hm_fb mw_325 dX1_workBits_140 (fun x140_1 => ?_)
    refine lv_land hx hb dX1_workBits_143 ?_
    refine lv_topl (fun z143_1 ez143_1 => ?_)
    refine fp_put4 hx hb hn hown hK hP hD hS hfp hm_fa mw_325 (x := z143_1) dX1_workBits_144 (fun g144_1 H locs hf144_2 hP hD hS => ?_)
    refine lv_aload_n hx hb dX1_workBits_147 rfl (lv_at hl 2 rfl) ?_
    refine lv_aload_n hx hb dX1_workBits_148 rfl (lv_at hl 2 rfl) ?_
    refine fp_get4 hx hb hn hown hK hP hf144_2 hm_fa mw_325 dX1_workBits_149 (fun x149_1 => ?_)
    refine lv_lload hx hb dX1_workBits_152 (lv_at hl 1 rfl) ?_
    refine lv_lor hx hb dX1_workBits_154 ?_
    refine lv_topl (fun z154_1 ez154_1 => ?_)
    refine lv_lload hx hb dX1_workBits_155 (lv_at hl 0 rfl) ?_
    refine lv_lor hx hb dX1_workBits_157 ?_
    refine lv_topl (fun z157_1 ez157_1 => ?_)
    refine fp_put3 hx hb hn hown hK hP hD hS hf144_2 hm_fa mw_323 (x := z157_1) dX1_workBits_158 (fun g158_1 H locs hf158_2 hP hD hS => ?_)
    refine lv_goto (tgt := 205) hx hb dX1_workBits_161 (by decide) ?_
    exact endp_v hQ hx hb hr hlocks dX1_workBits_205 g158_1 hf158_2 hP hD hS [] (by decide) rfl (Nat.le_of_ble_eq_true rfl) (Nat.le_of_ble_eq_true rfl)
  by_cases h31_161 : v0.toInt = 6
  · have r31_162 : rg v0 6 6 := rg_at h31_161
    refine lv_tableIn (off := 167) (tgt := 198) hx hb dX1_workBits_31 (by rw [h31_161]; decide) (by rw [h31_161]; decide) (by rw [h31_161]; rfl) (by decide) ?_
    exact b198  H locs ls  (lv_sub hl [2, 3, 4, 5] rfl) hP hD hS
  by_cases h31_171 : v0.toInt = 7
  · have r31_172 : rg v0 7 7 := rg_at h31_171
    refine lv_tableIn (off := 167) (tgt := 198) hx hb dX1_workBits_31 (by rw [h31_171]; decide) (by rw [h31_171]; decide) (by rw [h31_171]; rfl) (by decide) ?_
    exact b198  H locs ls  (lv_sub hl [2, 3, 4, 5] rfl) hP hD hS
  by_cases h31_181 : v0.toInt = 8
  · have r31_182 : rg v0 8 8 := rg_at h31_181
    refine lv_tableIn (off := 167) (tgt := 198) hx hb dX1_workBits_31 (by rw [h31_181]; decide) (by rw [h31_181]; decide) (by rw [h31_181]; rfl) (by decide) ?_
    exact b198  H locs ls  (lv_sub hl [2, 3, 4, 5] rfl) hP hD hS
  by_cases h31_191 : v0.toInt = 9
  · have r31_192 : rg v0 9 9 := rg_at h31_191
    refine lv_tableIn (off := 167) (tgt := 198) hx hb dX1_workBits_31 (by rw [h31_191]; decide) (by rw [h31_191]; decide) (by rw [h31_191]; rfl) (by decide) ?_
    exact b198  H locs ls  (lv_sub hl [2, 3, 4, 5] rfl) hP hD hS
  by_cases h31_201 : v0.toInt = 10
  · have r31_202 : rg v0 10 10 := rg_at h31_201
    refine lv_tableIn (off := 133) (tgt := 164) hx hb dX1_workBits_31 (by rw [h31_201]; decide) (by rw [h31_201]; decide) (by rw [h31_201]; rfl) (by decide) ?_
    refine lv_aload_n hx hb dX1_workBits_164 rfl (lv_at hl 2 rfl) ?_
    refine lv_dup hx hb dX1_workBits_165 rfl ?_
    refine fp_get3 hx hb hn hown hK hP hfp hm_fa mw_323 dX1_workBits_166 (fun x166_1 => ?_)
    refine lv_aload_n hx hb dX1_workBits_169 rfl (lv_at hl 5 rfl) ?_
    refine fp_get3 hx hb hn hown hK hP hfp hm_fb mw_323 dX1_workBits_170 (fun x170_1 => ?_)
    refine lv_land hx hb dX1_workBits_173 ?_
    refine lv_topl (fun z173_1 ez173_1 => ?_)
    refine fp_put3 hx hb hn hown hK hP hD hS hfp hm_fa mw_323 (x := z173_1) dX1_workBits_174 (fun g174_1 H locs hf174_2 hP hD hS => ?_)
    refine lv_aload_n hx hb dX1_workBits_177 rfl (lv_at hl 2 rfl) ?_
    refine lv_aload_n hx hb dX1_workBits_178 rfl (lv_at hl 2 rfl) ?_
    refine fp_get4 hx hb hn hown hK hP hf174_2 hm_fa mw_325 dX1_workBits_179 (fun x179_1 => ?_)
    refine lv_aload_n hx hb dX1_workBits_182 rfl (lv_at hl 5 rfl) ?_
    refine fp_get4 hx hb hn hown hK hP hf174_2 hm_fb mw_325 dX1_workBits_183 (fun x183_1 => ?_)
    refine lv_lxor hx hb dX1_workBits_186 ?_
    refine lv_topl (fun z186_1 ez186_1 => ?_)
    refine lv_aload_n hx hb dX1_workBits_187 rfl (lv_at hl 2 rfl) ?_
    refine fp_get3 hx hb hn hown hK hP hf174_2 hm_fa mw_323 dX1_workBits_188 (fun x188_1 => ?_)
    refine lv_land hx hb dX1_workBits_191 ?_
    refine lv_topl (fun z191_1 ez191_1 => ?_)
    refine fp_put4 hx hb hn hown hK hP hD hS hf174_2 hm_fa mw_325 (x := z191_1) dX1_workBits_192 (fun g192_1 H locs hf192_2 hP hD hS => ?_)
    refine lv_goto (tgt := 205) hx hb dX1_workBits_195 (by decide) ?_
    exact endp_v hQ hx hb hr hlocks dX1_workBits_205 g192_1 hf192_2 hP hD hS [] (by decide) rfl (Nat.le_of_ble_eq_true rfl) (Nat.le_of_ble_eq_true rfl)
  refine lv_tableOut (tgt := 198) hx hb dX1_workBits_31 (by have q0 := (rg_any v0); have q1 := q0.1; have q2 := q0.2; omega) (by decide) ?_
  exact b198  H locs ls  (lv_sub hl [2, 3, 4, 5] rfl) hP hD hS
set_option maxHeartbeats 2000000 in
theorem c_X1_keepRange (l : Launch) (D : va_G) (ct : Nat → ClassId) (L : List Nat) (g : Nat → va_E) (fa : Nat) (v0 : Int64) (v1 : Int64) (v2 : Int32) (hfp : FP L g) (hm_fa : fa ∈ L) (h_v2 : rg v2 0 1) : KV (S := (Nat → va_E)) l yX1_keepRange cX1_keepRange 6 none 1 20 D ct [.ref fa, .long v0, .long v1, .int v2] ([] ++ va_pl L g) 0 0 (fun (gp : (Nat → va_E)) => FP L gp) (fun (gp : (Nat → va_E)) => ([]) ++ va_pl L gp) := by
  refine KVq_of (by decide) (Nat.le_of_ble_eq_true rfl) (fun p e s m below meth c A Q C0 hA H locs hS hP hD hQ ls hl => ?_)
  obtain ⟨hx, hb, hr, hown, hin, hml, hlocks, hn, hK, hZ, hSK⟩ := C0
  have hl : lv_has ls 6 [(0, .ref fa), (1, .long v0), (3, .long v1), (5, .int v2)] := hl
  refine lv_aload_n hx hb dX1_keepRange_0 rfl (lv_at hl 0 rfl) ?_
  refine lv_iload hx hb dX1_keepRange_1 (lv_at hl 3 rfl) ?_
  have b11 : ∀ (j11_s0 : Int64) (H : Heap) (locs : List Loc) (ls : Array Slot), lv_has ls 6 [(0, .ref fa), (3, .long v1), (5, .int v2)] → va_P D vwCl ([] ++ va_pl L g) H → va_D A ([] ++ va_pl L g) → va_S A s.heap H locs → W p l e ({ frames := 1, cells := 0, slots := 0, locals := 20 }) s m [.ref fa, .long v0, .long v1, .int v2].toArray below meth c H locs 0 0 Q (F0 m 11 ls [.long j11_s0, .ref fa]) := by
    intro j11_s0 H locs ls  hl hP hD hS
    refine fp_put1 hx hb hn hown hK hP hD hS hfp hm_fa mw_319 (x := j11_s0) dX1_keepRange_11 (fun g11_1 H locs hf11_2 hP hD hS => ?_)
    refine lv_aload_n hx hb dX1_keepRange_14 rfl (lv_at hl 0 rfl) ?_
    refine lv_iload hx hb dX1_keepRange_15 (lv_at hl 2 rfl) ?_
    have b27 : ∀ (j27_s0 : Int64) (H : Heap) (locs : List Loc) (ls : Array Slot), lv_has ls 6 [] → va_P D vwCl ([] ++ va_pl L g11_1) H → va_D A ([] ++ va_pl L g11_1) → va_S A s.heap H locs → W p l e ({ frames := 1, cells := 0, slots := 0, locals := 20 }) s m [.ref fa, .long v0, .long v1, .int v2].toArray below meth c H locs 0 0 Q (F0 m 27 ls [.long j27_s0, .ref fa]) := by
      intro j27_s0 H locs ls  hl hP hD hS
      refine fp_put2 hx hb hn hown hK hP hD hS hf11_2 hm_fa mw_321 (x := j27_s0) dX1_keepRange_27 (fun g27_1 H locs hf27_2 hP hD hS => ?_)
      exact endp_v hQ hx hb hr hlocks dX1_keepRange_30 g27_1 hf27_2 hP hD hS [] (by decide) rfl (Nat.le_of_ble_eq_true rfl) (Nat.le_of_ble_eq_true rfl)
    refine lv_if_eq (tgt := 24) hx hb dX1_keepRange_17 (by decide) (fun c17_1 => ?_) (fun c17_1 => ?_)
    · have t17_2 := (i_eq c17_1)
      have r17_3 : rg v2 0 0 := rg_eqA t17_2 h_v2 (show rg (0 : Int32) 0 0 from rg_l (by decide)) (by decide)
      refine lv_ldc2 (v := (-1)) hx hb hown (hn.get mw_1025 rfl) dX1_keepRange_24 ?_
      exact b27 ((-1) : Int64) H locs ls  (lv_sub hl [] rfl) hP hD hS
    · have t17_2 := (i_ne c17_1)
      have r17_3 : rg v2 1 1 := rg_neAl t17_2 h_v2 (show rg (0 : Int32) 0 0 from rg_l (by decide)) (by decide)
      refine lv_lload_n hx hb dX1_keepRange_20 rfl (lv_at hl 1 rfl) ?_
      refine lv_goto (tgt := 27) hx hb dX1_keepRange_21 (by decide) ?_
      exact b27 v1 H locs ls  (lv_sub hl [] rfl) hP hD hS
  refine lv_if_eq (tgt := 10) hx hb dX1_keepRange_3 (by decide) (fun c3_1 => ?_) (fun c3_1 => ?_)
  · have t3_2 := (i_eq c3_1)
    have r3_3 : rg v2 0 0 := rg_eqA t3_2 h_v2 (show rg (0 : Int32) 0 0 from rg_l (by decide)) (by decide)
    refine lv_lconst (v := 0) hx hb dX1_keepRange_10 (by decide) ?_
    exact b11 (0 : Int64) H locs ls  (lv_sub hl [0, 2, 3] rfl) hP hD hS
  · have t3_2 := (i_ne c3_1)
    have r3_3 : rg v2 1 1 := rg_neAl t3_2 h_v2 (show rg (0 : Int32) 0 0 from rg_l (by decide)) (by decide)
    refine lv_lload_n hx hb dX1_keepRange_6 rfl (lv_at hl 1 rfl) ?_
    refine lv_goto (tgt := 11) hx hb dX1_keepRange_7 (by decide) ?_
    exact b11 v0 H locs ls  (lv_sub hl [0, 2, 3] rfl) hP hD hS
set_option maxHeartbeats 2000000 in
theorem c_X1_workRange (l : Launch) (D : va_G) (ct : Nat → ClassId) (L : List Nat) (g : Nat → va_E) (fa : Nat) (fb : Nat) (v0 : Int32) (v1 : Int32) (hfp : FP L g) (hm_fa : fa ∈ L) (hm_fb : fb ∈ L) (h_v1 : rg v1 0 1) : KV (S := (Nat → va_E)) l yX1_workRange cX1_workRange 7 none 3 66 D ct [.ref fa, .int v0, .int v1, .ref fb] ([] ++ va_pl L g) 0 0 (fun (gp : (Nat → va_E)) => FP L gp) (fun (gp : (Nat → va_E)) => ([]) ++ va_pl L gp) := by
  refine KVq_of (by decide) (Nat.le_of_ble_eq_true rfl) (fun p e s m below meth c A Q C0 hA H locs hS hP hD hQ ls hl => ?_)
  obtain ⟨hx, hb, hr, hown, hin, hml, hlocks, hn, hK, hZ, hSK⟩ := C0
  have hl : lv_has ls 7 [(0, .ref fa), (1, .int v0), (2, .int v1), (3, .ref fb)] := hl
  refine lv_aload_n hx hb dX1_workRange_0 rfl (lv_at hl 3 rfl) ?_
  refine fp_get1 hx hb hn hown hK hP hfp hm_fb mw_319 dX1_workRange_1 (fun x1_1 => ?_)
  refine lv_iload_n hx hb dX1_workRange_4 rfl (lv_at hl 2 rfl) ?_
  have b15 : ∀ (j15_s0 : Int32) (H : Heap) (locs : List Loc) (ls : Array Slot), (rg j15_s0 31 63) → lv_has ls 7 [(0, .ref fa), (1, .int v0), (2, .int v1), (3, .ref fb)] → va_P D vwCl ([] ++ va_pl L g) H → va_D A ([] ++ va_pl L g) → va_S A s.heap H locs → W p l e ({ frames := 3, cells := 0, slots := 0, locals := 66 }) s m [.ref fa, .int v0, .int v1, .ref fb].toArray below meth c H locs 0 0 Q (F0 m 15 ls [.int j15_s0, .long x1_1]) := by
    intro j15_s0 H locs ls r15_1001 hl hP hD hS
    refine lv_i2l hx hb dX1_workRange_15 rfl ?_
    refine lv_topl (fun z15_1 ez15_1 => ?_)
    have r15_2 : rl z15_1 31 63 := rl_i2l ez15_1 r15_1001
    refine lv_land hx hb dX1_workRange_16 ?_
    refine lv_topl (fun z16_1 ez16_1 => ?_)
    have r16_2 : rl z16_1 0 63 := rgL_andr ez16_1 r15_2 (by decide)
    refine lv_l2i hx hb dX1_workRange_17 rfl ?_
    refine lv_topi (fun z17_1 ez17_1 => ?_)
    have r17_2 : rg z17_1 0 63 := rg_l2i ez17_1 r16_2 (by decide)
    refine lv_istore (lv' := [(4, .int z17_1), (0, .ref fa), (1, .int v0), (2, .int v1), (3, .ref fb)]) hx hb dX1_workRange_18 hl (by decide) rfl (fun ls hl => ?_)
    refine lv_aload_n hx hb dX1_workRange_20 rfl (lv_at hl 4 rfl) ?_
    refine fp_get1 hx hb hn hown hK hP hfp hm_fb mw_319 dX1_workRange_21 (fun x21_1 => ?_)
    refine lv_aload_n hx hb dX1_workRange_24 rfl (lv_at hl 4 rfl) ?_
    refine fp_get2 hx hb hn hown hK hP hfp hm_fb mw_321 dX1_workRange_25 (fun x25_1 => ?_)
    refine W.lcmp hx hb dX1_workRange_28 ?_
    refine lv_topi (fun z28_1 ez28_1 => ?_)
    have b37 : ∀ (j37_s0 : Int32) (H : Heap) (locs : List Loc) (ls : Array Slot), (rg j37_s0 0 1) → lv_has ls 7 [(0, .ref fa), (1, .int v0), (2, .int v1), (3, .ref fb), (4, .int z17_1)] → va_P D vwCl ([] ++ va_pl L g) H → va_D A ([] ++ va_pl L g) → va_S A s.heap H locs → W p l e ({ frames := 3, cells := 0, slots := 0, locals := 66 }) s m [.ref fa, .int v0, .int v1, .ref fb].toArray below meth c H locs 0 0 Q (F0 m 37 ls [.int j37_s0]) := by
      intro j37_s0 H locs ls r37_1001 hl hP hD hS
      refine lv_istore (lv' := [(5, .int j37_s0), (0, .ref fa), (1, .int v0), (2, .int v1), (3, .ref fb), (4, .int z17_1)]) hx hb dX1_workRange_37 hl (by decide) rfl (fun ls hl => ?_)
      refine lv_iload_n hx hb dX1_workRange_39 rfl (lv_at hl 2 rfl) ?_
      have b480 : ∀  (H : Heap) (locs : List Loc) (ls : Array Slot), lv_has ls 7 [(0, .ref fa), (1, .int v0), (2, .int v1), (4, .int z17_1), (5, .int j37_s0)] → va_P D vwCl ([] ++ va_pl L g) H → va_D A ([] ++ va_pl L g) → va_S A s.heap H locs → W p l e ({ frames := 3, cells := 0, slots := 0, locals := 66 }) s m [.ref fa, .int v0, .int v1, .ref fb].toArray below meth c H locs 0 0 Q (F0 m 480 ls []) := by
        intro  H locs ls  hl hP hD hS
        refine lv_iload_n hx hb dX1_workRange_480 rfl (lv_at hl 1 rfl) ?_
        refine lv_bipush (v := 7) hx hb dX1_workRange_481 (by decide) ?_
        have b499 : ∀ (j499_s0 : Int32) (H : Heap) (locs : List Loc) (ls : Array Slot), (rg j499_s0 0 1) → lv_has ls 7 [(0, .ref fa), (4, .int z17_1), (5, .int j37_s0)] → va_P D vwCl ([] ++ va_pl L g) H → va_D A ([] ++ va_pl L g) → va_S A s.heap H locs → W p l e ({ frames := 3, cells := 0, slots := 0, locals := 66 }) s m [.ref fa, .int v0, .int v1, .ref fb].toArray below meth c H locs 0 0 Q (F0 m 499 ls [.int j499_s0]) := by
          intro j499_s0 H locs ls r499_1001 hl hP hD hS
          refine lv_istore (lv' := [(6, .int j499_s0), (0, .ref fa), (4, .int z17_1), (5, .int j37_s0)]) hx hb dX1_workRange_499 hl (by decide) rfl (fun ls hl => ?_)
          refine lv_aload_n hx hb dX1_workRange_501 rfl (lv_at hl 1 rfl) ?_
          refine lv_iload hx hb dX1_workRange_502 (lv_at hl 3 rfl) ?_
          have b518 : ∀ (j518_s0 : Int64) (H : Heap) (locs : List Loc) (ls : Array Slot), lv_has ls 7 [(0, .ref fa), (4, .int z17_1), (5, .int j37_s0), (6, .int j499_s0)] → va_P D vwCl ([] ++ va_pl L g) H → va_D A ([] ++ va_pl L g) → va_S A s.heap H locs → W p l e ({ frames := 3, cells := 0, slots := 0, locals := 66 }) s m [.ref fa, .int v0, .int v1, .ref fb].toArray below meth c H locs 0 0 Q (F0 m 518 ls [.long j518_s0, .ref fa]) := by
            intro j518_s0 H locs ls  hl hP hD hS
            refine lv_iload hx hb dX1_workRange_518 (lv_at hl 2 rfl) ?_
            have b537 : ∀ (j537_s0 : Int64) (H : Heap) (locs : List Loc) (ls : Array Slot), lv_has ls 7 [(6, .int j499_s0)] → va_P D vwCl ([] ++ va_pl L g) H → va_D A ([] ++ va_pl L g) → va_S A s.heap H locs → W p l e ({ frames := 3, cells := 0, slots := 0, locals := 66 }) s m [.ref fa, .int v0, .int v1, .ref fb].toArray below meth c H locs 0 0 Q (F0 m 537 ls [.long j537_s0, .long j518_s0, .ref fa]) := by
              intro j537_s0 H locs ls  hl hP hD hS
              refine lv_iload hx hb dX1_workRange_537 (lv_at hl 0 rfl) ?_
              obtain ⟨kj539_1, loj539_1, hij539_1, suj539_1, onj539_1, hej539_1⟩ := hfp fa hm_fa
              obtain ⟨j539_1, hj539_1⟩ := va_pl_get (X := []) (f := g) hm_fa
              rw [hej539_1] at hj539_1
              refine gp_v (k1 := 0) (n1 := 0) (wr := []) [] [] (rn_V (As := [.long j518_s0, .long j537_s0, .int j499_s0]) (rest := []) (c_X1_keepRange l D ct L g fa j518_s0 j537_s0 j499_s0 hfp hm_fa r499_1001 _) (cb_of (n := 3) hn mw_1141 mw_12 mw_1138 mhX1_keepRange ⟨(Nat.le_of_ble_eq_true rfl), (Nat.le_of_ble_eq_true rfl)⟩) hx hb hml hown hn hK hSK hZ hS mw_1140 mw_s121 (ci := 1) (q0 := j539_1) rfl rfl hj539_1 rfl hl.1 (Nat.le_of_ble_eq_true rfl) dX1_workRange_539 ⟨(Nat.le_of_ble_eq_true rfl), (Nat.le_of_ble_eq_true rfl)⟩) hP hD hS hA rfl rfl (by decide) (by decide) (by decide) (Nat.le_of_ble_eq_true rfl) (Nat.le_of_ble_eq_true rfl) (fun u539_3 H locs hp539_4 hP hD hS => ?_)
              have hp539_5 := hp539_4
              have hP : va_P D vwCl ([] ++ va_pl L u539_3) _ := hP
              have hD : va_D A ([] ++ va_pl L u539_3) := hD
              refine lv_goto (tgt := 554) hx hb dX1_workRange_542 (by decide) ?_
              exact endp_v hQ hx hb hr hlocks dX1_workRange_554 u539_3 hp539_5 hP hD hS [] (by decide) rfl (Nat.le_of_ble_eq_true rfl) (Nat.le_of_ble_eq_true rfl)
            refine lv_if_eq (tgt := 533) hx hb dX1_workRange_520 (by decide) (fun c520_1 => ?_) (fun c520_1 => ?_)
            · have t520_2 := (i_eq c520_1)
              have r520_3 : rg j37_s0 0 0 := rg_eqA t520_2 r37_1001 (show rg (0 : Int32) 0 0 from rg_l (by decide)) (by decide)
              refine lv_aload_n hx hb dX1_workRange_533 rfl (lv_at hl 0 rfl) ?_
              refine fp_get2 hx hb hn hown hK hP hfp hm_fa mw_321 dX1_workRange_534 (fun x534_1 => ?_)
              exact b537 x534_1 H locs ls  (lv_sub hl [3] rfl) hP hD hS
            · have t520_2 := (i_ne c520_1)
              have r520_3 : rg j37_s0 1 1 := rg_neAl t520_2 r37_1001 (show rg (0 : Int32) 0 0 from rg_l (by decide)) (by decide)
              refine lv_aload_n hx hb dX1_workRange_523 rfl (lv_at hl 0 rfl) ?_
              refine fp_get2 hx hb hn hown hK hP hfp hm_fa mw_321 dX1_workRange_524 (fun x524_1 => ?_)
              refine lv_iload hx hb dX1_workRange_527 (lv_at hl 1 rfl) ?_
              refine lv_lushr hx hb dX1_workRange_529 rfl ?_
              refine lv_topl (fun z529_1 ez529_1 => ?_)
              refine lv_goto (tgt := 537) hx hb dX1_workRange_530 (by decide) ?_
              exact b537 z529_1 H locs ls  (lv_sub hl [3] rfl) hP hD hS
          refine lv_if_eq (tgt := 517) hx hb dX1_workRange_504 (by decide) (fun c504_1 => ?_) (fun c504_1 => ?_)
          · have t504_2 := (i_eq c504_1)
            have r504_3 : rg j37_s0 0 0 := rg_eqA t504_2 r37_1001 (show rg (0 : Int32) 0 0 from rg_l (by decide)) (by decide)
            refine lv_lconst (v := 0) hx hb dX1_workRange_517 (by decide) ?_
            exact b518 (0 : Int64) H locs ls  (lv_sub hl [1, 2, 3, 0] rfl) hP hD hS
          · have t504_2 := (i_ne c504_1)
            have r504_3 : rg j37_s0 1 1 := rg_neAl t504_2 r37_1001 (show rg (0 : Int32) 0 0 from rg_l (by decide)) (by decide)
            refine lv_aload_n hx hb dX1_workRange_507 rfl (lv_at hl 1 rfl) ?_
            refine fp_get1 hx hb hn hown hK hP hfp hm_fa mw_319 dX1_workRange_508 (fun x508_1 => ?_)
            refine lv_iload hx hb dX1_workRange_511 (lv_at hl 2 rfl) ?_
            refine lv_lushr hx hb dX1_workRange_513 rfl ?_
            refine lv_topl (fun z513_1 ez513_1 => ?_)
            refine lv_goto (tgt := 518) hx hb dX1_workRange_514 (by decide) ?_
            exact b518 z513_1 H locs ls  (lv_sub hl [1, 2, 3, 0] rfl) hP hD hS
        have b494 : ∀  (H : Heap) (locs : List Loc) (ls : Array Slot), lv_has ls 7 [(0, .ref fa), (4, .int z17_1), (5, .int j37_s0)] → va_P D vwCl ([] ++ va_pl L g) H → va_D A ([] ++ va_pl L g) → va_S A s.heap H locs → W p l e ({ frames := 3, cells := 0, slots := 0, locals := 66 }) s m [.ref fa, .int v0, .int v1, .ref fb].toArray below meth c H locs 0 0 Q (F0 m 494 ls []) := by
          intro  H locs ls  hl hP hD hS
          refine lv_iconst (v := 1) hx hb dX1_workRange_494 (by decide) ?_
          refine lv_goto (tgt := 499) hx hb dX1_workRange_495 (by decide) ?_
          exact b499 (1 : Int32) H locs ls (rg_w (show rg (1 : Int32) 1 1 from rg_l (by decide)) (by decide)) (lv_sub hl [0, 1, 2] rfl) hP hD hS
        refine lv_icmp_eq (tgt := 494) hx hb dX1_workRange_483 (by decide) (fun c483_1 => ?_) (fun c483_1 => ?_)
        · have t483_2 := (i_eq c483_1)
          have r483_3 : rg v0 7 7 := rg_eqA t483_2 (rg_any v0) (show rg (7 : Int32) 7 7 from rg_l (by decide)) (by decide)
          exact b494  H locs ls  (lv_sub hl [0, 3, 4] rfl) hP hD hS
        · have t483_2 := (i_ne c483_1)
          refine lv_aload_n hx hb dX1_workRange_486 rfl (lv_at hl 0 rfl) ?_
          refine lv_iload_n hx hb dX1_workRange_487 rfl (lv_at hl 2 rfl) ?_
          obtain ⟨kj488_1, loj488_1, hij488_1, suj488_1, onj488_1, hej488_1⟩ := hfp fa hm_fa
          obtain ⟨j488_1, hj488_1⟩ := va_pl_get (X := []) (f := g) hm_fa
          rw [hej488_1] at hj488_1
          refine gp_i (k1 := 0) (n1 := 0) (wr := []) [] [] (rn_V (As := [.int v1]) (rest := []) (c_X1_isUnsigned l D ct L g fa v1 hfp hm_fa h_v1 _) (cb_of (n := 1) hn mw_1128 mw_12 mw_1125 mhX1_isUnsigned ⟨(Nat.le_of_ble_eq_true rfl), (Nat.le_of_ble_eq_true rfl)⟩) hx hb hml hown hn hK hSK hZ hS mw_1127 mw_s118 (ci := 1) (q0 := j488_1) rfl rfl hj488_1 rfl hl.1 (Nat.le_of_ble_eq_true rfl) dX1_workRange_488 ⟨(Nat.le_of_ble_eq_true rfl), (Nat.le_of_ble_eq_true rfl)⟩) hP hD hS hA rfl rfl (by decide) (by decide) (by decide) (Nat.le_of_ble_eq_true rfl) (Nat.le_of_ble_eq_true rfl) (fun r488_2 u488_3 H locs hp488_4 hP hD hS => ?_)
          have hp488_5 := hp488_4
          have hp488_5 : rg r488_2 0 1 := hp488_5
          have hP : va_P D vwCl ([] ++ va_pl L g) _ := hP
          have hD : va_D A ([] ++ va_pl L g) := hD
          refine lv_if_eq (tgt := 498) hx hb dX1_workRange_491 (by decide) (fun c491_1 => ?_) (fun c491_1 => ?_)
          · have t491_2 := (i_eq c491_1)
            have r491_3 : rg r488_2 0 0 := rg_eqA t491_2 hp488_5 (show rg (0 : Int32) 0 0 from rg_l (by decide)) (by decide)
            refine lv_iconst (v := 0) hx hb dX1_workRange_498 (by decide) ?_
            exact b499 (0 : Int32) H locs ls (rg_w (show rg (0 : Int32) 0 0 from rg_l (by decide)) (by decide)) (lv_sub hl [0, 3, 4] rfl) hP hD hS
          · have t491_2 := (i_ne c491_1)
            have r491_3 : rg r488_2 1 1 := rg_neAl t491_2 hp488_5 (show rg (0 : Int32) 0 0 from rg_l (by decide)) (by decide)
            exact b494  H locs ls  (lv_sub hl [0, 3, 4] rfl) hP hD hS
      have b545 : ∀  (H : Heap) (locs : List Loc) (ls : Array Slot), lv_has ls 7 [(0, .ref fa)] → va_P D vwCl ([] ++ va_pl L g) H → va_D A ([] ++ va_pl L g) → va_S A s.heap H locs → W p l e ({ frames := 3, cells := 0, slots := 0, locals := 66 }) s m [.ref fa, .int v0, .int v1, .ref fb].toArray below meth c H locs 0 0 Q (F0 m 545 ls []) := by
        intro  H locs ls  hl hP hD hS
        refine lv_aload_n hx hb dX1_workRange_545 rfl (lv_at hl 0 rfl) ?_
        refine lv_lconst (v := 0) hx hb dX1_workRange_546 (by decide) ?_
        refine lv_ldc2 (v := (-1)) hx hb hown (hn.get mw_1025 rfl) dX1_workRange_547 ?_
        refine lv_iconst (v := 1) hx hb dX1_workRange_550 (by decide) ?_
        obtain ⟨kj551_1, loj551_1, hij551_1, suj551_1, onj551_1, hej551_1⟩ := hfp fa hm_fa
        obtain ⟨j551_1, hj551_1⟩ := va_pl_get (X := []) (f := g) hm_fa
        rw [hej551_1] at hj551_1
        refine gp_v (k1 := 0) (n1 := 0) (wr := []) [] [] (rn_V (As := [.long 0, .long (-1), .int 1]) (rest := []) (c_X1_keepRange l D ct L g fa (0 : Int64) ((-1) : Int64) (1 : Int32) hfp hm_fa (rg_w (show rg (1 : Int32) 1 1 from rg_l (by decide)) (by decide)) _) (cb_of (n := 3) hn mw_1141 mw_12 mw_1138 mhX1_keepRange ⟨(Nat.le_of_ble_eq_true rfl), (Nat.le_of_ble_eq_true rfl)⟩) hx hb hml hown hn hK hSK hZ hS mw_1140 mw_s121 (ci := 1) (q0 := j551_1) rfl rfl hj551_1 rfl hl.1 (Nat.le_of_ble_eq_true rfl) dX1_workRange_551 ⟨(Nat.le_of_ble_eq_true rfl), (Nat.le_of_ble_eq_true rfl)⟩) hP hD hS hA rfl rfl (by decide) (by decide) (by decide) (Nat.le_of_ble_eq_true rfl) (Nat.le_of_ble_eq_true rfl) (fun u551_3 H locs hp551_4 hP hD hS => ?_)
        have hp551_5 := hp551_4
        have hP : va_P D vwCl ([] ++ va_pl L u551_3) _ := hP
        have hD : va_D A ([] ++ va_pl L u551_3) := hD
        exact endp_v hQ hx hb hr hlocks dX1_workRange_554 u551_3 hp551_5 hP hD hS [] (by decide) rfl (Nat.le_of_ble_eq_true rfl) (Nat.le_of_ble_eq_true rfl)
      by_cases h40_101 : v0.toInt = 0
      · have r40_102 : rg v0 0 0 := rg_at h40_101
        refine lv_tableIn (off := 68) (tgt := 108) hx hb dX1_workRange_40 (by rw [h40_101]; decide) (by rw [h40_101]; decide) (by rw [h40_101]; rfl) (by decide) ?_
        refine lv_aload_n hx hb dX1_workRange_108 rfl (lv_at hl 1 rfl) ?_
        refine lv_aload_n hx hb dX1_workRange_109 rfl (lv_at hl 1 rfl) ?_
        refine fp_get1 hx hb hn hown hK hP hfp hm_fa mw_319 dX1_workRange_110 (fun x110_1 => ?_)
        refine lv_aload_n hx hb dX1_workRange_113 rfl (lv_at hl 4 rfl) ?_
        refine fp_get1 hx hb hn hown hK hP hfp hm_fb mw_319 dX1_workRange_114 (fun x114_1 => ?_)
        refine lv_ladd hx hb dX1_workRange_117 ?_
        refine lv_topl (fun z117_1 ez117_1 => ?_)
        refine lv_aload_n hx hb dX1_workRange_118 rfl (lv_at hl 1 rfl) ?_
        refine fp_get2 hx hb hn hown hK hP hfp hm_fa mw_321 dX1_workRange_119 (fun x119_1 => ?_)
        refine lv_aload_n hx hb dX1_workRange_122 rfl (lv_at hl 4 rfl) ?_
        refine fp_get2 hx hb hn hown hK hP hfp hm_fb mw_321 dX1_workRange_123 (fun x123_1 => ?_)
        refine lv_ladd hx hb dX1_workRange_126 ?_
        refine lv_topl (fun z126_1 ez126_1 => ?_)
        refine lv_aload_n hx hb dX1_workRange_127 rfl (lv_at hl 1 rfl) ?_
        refine fp_get2 hx hb hn hown hK hP hfp hm_fa mw_321 dX1_workRange_128 (fun x128_1 => ?_)
        refine lv_aload_n hx hb dX1_workRange_131 rfl (lv_at hl 4 rfl) ?_
        refine fp_get2 hx hb hn hown hK hP hfp hm_fb mw_321 dX1_workRange_132 (fun x132_1 => ?_)
        refine lv_ladd hx hb dX1_workRange_135 ?_
        refine lv_topl (fun z135_1 ez135_1 => ?_)
        refine lv_aload_n hx hb dX1_workRange_136 rfl (lv_at hl 1 rfl) ?_
        refine fp_get2 hx hb hn hown hK hP hfp hm_fa mw_321 dX1_workRange_137 (fun x137_1 => ?_)
        refine gq_i (k1 := 0) (n1 := 0) (wr := []) [] [] (rn_SN (As := [.long z135_1, .long x137_1]) (rest := [.long z126_1, .long z117_1, .ref fa]) (c_X11_below l D ct z135_1 x137_1  _) (cn_of (n := 2) hn mw_1040 mw_1 mw_1095 mhX11_below ⟨(Nat.le_of_ble_eq_true rfl), (Nat.le_of_ble_eq_true rfl)⟩) hx hb hml hown hn hK hSK hZ hS mw_1039 rfl hl.1 (Nat.le_of_ble_eq_true rfl) dX1_workRange_140 ⟨(Nat.le_of_ble_eq_true rfl), (Nat.le_of_ble_eq_true rfl)⟩) hP hD hS hA rfl rfl (by decide) (by decide) (by decide) (Nat.le_of_ble_eq_true rfl) (Nat.le_of_ble_eq_true rfl) (fun r140_1 u140_2 H locs hp140_3 hP hD hS => ?_)
        have hp140_4 := hp140_3
        have hp140_4 : rg r140_1 0 1 := hp140_4
        have hP : va_P D vwCl ([] ++ va_pl L g) _ := hP
        have hD : va_D A ([] ++ va_pl L g) := hD
        have b151 : ∀ (j151_s0 : Int32) (H : Heap) (locs : List Loc) (ls : Array Slot), (rg j151_s0 0 1) → lv_has ls 7 [] → va_P D vwCl ([] ++ va_pl L g) H → va_D A ([] ++ va_pl L g) → va_S A s.heap H locs → W p l e ({ frames := 3, cells := 0, slots := 0, locals := 66 }) s m [.ref fa, .int v0, .int v1, .ref fb].toArray below meth c H locs 0 0 Q (F0 m 151 ls [.int j151_s0, .long z126_1, .long z117_1, .ref fa]) := by
          intro j151_s0 H locs ls r151_1001 hl hP hD hS
          obtain ⟨kj151_1, loj151_1, hij151_1, suj151_1, onj151_1, hej151_1⟩ := hfp fa hm_fa
          obtain ⟨j151_1, hj151_1⟩ := va_pl_get (X := []) (f := g) hm_fa
          rw [hej151_1] at hj151_1
          refine gp_v (k1 := 0) (n1 := 0) (wr := []) [] [] (rn_V (As := [.long z117_1, .long z126_1, .int j151_s0]) (rest := []) (c_X1_keepRange l D ct L g fa z117_1 z126_1 j151_s0 hfp hm_fa r151_1001 _) (cb_of (n := 3) hn mw_1141 mw_12 mw_1138 mhX1_keepRange ⟨(Nat.le_of_ble_eq_true rfl), (Nat.le_of_ble_eq_true rfl)⟩) hx hb hml hown hn hK hSK hZ hS mw_1140 mw_s121 (ci := 1) (q0 := j151_1) rfl rfl hj151_1 rfl hl.1 (Nat.le_of_ble_eq_true rfl) dX1_workRange_151 ⟨(Nat.le_of_ble_eq_true rfl), (Nat.le_of_ble_eq_true rfl)⟩) hP hD hS hA rfl rfl (by decide) (by decide) (by decide) (Nat.le_of_ble_eq_true rfl) (Nat.le_of_ble_eq_true rfl) (fun u151_3 H locs hp151_4 hP hD hS => ?_)
          have hp151_5 := hp151_4
          have hP : va_P D vwCl ([] ++ va_pl L u151_3) _ := hP
          have hD : va_D A ([] ++ va_pl L u151_3) := hD
          refine lv_goto (tgt := 554) hx hb dX1_workRange_154 (by decide) ?_
          exact endp_v hQ hx hb hr hlocks dX1_workRange_554 u151_3 hp151_5 hP hD hS [] (by decide) rfl (Nat.le_of_ble_eq_true rfl) (Nat.le_of_ble_eq_true rfl)
        refine lv_if_ne (tgt := 150) hx hb dX1_workRange_143 (by decide) (fun c143_1 => ?_) (fun c143_1 => ?_)
        · have t143_2 := (i_ne c143_1)
          have r143_3 : rg r140_1 1 1 := rg_neAl t143_2 hp140_4 (show rg (0 : Int32) 0 0 from rg_l (by decide)) (by decide)
          refine lv_iconst (v := 0) hx hb dX1_workRange_150 (by decide) ?_
          exact b151 (0 : Int32) H locs ls (rg_w (show rg (0 : Int32) 0 0 from rg_l (by decide)) (by decide)) (lv_sub hl [] rfl) hP hD hS
        · have t143_2 := (i_eq c143_1)
          have r143_3 : rg r140_1 0 0 := rg_eqA t143_2 hp140_4 (show rg (0 : Int32) 0 0 from rg_l (by decide)) (by decide)
          refine lv_iconst (v := 1) hx hb dX1_workRange_146 (by decide) ?_
          refine lv_goto (tgt := 151) hx hb dX1_workRange_147 (by decide) ?_
          exact b151 (1 : Int32) H locs ls (rg_w (show rg (1 : Int32) 1 1 from rg_l (by decide)) (by decide)) (lv_sub hl [] rfl) hP hD hS
      by_cases h40_111 : v0.toInt = 1
      · have r40_112 : rg v0 1 1 := rg_at h40_111
        refine lv_tableIn (off := 117) (tgt := 157) hx hb dX1_workRange_40 (by rw [h40_111]; decide) (by rw [h40_111]; decide) (by rw [h40_111]; rfl) (by decide) ?_
        refine lv_aload_n hx hb dX1_workRange_157 rfl (lv_at hl 1 rfl) ?_
        refine lv_aload_n hx hb dX1_workRange_158 rfl (lv_at hl 1 rfl) ?_
        refine fp_get1 hx hb hn hown hK hP hfp hm_fa mw_319 dX1_workRange_159 (fun x159_1 => ?_)
        refine lv_aload_n hx hb dX1_workRange_162 rfl (lv_at hl 4 rfl) ?_
        refine fp_get2 hx hb hn hown hK hP hfp hm_fb mw_321 dX1_workRange_163 (fun x163_1 => ?_)
        refine lv_lsub hx hb dX1_workRange_166 ?_
        refine lv_topl (fun z166_1 ez166_1 => ?_)
        refine lv_aload_n hx hb dX1_workRange_167 rfl (lv_at hl 1 rfl) ?_
        refine fp_get2 hx hb hn hown hK hP hfp hm_fa mw_321 dX1_workRange_168 (fun x168_1 => ?_)
        refine lv_aload_n hx hb dX1_workRange_171 rfl (lv_at hl 4 rfl) ?_
        refine fp_get1 hx hb hn hown hK hP hfp hm_fb mw_319 dX1_workRange_172 (fun x172_1 => ?_)
        refine lv_lsub hx hb dX1_workRange_175 ?_
        refine lv_topl (fun z175_1 ez175_1 => ?_)
        refine lv_aload_n hx hb dX1_workRange_176 rfl (lv_at hl 1 rfl) ?_
        refine fp_get1 hx hb hn hown hK hP hfp hm_fa mw_319 dX1_workRange_177 (fun x177_1 => ?_)
        refine lv_aload_n hx hb dX1_workRange_180 rfl (lv_at hl 4 rfl) ?_
        refine fp_get2 hx hb hn hown hK hP hfp hm_fb mw_321 dX1_workRange_181 (fun x181_1 => ?_)
        refine gq_i (k1 := 0) (n1 := 0) (wr := []) [] [] (rn_SN (As := [.long x177_1, .long x181_1]) (rest := [.long z175_1, .long z166_1, .ref fa]) (c_X11_below l D ct x177_1 x181_1  _) (cn_of (n := 2) hn mw_1040 mw_1 mw_1095 mhX11_below ⟨(Nat.le_of_ble_eq_true rfl), (Nat.le_of_ble_eq_true rfl)⟩) hx hb hml hown hn hK hSK hZ hS mw_1039 rfl hl.1 (Nat.le_of_ble_eq_true rfl) dX1_workRange_184 ⟨(Nat.le_of_ble_eq_true rfl), (Nat.le_of_ble_eq_true rfl)⟩) hP hD hS hA rfl rfl (by decide) (by decide) (by decide) (Nat.le_of_ble_eq_true rfl) (Nat.le_of_ble_eq_true rfl) (fun r184_1 u184_2 H locs hp184_3 hP hD hS => ?_)
        have hp184_4 := hp184_3
        have hp184_4 : rg r184_1 0 1 := hp184_4
        have hP : va_P D vwCl ([] ++ va_pl L g) _ := hP
        have hD : va_D A ([] ++ va_pl L g) := hD
        have b195 : ∀ (j195_s0 : Int32) (H : Heap) (locs : List Loc) (ls : Array Slot), (rg j195_s0 0 1) → lv_has ls 7 [] → va_P D vwCl ([] ++ va_pl L g) H → va_D A ([] ++ va_pl L g) → va_S A s.heap H locs → W p l e ({ frames := 3, cells := 0, slots := 0, locals := 66 }) s m [.ref fa, .int v0, .int v1, .ref fb].toArray below meth c H locs 0 0 Q (F0 m 195 ls [.int j195_s0, .long z175_1, .long z166_1, .ref fa]) := by
          intro j195_s0 H locs ls r195_1001 hl hP hD hS
          obtain ⟨kj195_1, loj195_1, hij195_1, suj195_1, onj195_1, hej195_1⟩ := hfp fa hm_fa
          obtain ⟨j195_1, hj195_1⟩ := va_pl_get (X := []) (f := g) hm_fa
          rw [hej195_1] at hj195_1
          refine gp_v (k1 := 0) (n1 := 0) (wr := []) [] [] (rn_V (As := [.long z166_1, .long z175_1, .int j195_s0]) (rest := []) (c_X1_keepRange l D ct L g fa z166_1 z175_1 j195_s0 hfp hm_fa r195_1001 _) (cb_of (n := 3) hn mw_1141 mw_12 mw_1138 mhX1_keepRange ⟨(Nat.le_of_ble_eq_true rfl), (Nat.le_of_ble_eq_true rfl)⟩) hx hb hml hown hn hK hSK hZ hS mw_1140 mw_s121 (ci := 1) (q0 := j195_1) rfl rfl hj195_1 rfl hl.1 (Nat.le_of_ble_eq_true rfl) dX1_workRange_195 ⟨(Nat.le_of_ble_eq_true rfl), (Nat.le_of_ble_eq_true rfl)⟩) hP hD hS hA rfl rfl (by decide) (by decide) (by decide) (Nat.le_of_ble_eq_true rfl) (Nat.le_of_ble_eq_true rfl) (fun u195_3 H locs hp195_4 hP hD hS => ?_)
          have hp195_5 := hp195_4
          have hP : va_P D vwCl ([] ++ va_pl L u195_3) _ := hP
          have hD : va_D A ([] ++ va_pl L u195_3) := hD
          refine lv_goto (tgt := 554) hx hb dX1_workRange_198 (by decide) ?_
          exact endp_v hQ hx hb hr hlocks dX1_workRange_554 u195_3 hp195_5 hP hD hS [] (by decide) rfl (Nat.le_of_ble_eq_true rfl) (Nat.le_of_ble_eq_true rfl)
        refine lv_if_ne (tgt := 194) hx hb dX1_workRange_187 (by decide) (fun c187_1 => ?_) (fun c187_1 => ?_)
        · have t187_2 := (i_ne c187_1)
          have r187_3 : rg r184_1 1 1 := rg_neAl t187_2 hp184_4 (show rg (0 : Int32) 0 0 from rg_l (by decide)) (by decide)
          refine lv_iconst (v := 0) hx hb dX1_workRange_194 (by decide) ?_
          exact b195 (0 : Int32) H locs ls (rg_w (show rg (0 : Int32) 0 0 from rg_l (by decide)) (by decide)) (lv_sub hl [] rfl) hP hD hS
        · have t187_2 := (i_eq c187_1)
          have r187_3 : rg r184_1 0 0 := rg_eqA t187_2 hp184_4 (show rg (0 : Int32) 0 0 from rg_l (by decide)) (by decide)
          refine lv_iconst (v := 1) hx hb dX1_workRange_190 (by decide) ?_
          refine lv_goto (tgt := 195) hx hb dX1_workRange_191 (by decide) ?_
          exact b195 (1 : Int32) H locs ls (rg_w (show rg (1 : Int32) 1 1 from rg_l (by decide)) (by decide)) (lv_sub hl [] rfl) hP hD hS
      by_cases h40_121 : v0.toInt = 2
      · have r40_122 : rg v0 2 2 := rg_at h40_121
        refine lv_tableIn (off := 161) (tgt := 201) hx hb dX1_workRange_40 (by rw [h40_121]; decide) (by rw [h40_121]; decide) (by rw [h40_121]; rfl) (by decide) ?_
        refine lv_aload_n hx hb dX1_workRange_201 rfl (lv_at hl 1 rfl) ?_
        refine lv_aload_n hx hb dX1_workRange_202 rfl (lv_at hl 1 rfl) ?_
        refine fp_get1 hx hb hn hown hK hP hfp hm_fa mw_319 dX1_workRange_203 (fun x203_1 => ?_)
        refine lv_aload_n hx hb dX1_workRange_206 rfl (lv_at hl 4 rfl) ?_
        refine fp_get1 hx hb hn hown hK hP hfp hm_fb mw_319 dX1_workRange_207 (fun x207_1 => ?_)
        refine lv_lmul hx hb dX1_workRange_210 ?_
        refine lv_topl (fun z210_1 ez210_1 => ?_)
        refine lv_aload_n hx hb dX1_workRange_211 rfl (lv_at hl 1 rfl) ?_
        refine fp_get2 hx hb hn hown hK hP hfp hm_fa mw_321 dX1_workRange_212 (fun x212_1 => ?_)
        refine lv_aload_n hx hb dX1_workRange_215 rfl (lv_at hl 4 rfl) ?_
        refine fp_get2 hx hb hn hown hK hP hfp hm_fb mw_321 dX1_workRange_216 (fun x216_1 => ?_)
        refine lv_lmul hx hb dX1_workRange_219 ?_
        refine lv_topl (fun z219_1 ez219_1 => ?_)
        refine lv_aload_n hx hb dX1_workRange_220 rfl (lv_at hl 4 rfl) ?_
        refine fp_get2 hx hb hn hown hK hP hfp hm_fb mw_321 dX1_workRange_221 (fun x221_1 => ?_)
        refine lv_lconst (v := 0) hx hb dX1_workRange_224 (by decide) ?_
        refine W.lcmp hx hb dX1_workRange_225 ?_
        refine lv_topi (fun z225_1 ez225_1 => ?_)
        have b254 : ∀ (j254_s0 : Int32) (H : Heap) (locs : List Loc) (ls : Array Slot), (rg j254_s0 0 1) → lv_has ls 7 [] → va_P D vwCl ([] ++ va_pl L g) H → va_D A ([] ++ va_pl L g) → va_S A s.heap H locs → W p l e ({ frames := 3, cells := 0, slots := 0, locals := 66 }) s m [.ref fa, .int v0, .int v1, .ref fb].toArray below meth c H locs 0 0 Q (F0 m 254 ls [.int j254_s0, .long z219_1, .long z210_1, .ref fa]) := by
          intro j254_s0 H locs ls r254_1001 hl hP hD hS
          obtain ⟨kj254_1, loj254_1, hij254_1, suj254_1, onj254_1, hej254_1⟩ := hfp fa hm_fa
          obtain ⟨j254_1, hj254_1⟩ := va_pl_get (X := []) (f := g) hm_fa
          rw [hej254_1] at hj254_1
          refine gp_v (k1 := 0) (n1 := 0) (wr := []) [] [] (rn_V (As := [.long z210_1, .long z219_1, .int j254_s0]) (rest := []) (c_X1_keepRange l D ct L g fa z210_1 z219_1 j254_s0 hfp hm_fa r254_1001 _) (cb_of (n := 3) hn mw_1141 mw_12 mw_1138 mhX1_keepRange ⟨(Nat.le_of_ble_eq_true rfl), (Nat.le_of_ble_eq_true rfl)⟩) hx hb hml hown hn hK hSK hZ hS mw_1140 mw_s121 (ci := 1) (q0 := j254_1) rfl rfl hj254_1 rfl hl.1 (Nat.le_of_ble_eq_true rfl) dX1_workRange_254 ⟨(Nat.le_of_ble_eq_true rfl), (Nat.le_of_ble_eq_true rfl)⟩) hP hD hS hA rfl rfl (by decide) (by decide) (by decide) (Nat.le_of_ble_eq_true rfl) (Nat.le_of_ble_eq_true rfl) (fun u254_3 H locs hp254_4 hP hD hS => ?_)
          have hp254_5 := hp254_4
          have hP : va_P D vwCl ([] ++ va_pl L u254_3) _ := hP
          have hD : va_D A ([] ++ va_pl L u254_3) := hD
          refine lv_goto (tgt := 554) hx hb dX1_workRange_257 (by decide) ?_
          exact endp_v hQ hx hb hr hlocks dX1_workRange_554 u254_3 hp254_5 hP hD hS [] (by decide) rfl (Nat.le_of_ble_eq_true rfl) (Nat.le_of_ble_eq_true rfl)
        have b249 : ∀  (H : Heap) (locs : List Loc) (ls : Array Slot), lv_has ls 7 [] → va_P D vwCl ([] ++ va_pl L g) H → va_D A ([] ++ va_pl L g) → va_S A s.heap H locs → W p l e ({ frames := 3, cells := 0, slots := 0, locals := 66 }) s m [.ref fa, .int v0, .int v1, .ref fb].toArray below meth c H locs 0 0 Q (F0 m 249 ls [.long z219_1, .long z210_1, .ref fa]) := by
          intro  H locs ls  hl hP hD hS
          refine lv_iconst (v := 1) hx hb dX1_workRange_249 (by decide) ?_
          refine lv_goto (tgt := 254) hx hb dX1_workRange_250 (by decide) ?_
          exact b254 (1 : Int32) H locs ls (rg_w (show rg (1 : Int32) 1 1 from rg_l (by decide)) (by decide)) (lv_sub hl [] rfl) hP hD hS
        refine lv_if_eq (tgt := 249) hx hb dX1_workRange_226 (by decide) (fun c226_1 => ?_) (fun c226_1 => ?_)
        · have t226_2 := (l_eq ez225_1 c226_1)
          have r226_3 : rl x221_1 0 0 := rl_eqA t226_2 (rl_any x221_1) (show rl (0 : Int64) 0 0 from rl_l (by decide)) (by decide)
          exact b249  H locs ls  (lv_sub hl [] rfl) hP hD hS
        · have t226_2 := (l_neq ez225_1 c226_1)
          refine lv_ldc2 (v := (-1)) hx hb hown (hn.get mw_1025 rfl) dX1_workRange_229 ?_
          refine lv_aload_n hx hb dX1_workRange_232 rfl (lv_at hl 4 rfl) ?_
          refine fp_get2 hx hb hn hown hK hP hfp hm_fb mw_321 dX1_workRange_233 (fun x233_1 => ?_)
          refine gq_l (k1 := 0) (n1 := 0) (wr := []) [] [] (rn_SN (As := [.long (-1), .long x233_1]) (rest := [.long z219_1, .long z210_1, .ref fa]) (c_X11_quotient l D ct ((-1) : Int64) x233_1  _) (cn_of (n := 2) hn mw_1108 mw_1 mw_1142 mhX11_quotient ⟨(Nat.le_of_ble_eq_true rfl), (Nat.le_of_ble_eq_true rfl)⟩) hx hb hml hown hn hK hSK hZ hS mw_1107 rfl hl.1 (Nat.le_of_ble_eq_true rfl) dX1_workRange_236 ⟨(Nat.le_of_ble_eq_true rfl), (Nat.le_of_ble_eq_true rfl)⟩) hP hD hS hA rfl rfl (by decide) (by decide) (by decide) (Nat.le_of_ble_eq_true rfl) (Nat.le_of_ble_eq_true rfl) (fun r236_1 u236_2 H locs hp236_3 hP hD hS => ?_)
          have hP : va_P D vwCl ([] ++ va_pl L g) _ := hP
          have hD : va_D A ([] ++ va_pl L g) := hD
          refine lv_aload_n hx hb dX1_workRange_239 rfl (lv_at hl 1 rfl) ?_
          refine fp_get2 hx hb hn hown hK hP hfp hm_fa mw_321 dX1_workRange_240 (fun x240_1 => ?_)
          refine gq_i (k1 := 0) (n1 := 0) (wr := []) [] [] (rn_SN (As := [.long r236_1, .long x240_1]) (rest := [.long z219_1, .long z210_1, .ref fa]) (c_X11_below l D ct r236_1 x240_1  _) (cn_of (n := 2) hn mw_1040 mw_1 mw_1095 mhX11_below ⟨(Nat.le_of_ble_eq_true rfl), (Nat.le_of_ble_eq_true rfl)⟩) hx hb hml hown hn hK hSK hZ hS mw_1039 rfl hl.1 (Nat.le_of_ble_eq_true rfl) dX1_workRange_243 ⟨(Nat.le_of_ble_eq_true rfl), (Nat.le_of_ble_eq_true rfl)⟩) hP hD hS hA rfl rfl (by decide) (by decide) (by decide) (Nat.le_of_ble_eq_true rfl) (Nat.le_of_ble_eq_true rfl) (fun r243_1 u243_2 H locs hp243_3 hP hD hS => ?_)
          have hp243_4 := hp243_3
          have hp243_4 : rg r243_1 0 1 := hp243_4
          have hP : va_P D vwCl ([] ++ va_pl L g) _ := hP
          have hD : va_D A ([] ++ va_pl L g) := hD
          refine lv_if_ne (tgt := 253) hx hb dX1_workRange_246 (by decide) (fun c246_1 => ?_) (fun c246_1 => ?_)
          · have t246_2 := (i_ne c246_1)
            have r246_3 : rg r243_1 1 1 := rg_neAl t246_2 hp243_4 (show rg (0 : Int32) 0 0 from rg_l (by decide)) (by decide)
            refine lv_iconst (v := 0) hx hb dX1_workRange_253 (by decide) ?_
            exact b254 (0 : Int32) H locs ls (rg_w (show rg (0 : Int32) 0 0 from rg_l (by decide)) (by decide)) (lv_sub hl [] rfl) hP hD hS
          · have t246_2 := (i_eq c246_1)
            have r246_3 : rg r243_1 0 0 := rg_eqA t246_2 hp243_4 (show rg (0 : Int32) 0 0 from rg_l (by decide)) (by decide)
            exact b249  H locs ls  (lv_sub hl [] rfl) hP hD hS
      by_cases h40_131 : v0.toInt = 3
      · have r40_132 : rg v0 3 3 := rg_at h40_131
        refine lv_tableIn (off := 220) (tgt := 260) hx hb dX1_workRange_40 (by rw [h40_131]; decide) (by rw [h40_131]; decide) (by rw [h40_131]; rfl) (by decide) ?_
        refine lv_aload_n hx hb dX1_workRange_260 rfl (lv_at hl 1 rfl) ?_
        refine lv_aload_n hx hb dX1_workRange_261 rfl (lv_at hl 4 rfl) ?_
        refine fp_get1 hx hb hn hown hK hP hfp hm_fb mw_319 dX1_workRange_262 (fun x262_1 => ?_)
        refine lv_lconst (v := 0) hx hb dX1_workRange_265 (by decide) ?_
        refine W.lcmp hx hb dX1_workRange_266 ?_
        refine lv_topi (fun z266_1 ez266_1 => ?_)
        have b285 : ∀ (j285_s0 : Int64) (H : Heap) (locs : List Loc) (ls : Array Slot), lv_has ls 7 [(0, .ref fa), (3, .ref fb)] → va_P D vwCl ([] ++ va_pl L g) H → va_D A ([] ++ va_pl L g) → va_S A s.heap H locs → W p l e ({ frames := 3, cells := 0, slots := 0, locals := 66 }) s m [.ref fa, .int v0, .int v1, .ref fb].toArray below meth c H locs 0 0 Q (F0 m 285 ls [.long j285_s0, .ref fa]) := by
          intro j285_s0 H locs ls  hl hP hD hS
          refine lv_aload_n hx hb dX1_workRange_285 rfl (lv_at hl 1 rfl) ?_
          refine fp_get1 hx hb hn hown hK hP hfp hm_fb mw_319 dX1_workRange_286 (fun x286_1 => ?_)
          refine lv_lconst (v := 0) hx hb dX1_workRange_289 (by decide) ?_
          refine W.lcmp hx hb dX1_workRange_290 ?_
          refine lv_topi (fun z290_1 ez290_1 => ?_)
          have b312 : ∀ (j312_s0 : Int64) (H : Heap) (locs : List Loc) (ls : Array Slot), lv_has ls 7 [] → va_P D vwCl ([] ++ va_pl L g) H → va_D A ([] ++ va_pl L g) → va_S A s.heap H locs → W p l e ({ frames := 3, cells := 0, slots := 0, locals := 66 }) s m [.ref fa, .int v0, .int v1, .ref fb].toArray below meth c H locs 0 0 Q (F0 m 312 ls [.long j312_s0, .long j285_s0, .ref fa]) := by
            intro j312_s0 H locs ls  hl hP hD hS
            refine lv_iconst (v := 1) hx hb dX1_workRange_312 (by decide) ?_
            obtain ⟨kj313_1, loj313_1, hij313_1, suj313_1, onj313_1, hej313_1⟩ := hfp fa hm_fa
            obtain ⟨j313_1, hj313_1⟩ := va_pl_get (X := []) (f := g) hm_fa
            rw [hej313_1] at hj313_1
            refine gp_v (k1 := 0) (n1 := 0) (wr := []) [] [] (rn_V (As := [.long j285_s0, .long j312_s0, .int 1]) (rest := []) (c_X1_keepRange l D ct L g fa j285_s0 j312_s0 (1 : Int32) hfp hm_fa (rg_w (show rg (1 : Int32) 1 1 from rg_l (by decide)) (by decide)) _) (cb_of (n := 3) hn mw_1141 mw_12 mw_1138 mhX1_keepRange ⟨(Nat.le_of_ble_eq_true rfl), (Nat.le_of_ble_eq_true rfl)⟩) hx hb hml hown hn hK hSK hZ hS mw_1140 mw_s121 (ci := 1) (q0 := j313_1) rfl rfl hj313_1 rfl hl.1 (Nat.le_of_ble_eq_true rfl) dX1_workRange_313 ⟨(Nat.le_of_ble_eq_true rfl), (Nat.le_of_ble_eq_true rfl)⟩) hP hD hS hA rfl rfl (by decide) (by decide) (by decide) (Nat.le_of_ble_eq_true rfl) (Nat.le_of_ble_eq_true rfl) (fun u313_3 H locs hp313_4 hP hD hS => ?_)
            have hp313_5 := hp313_4
            have hP : va_P D vwCl ([] ++ va_pl L u313_3) _ := hP
            have hD : va_D A ([] ++ va_pl L u313_3) := hD
            refine lv_goto (tgt := 554) hx hb dX1_workRange_316 (by decide) ?_
            exact endp_v hQ hx hb hr hlocks dX1_workRange_554 u313_3 hp313_5 hP hD hS [] (by decide) rfl (Nat.le_of_ble_eq_true rfl) (Nat.le_of_ble_eq_true rfl)
          refine lv_if_ne (tgt := 301) hx hb dX1_workRange_291 (by decide) (fun c291_1 => ?_) (fun c291_1 => ?_)
          · have t291_2 := (l_ne ez290_1 c291_1)
            refine lv_aload_n hx hb dX1_workRange_301 rfl (lv_at hl 0 rfl) ?_
            refine fp_get2 hx hb hn hown hK hP hfp hm_fa mw_321 dX1_workRange_302 (fun x302_1 => ?_)
            refine lv_aload_n hx hb dX1_workRange_305 rfl (lv_at hl 1 rfl) ?_
            refine fp_get1 hx hb hn hown hK hP hfp hm_fb mw_319 dX1_workRange_306 (fun x306_1 => ?_)
            refine gq_l (k1 := 0) (n1 := 0) (wr := []) [] [] (rn_SN (As := [.long x302_1, .long x306_1]) (rest := [.long j285_s0, .ref fa]) (c_X11_quotient l D ct x302_1 x306_1  _) (cn_of (n := 2) hn mw_1108 mw_1 mw_1142 mhX11_quotient ⟨(Nat.le_of_ble_eq_true rfl), (Nat.le_of_ble_eq_true rfl)⟩) hx hb hml hown hn hK hSK hZ hS mw_1107 rfl hl.1 (Nat.le_of_ble_eq_true rfl) dX1_workRange_309 ⟨(Nat.le_of_ble_eq_true rfl), (Nat.le_of_ble_eq_true rfl)⟩) hP hD hS hA rfl rfl (by decide) (by decide) (by decide) (Nat.le_of_ble_eq_true rfl) (Nat.le_of_ble_eq_true rfl) (fun r309_1 u309_2 H locs hp309_3 hP hD hS => ?_)
            have hP : va_P D vwCl ([] ++ va_pl L g) _ := hP
            have hD : va_D A ([] ++ va_pl L g) := hD
            exact b312 r309_1 H locs ls  (lv_sub hl [] rfl) hP hD hS
          · have t291_2 := (l_eq ez290_1 c291_1)
            have r291_3 : rl x286_1 0 0 := rl_eqA t291_2 (rl_any x286_1) (show rl (0 : Int64) 0 0 from rl_l (by decide)) (by decide)
            refine lv_aload_n hx hb dX1_workRange_294 rfl (lv_at hl 0 rfl) ?_
            refine fp_get2 hx hb hn hown hK hP hfp hm_fa mw_321 dX1_workRange_295 (fun x295_1 => ?_)
            refine lv_goto (tgt := 312) hx hb dX1_workRange_298 (by decide) ?_
            exact b312 x295_1 H locs ls  (lv_sub hl [] rfl) hP hD hS
        refine lv_if_ne (tgt := 274) hx hb dX1_workRange_267 (by decide) (fun c267_1 => ?_) (fun c267_1 => ?_)
        · have t267_2 := (l_ne ez266_1 c267_1)
          refine lv_aload_n hx hb dX1_workRange_274 rfl (lv_at hl 1 rfl) ?_
          refine fp_get1 hx hb hn hown hK hP hfp hm_fa mw_319 dX1_workRange_275 (fun x275_1 => ?_)
          refine lv_aload_n hx hb dX1_workRange_278 rfl (lv_at hl 4 rfl) ?_
          refine fp_get2 hx hb hn hown hK hP hfp hm_fb mw_321 dX1_workRange_279 (fun x279_1 => ?_)
          refine gq_l (k1 := 0) (n1 := 0) (wr := []) [] [] (rn_SN (As := [.long x275_1, .long x279_1]) (rest := [.ref fa]) (c_X11_quotient l D ct x275_1 x279_1  _) (cn_of (n := 2) hn mw_1108 mw_1 mw_1142 mhX11_quotient ⟨(Nat.le_of_ble_eq_true rfl), (Nat.le_of_ble_eq_true rfl)⟩) hx hb hml hown hn hK hSK hZ hS mw_1107 rfl hl.1 (Nat.le_of_ble_eq_true rfl) dX1_workRange_282 ⟨(Nat.le_of_ble_eq_true rfl), (Nat.le_of_ble_eq_true rfl)⟩) hP hD hS hA rfl rfl (by decide) (by decide) (by decide) (Nat.le_of_ble_eq_true rfl) (Nat.le_of_ble_eq_true rfl) (fun r282_1 u282_2 H locs hp282_3 hP hD hS => ?_)
          have hP : va_P D vwCl ([] ++ va_pl L g) _ := hP
          have hD : va_D A ([] ++ va_pl L g) := hD
          exact b285 r282_1 H locs ls  (lv_sub hl [1, 4] rfl) hP hD hS
        · have t267_2 := (l_eq ez266_1 c267_1)
          have r267_3 : rl x262_1 0 0 := rl_eqA t267_2 (rl_any x262_1) (show rl (0 : Int64) 0 0 from rl_l (by decide)) (by decide)
          refine lv_lconst (v := 0) hx hb dX1_workRange_270 (by decide) ?_
          refine lv_goto (tgt := 285) hx hb dX1_workRange_271 (by decide) ?_
          exact b285 (0 : Int64) H locs ls  (lv_sub hl [1, 4] rfl) hP hD hS
      by_cases h40_141 : v0.toInt = 4
      · have r40_142 : rg v0 4 4 := rg_at h40_141
        refine lv_tableIn (off := 337) (tgt := 377) hx hb dX1_workRange_40 (by rw [h40_141]; decide) (by rw [h40_141]; decide) (by rw [h40_141]; rfl) (by decide) ?_
        refine lv_aload_n hx hb dX1_workRange_377 rfl (lv_at hl 1 rfl) ?_
        refine lv_aload_n hx hb dX1_workRange_378 rfl (lv_at hl 1 rfl) ?_
        refine fp_get1 hx hb hn hown hK hP hfp hm_fa mw_319 dX1_workRange_379 (fun x379_1 => ?_)
        refine lv_aload_n hx hb dX1_workRange_382 rfl (lv_at hl 4 rfl) ?_
        refine fp_get1 hx hb hn hown hK hP hfp hm_fb mw_319 dX1_workRange_383 (fun x383_1 => ?_)
        refine gq_l (k1 := 0) (n1 := 0) (wr := []) [] [] (rn_SN (As := [.long x379_1, .long x383_1]) (rest := [.ref fa]) (c_X11_greater l D ct x379_1 x383_1  _) (cn_of (n := 2) hn mw_1044 mw_1 mw_1144 mhX11_greater ⟨(Nat.le_of_ble_eq_true rfl), (Nat.le_of_ble_eq_true rfl)⟩) hx hb hml hown hn hK hSK hZ hS mw_1043 rfl hl.1 (Nat.le_of_ble_eq_true rfl) dX1_workRange_386 ⟨(Nat.le_of_ble_eq_true rfl), (Nat.le_of_ble_eq_true rfl)⟩) hP hD hS hA rfl rfl (by decide) (by decide) (by decide) (Nat.le_of_ble_eq_true rfl) (Nat.le_of_ble_eq_true rfl) (fun r386_1 u386_2 H locs hp386_3 hP hD hS => ?_)
        have hP : va_P D vwCl ([] ++ va_pl L g) _ := hP
        have hD : va_D A ([] ++ va_pl L g) := hD
        refine lv_aload_n hx hb dX1_workRange_389 rfl (lv_at hl 1 rfl) ?_
        refine fp_get2 hx hb hn hown hK hP hfp hm_fa mw_321 dX1_workRange_390 (fun x390_1 => ?_)
        refine lv_aload_n hx hb dX1_workRange_393 rfl (lv_at hl 4 rfl) ?_
        refine fp_get2 hx hb hn hown hK hP hfp hm_fb mw_321 dX1_workRange_394 (fun x394_1 => ?_)
        refine lv_lor hx hb dX1_workRange_397 ?_
        refine lv_topl (fun z397_1 ez397_1 => ?_)
        refine gq_l (k1 := 0) (n1 := 0) (wr := []) [] [] (rn_S (As := [.long z397_1]) (rest := [.long r386_1, .ref fa]) (c_X1_filled l D ct z397_1  _) (cb_of (n := 1) hn mw_1147 mw_12 mw_1145 mhX1_filled ⟨(Nat.le_of_ble_eq_true rfl), (Nat.le_of_ble_eq_true rfl)⟩) hx hb hml hown hn hK hSK hZ hS mw_1146 rfl hl.1 (Nat.le_of_ble_eq_true rfl) dX1_workRange_398 ⟨(Nat.le_of_ble_eq_true rfl), (Nat.le_of_ble_eq_true rfl)⟩) hP hD hS hA rfl rfl (by decide) (by decide) (by decide) (Nat.le_of_ble_eq_true rfl) (Nat.le_of_ble_eq_true rfl) (fun r398_1 u398_2 H locs hp398_3 hP hD hS => ?_)
        have hP : va_P D vwCl ([] ++ va_pl L g) _ := hP
        have hD : va_D A ([] ++ va_pl L g) := hD
        refine lv_iconst (v := 1) hx hb dX1_workRange_401 (by decide) ?_
        obtain ⟨kj402_1, loj402_1, hij402_1, suj402_1, onj402_1, hej402_1⟩ := hfp fa hm_fa
        obtain ⟨j402_1, hj402_1⟩ := va_pl_get (X := []) (f := g) hm_fa
        rw [hej402_1] at hj402_1
        refine gp_v (k1 := 0) (n1 := 0) (wr := []) [] [] (rn_V (As := [.long r386_1, .long r398_1, .int 1]) (rest := []) (c_X1_keepRange l D ct L g fa r386_1 r398_1 (1 : Int32) hfp hm_fa (rg_w (show rg (1 : Int32) 1 1 from rg_l (by decide)) (by decide)) _) (cb_of (n := 3) hn mw_1141 mw_12 mw_1138 mhX1_keepRange ⟨(Nat.le_of_ble_eq_true rfl), (Nat.le_of_ble_eq_true rfl)⟩) hx hb hml hown hn hK hSK hZ hS mw_1140 mw_s121 (ci := 1) (q0 := j402_1) rfl rfl hj402_1 rfl hl.1 (Nat.le_of_ble_eq_true rfl) dX1_workRange_402 ⟨(Nat.le_of_ble_eq_true rfl), (Nat.le_of_ble_eq_true rfl)⟩) hP hD hS hA rfl rfl (by decide) (by decide) (by decide) (Nat.le_of_ble_eq_true rfl) (Nat.le_of_ble_eq_true rfl) (fun u402_3 H locs hp402_4 hP hD hS => ?_)
        have hp402_5 := hp402_4
        have hP : va_P D vwCl ([] ++ va_pl L u402_3) _ := hP
        have hD : va_D A ([] ++ va_pl L u402_3) := hD
        refine lv_goto (tgt := 554) hx hb dX1_workRange_405 (by decide) ?_
        exact endp_v hQ hx hb hr hlocks dX1_workRange_554 u402_3 hp402_5 hP hD hS [] (by decide) rfl (Nat.le_of_ble_eq_true rfl) (Nat.le_of_ble_eq_true rfl)
      by_cases h40_151 : v0.toInt = 5
      · have r40_152 : rg v0 5 5 := rg_at h40_151
        refine lv_tableIn (off := 317) (tgt := 357) hx hb dX1_workRange_40 (by rw [h40_151]; decide) (by rw [h40_151]; decide) (by rw [h40_151]; rfl) (by decide) ?_
        refine lv_aload_n hx hb dX1_workRange_357 rfl (lv_at hl 1 rfl) ?_
        refine lv_lconst (v := 0) hx hb dX1_workRange_358 (by decide) ?_
        refine lv_aload_n hx hb dX1_workRange_359 rfl (lv_at hl 1 rfl) ?_
        refine fp_get2 hx hb hn hown hK hP hfp hm_fa mw_321 dX1_workRange_360 (fun x360_1 => ?_)
        refine lv_aload_n hx hb dX1_workRange_363 rfl (lv_at hl 4 rfl) ?_
        refine fp_get2 hx hb hn hown hK hP hfp hm_fb mw_321 dX1_workRange_364 (fun x364_1 => ?_)
        refine gq_l (k1 := 0) (n1 := 0) (wr := []) [] [] (rn_SN (As := [.long x360_1, .long x364_1]) (rest := [.long 0, .ref fa]) (c_X11_lesser l D ct x360_1 x364_1  _) (cn_of (n := 2) hn mw_1037 mw_1 mw_1143 mhX11_lesser ⟨(Nat.le_of_ble_eq_true rfl), (Nat.le_of_ble_eq_true rfl)⟩) hx hb hml hown hn hK hSK hZ hS mw_1036 rfl hl.1 (Nat.le_of_ble_eq_true rfl) dX1_workRange_367 ⟨(Nat.le_of_ble_eq_true rfl), (Nat.le_of_ble_eq_true rfl)⟩) hP hD hS hA rfl rfl (by decide) (by decide) (by decide) (Nat.le_of_ble_eq_true rfl) (Nat.le_of_ble_eq_true rfl) (fun r367_1 u367_2 H locs hp367_3 hP hD hS => ?_)
        have hP : va_P D vwCl ([] ++ va_pl L g) _ := hP
        have hD : va_D A ([] ++ va_pl L g) := hD
        refine lv_iconst (v := 1) hx hb dX1_workRange_370 (by decide) ?_
        obtain ⟨kj371_1, loj371_1, hij371_1, suj371_1, onj371_1, hej371_1⟩ := hfp fa hm_fa
        obtain ⟨j371_1, hj371_1⟩ := va_pl_get (X := []) (f := g) hm_fa
        rw [hej371_1] at hj371_1
        refine gp_v (k1 := 0) (n1 := 0) (wr := []) [] [] (rn_V (As := [.long 0, .long r367_1, .int 1]) (rest := []) (c_X1_keepRange l D ct L g fa (0 : Int64) r367_1 (1 : Int32) hfp hm_fa (rg_w (show rg (1 : Int32) 1 1 from rg_l (by decide)) (by decide)) _) (cb_of (n := 3) hn mw_1141 mw_12 mw_1138 mhX1_keepRange ⟨(Nat.le_of_ble_eq_true rfl), (Nat.le_of_ble_eq_true rfl)⟩) hx hb hml hown hn hK hSK hZ hS mw_1140 mw_s121 (ci := 1) (q0 := j371_1) rfl rfl hj371_1 rfl hl.1 (Nat.le_of_ble_eq_true rfl) dX1_workRange_371 ⟨(Nat.le_of_ble_eq_true rfl), (Nat.le_of_ble_eq_true rfl)⟩) hP hD hS hA rfl rfl (by decide) (by decide) (by decide) (Nat.le_of_ble_eq_true rfl) (Nat.le_of_ble_eq_true rfl) (fun u371_3 H locs hp371_4 hP hD hS => ?_)
        have hp371_5 := hp371_4
        have hP : va_P D vwCl ([] ++ va_pl L u371_3) _ := hP
        have hD : va_D A ([] ++ va_pl L u371_3) := hD
        refine lv_goto (tgt := 554) hx hb dX1_workRange_374 (by decide) ?_
        exact endp_v hQ hx hb hr hlocks dX1_workRange_554 u371_3 hp371_5 hP hD hS [] (by decide) rfl (Nat.le_of_ble_eq_true rfl) (Nat.le_of_ble_eq_true rfl)
      by_cases h40_161 : v0.toInt = 6
      · have r40_162 : rg v0 6 6 := rg_at h40_161
        refine lv_tableIn (off := 389) (tgt := 429) hx hb dX1_workRange_40 (by rw [h40_161]; decide) (by rw [h40_161]; decide) (by rw [h40_161]; rfl) (by decide) ?_
        refine lv_aload_n hx hb dX1_workRange_429 rfl (lv_at hl 1 rfl) ?_
        refine lv_aload_n hx hb dX1_workRange_430 rfl (lv_at hl 1 rfl) ?_
        refine fp_get1 hx hb hn hown hK hP hfp hm_fa mw_319 dX1_workRange_431 (fun x431_1 => ?_)
        refine lv_iload hx hb dX1_workRange_434 (lv_at hl 5 rfl) ?_
        refine lv_lshl hx hb dX1_workRange_436 rfl ?_
        refine lv_topl (fun z436_1 ez436_1 => ?_)
        refine lv_aload_n hx hb dX1_workRange_437 rfl (lv_at hl 1 rfl) ?_
        refine fp_get2 hx hb hn hown hK hP hfp hm_fa mw_321 dX1_workRange_438 (fun x438_1 => ?_)
        refine lv_iload hx hb dX1_workRange_441 (lv_at hl 5 rfl) ?_
        refine lv_lshl hx hb dX1_workRange_443 rfl ?_
        refine lv_topl (fun z443_1 ez443_1 => ?_)
        refine lv_iload hx hb dX1_workRange_444 (lv_at hl 0 rfl) ?_
        have b474 : ∀ (j474_s0 : Int32) (H : Heap) (locs : List Loc) (ls : Array Slot), (rg j474_s0 0 1) → lv_has ls 7 [] → va_P D vwCl ([] ++ va_pl L g) H → va_D A ([] ++ va_pl L g) → va_S A s.heap H locs → W p l e ({ frames := 3, cells := 0, slots := 0, locals := 66 }) s m [.ref fa, .int v0, .int v1, .ref fb].toArray below meth c H locs 0 0 Q (F0 m 474 ls [.int j474_s0, .long z443_1, .long z436_1, .ref fa]) := by
          intro j474_s0 H locs ls r474_1001 hl hP hD hS
          obtain ⟨kj474_1, loj474_1, hij474_1, suj474_1, onj474_1, hej474_1⟩ := hfp fa hm_fa
          obtain ⟨j474_1, hj474_1⟩ := va_pl_get (X := []) (f := g) hm_fa
          rw [hej474_1] at hj474_1
          refine gp_v (k1 := 0) (n1 := 0) (wr := []) [] [] (rn_V (As := [.long z436_1, .long z443_1, .int j474_s0]) (rest := []) (c_X1_keepRange l D ct L g fa z436_1 z443_1 j474_s0 hfp hm_fa r474_1001 _) (cb_of (n := 3) hn mw_1141 mw_12 mw_1138 mhX1_keepRange ⟨(Nat.le_of_ble_eq_true rfl), (Nat.le_of_ble_eq_true rfl)⟩) hx hb hml hown hn hK hSK hZ hS mw_1140 mw_s121 (ci := 1) (q0 := j474_1) rfl rfl hj474_1 rfl hl.1 (Nat.le_of_ble_eq_true rfl) dX1_workRange_474 ⟨(Nat.le_of_ble_eq_true rfl), (Nat.le_of_ble_eq_true rfl)⟩) hP hD hS hA rfl rfl (by decide) (by decide) (by decide) (Nat.le_of_ble_eq_true rfl) (Nat.le_of_ble_eq_true rfl) (fun u474_3 H locs hp474_4 hP hD hS => ?_)
          have hp474_5 := hp474_4
          have hP : va_P D vwCl ([] ++ va_pl L u474_3) _ := hP
          have hD : va_D A ([] ++ va_pl L u474_3) := hD
          refine lv_goto (tgt := 554) hx hb dX1_workRange_477 (by decide) ?_
          exact endp_v hQ hx hb hr hlocks dX1_workRange_554 u474_3 hp474_5 hP hD hS [] (by decide) rfl (Nat.le_of_ble_eq_true rfl) (Nat.le_of_ble_eq_true rfl)
        have b473 : ∀  (H : Heap) (locs : List Loc) (ls : Array Slot), lv_has ls 7 [] → va_P D vwCl ([] ++ va_pl L g) H → va_D A ([] ++ va_pl L g) → va_S A s.heap H locs → W p l e ({ frames := 3, cells := 0, slots := 0, locals := 66 }) s m [.ref fa, .int v0, .int v1, .ref fb].toArray below meth c H locs 0 0 Q (F0 m 473 ls [.long z443_1, .long z436_1, .ref fa]) := by
          intro  H locs ls  hl hP hD hS
          refine lv_iconst (v := 0) hx hb dX1_workRange_473 (by decide) ?_
          exact b474 (0 : Int32) H locs ls (rg_w (show rg (0 : Int32) 0 0 from rg_l (by decide)) (by decide)) (lv_sub hl [] rfl) hP hD hS
        refine lv_if_eq (tgt := 473) hx hb dX1_workRange_446 (by decide) (fun c446_1 => ?_) (fun c446_1 => ?_)
        · have t446_2 := (i_eq c446_1)
          have r446_3 : rg j37_s0 0 0 := rg_eqA t446_2 r37_1001 (show rg (0 : Int32) 0 0 from rg_l (by decide)) (by decide)
          exact b473  H locs ls  (lv_sub hl [] rfl) hP hD hS
        · have t446_2 := (i_ne c446_1)
          have r446_3 : rg j37_s0 1 1 := rg_neAl t446_2 r37_1001 (show rg (0 : Int32) 0 0 from rg_l (by decide)) (by decide)
          refine lv_iload hx hb dX1_workRange_449 (lv_at hl 5 rfl) ?_
          have b469 : ∀  (H : Heap) (locs : List Loc) (ls : Array Slot), lv_has ls 7 [] → va_P D vwCl ([] ++ va_pl L g) H → va_D A ([] ++ va_pl L g) → va_S A s.heap H locs → W p l e ({ frames := 3, cells := 0, slots := 0, locals := 66 }) s m [.ref fa, .int v0, .int v1, .ref fb].toArray below meth c H locs 0 0 Q (F0 m 469 ls [.long z443_1, .long z436_1, .ref fa]) := by
            intro  H locs ls  hl hP hD hS
            refine lv_iconst (v := 1) hx hb dX1_workRange_469 (by decide) ?_
            refine lv_goto (tgt := 474) hx hb dX1_workRange_470 (by decide) ?_
            exact b474 (1 : Int32) H locs ls (rg_w (show rg (1 : Int32) 1 1 from rg_l (by decide)) (by decide)) (lv_sub hl [] rfl) hP hD hS
          refine lv_if_eq (tgt := 469) hx hb dX1_workRange_451 (by decide) (fun c451_1 => ?_) (fun c451_1 => ?_)
          · have t451_2 := (i_eq c451_1)
            have r451_3 : rg z17_1 0 0 := rg_eqA t451_2 r17_2 (show rg (0 : Int32) 0 0 from rg_l (by decide)) (by decide)
            exact b469  H locs ls  (lv_sub hl [] rfl) hP hD hS
          · have t451_2 := (i_ne c451_1)
            have r451_3 : rg z17_1 1 63 := rg_neAl t451_2 r17_2 (show rg (0 : Int32) 0 0 from rg_l (by decide)) (by decide)
            refine lv_aload_n hx hb dX1_workRange_454 rfl (lv_at hl 1 rfl) ?_
            refine fp_get2 hx hb hn hown hK hP hfp hm_fa mw_321 dX1_workRange_455 (fun x455_1 => ?_)
            refine lv_bipush (v := 64) hx hb dX1_workRange_458 (by decide) ?_
            refine lv_iload hx hb dX1_workRange_460 (lv_at hl 5 rfl) ?_
            refine lv_isub hx hb dX1_workRange_462 ?_
            refine lv_topi (fun z462_1 ez462_1 => ?_)
            have r462_2 : rg z462_1 1 63 := rg_sub ez462_1 (show rg (64 : Int32) 64 64 from rg_l (by decide)) r451_3 (by decide)
            refine lv_lushr hx hb dX1_workRange_463 rfl ?_
            refine lv_topl (fun z463_1 ez463_1 => ?_)
            refine lv_lconst (v := 0) hx hb dX1_workRange_464 (by decide) ?_
            refine W.lcmp hx hb dX1_workRange_465 ?_
            refine lv_topi (fun z465_1 ez465_1 => ?_)
            refine lv_if_ne (tgt := 473) hx hb dX1_workRange_466 (by decide) (fun c466_1 => ?_) (fun c466_1 => ?_)
            · have t466_2 := (l_ne ez465_1 c466_1)
              exact b473  H locs ls  (lv_sub hl [] rfl) hP hD hS
            · have t466_2 := (l_eq ez465_1 c466_1)
              have r466_3 : rl z463_1 0 0 := rl_eqA t466_2 (rl_any z463_1) (show rl (0 : Int64) 0 0 from rl_l (by decide)) (by decide)
              exact b469  H locs ls  (lv_sub hl [] rfl) hP hD hS
      by_cases h40_171 : v0.toInt = 7
      · have r40_172 : rg v0 7 7 := rg_at h40_171
        refine lv_tableIn (off := 440) (tgt := 480) hx hb dX1_workRange_40 (by rw [h40_171]; decide) (by rw [h40_171]; decide) (by rw [h40_171]; rfl) (by decide) ?_
        exact b480  H locs ls  (lv_sub hl [1, 2, 3, 5, 0] rfl) hP hD hS
      by_cases h40_181 : v0.toInt = 8
      · have r40_182 : rg v0 8 8 := rg_at h40_181
        refine lv_tableIn (off := 505) (tgt := 545) hx hb dX1_workRange_40 (by rw [h40_181]; decide) (by rw [h40_181]; decide) (by rw [h40_181]; rfl) (by decide) ?_
        exact b545  H locs ls  (lv_sub hl [1] rfl) hP hD hS
      by_cases h40_191 : v0.toInt = 9
      · have r40_192 : rg v0 9 9 := rg_at h40_191
        refine lv_tableIn (off := 279) (tgt := 319) hx hb dX1_workRange_40 (by rw [h40_191]; decide) (by rw [h40_191]; decide) (by rw [h40_191]; rfl) (by decide) ?_
        refine lv_aload_n hx hb dX1_workRange_319 rfl (lv_at hl 1 rfl) ?_
        refine lv_lconst (v := 0) hx hb dX1_workRange_320 (by decide) ?_
        refine lv_aload_n hx hb dX1_workRange_321 rfl (lv_at hl 4 rfl) ?_
        refine fp_get1 hx hb hn hown hK hP hfp hm_fb mw_319 dX1_workRange_322 (fun x322_1 => ?_)
        refine lv_lconst (v := 0) hx hb dX1_workRange_325 (by decide) ?_
        refine W.lcmp hx hb dX1_workRange_326 ?_
        refine lv_topi (fun z326_1 ez326_1 => ?_)
        have b350 : ∀ (j350_s0 : Int64) (H : Heap) (locs : List Loc) (ls : Array Slot), lv_has ls 7 [] → va_P D vwCl ([] ++ va_pl L g) H → va_D A ([] ++ va_pl L g) → va_S A s.heap H locs → W p l e ({ frames := 3, cells := 0, slots := 0, locals := 66 }) s m [.ref fa, .int v0, .int v1, .ref fb].toArray below meth c H locs 0 0 Q (F0 m 350 ls [.long j350_s0, .long 0, .ref fa]) := by
          intro j350_s0 H locs ls  hl hP hD hS
          refine lv_iconst (v := 1) hx hb dX1_workRange_350 (by decide) ?_
          obtain ⟨kj351_1, loj351_1, hij351_1, suj351_1, onj351_1, hej351_1⟩ := hfp fa hm_fa
          obtain ⟨j351_1, hj351_1⟩ := va_pl_get (X := []) (f := g) hm_fa
          rw [hej351_1] at hj351_1
          refine gp_v (k1 := 0) (n1 := 0) (wr := []) [] [] (rn_V (As := [.long 0, .long j350_s0, .int 1]) (rest := []) (c_X1_keepRange l D ct L g fa (0 : Int64) j350_s0 (1 : Int32) hfp hm_fa (rg_w (show rg (1 : Int32) 1 1 from rg_l (by decide)) (by decide)) _) (cb_of (n := 3) hn mw_1141 mw_12 mw_1138 mhX1_keepRange ⟨(Nat.le_of_ble_eq_true rfl), (Nat.le_of_ble_eq_true rfl)⟩) hx hb hml hown hn hK hSK hZ hS mw_1140 mw_s121 (ci := 1) (q0 := j351_1) rfl rfl hj351_1 rfl hl.1 (Nat.le_of_ble_eq_true rfl) dX1_workRange_351 ⟨(Nat.le_of_ble_eq_true rfl), (Nat.le_of_ble_eq_true rfl)⟩) hP hD hS hA rfl rfl (by decide) (by decide) (by decide) (Nat.le_of_ble_eq_true rfl) (Nat.le_of_ble_eq_true rfl) (fun u351_3 H locs hp351_4 hP hD hS => ?_)
          have hp351_5 := hp351_4
          have hP : va_P D vwCl ([] ++ va_pl L u351_3) _ := hP
          have hD : va_D A ([] ++ va_pl L u351_3) := hD
          refine lv_goto (tgt := 554) hx hb dX1_workRange_354 (by decide) ?_
          exact endp_v hQ hx hb hr hlocks dX1_workRange_554 u351_3 hp351_5 hP hD hS [] (by decide) rfl (Nat.le_of_ble_eq_true rfl) (Nat.le_of_ble_eq_true rfl)
        refine lv_if_ne (tgt := 337) hx hb dX1_workRange_327 (by decide) (fun c327_1 => ?_) (fun c327_1 => ?_)
        · have t327_2 := (l_ne ez326_1 c327_1)
          refine lv_aload_n hx hb dX1_workRange_337 rfl (lv_at hl 1 rfl) ?_
          refine fp_get2 hx hb hn hown hK hP hfp hm_fa mw_321 dX1_workRange_338 (fun x338_1 => ?_)
          refine lv_aload_n hx hb dX1_workRange_341 rfl (lv_at hl 4 rfl) ?_
          refine fp_get2 hx hb hn hown hK hP hfp hm_fb mw_321 dX1_workRange_342 (fun x342_1 => ?_)
          refine lv_lconst (v := 1) hx hb dX1_workRange_345 (by decide) ?_
          refine lv_lsub hx hb dX1_workRange_346 ?_
          refine lv_topl (fun z346_1 ez346_1 => ?_)
          refine gq_l (k1 := 0) (n1 := 0) (wr := []) [] [] (rn_SN (As := [.long x338_1, .long z346_1]) (rest := [.long 0, .ref fa]) (c_X11_lesser l D ct x338_1 z346_1  _) (cn_of (n := 2) hn mw_1037 mw_1 mw_1143 mhX11_lesser ⟨(Nat.le_of_ble_eq_true rfl), (Nat.le_of_ble_eq_true rfl)⟩) hx hb hml hown hn hK hSK hZ hS mw_1036 rfl hl.1 (Nat.le_of_ble_eq_true rfl) dX1_workRange_347 ⟨(Nat.le_of_ble_eq_true rfl), (Nat.le_of_ble_eq_true rfl)⟩) hP hD hS hA rfl rfl (by decide) (by decide) (by decide) (Nat.le_of_ble_eq_true rfl) (Nat.le_of_ble_eq_true rfl) (fun r347_1 u347_2 H locs hp347_3 hP hD hS => ?_)
          have hP : va_P D vwCl ([] ++ va_pl L g) _ := hP
          have hD : va_D A ([] ++ va_pl L g) := hD
          exact b350 r347_1 H locs ls  (lv_sub hl [] rfl) hP hD hS
        · have t327_2 := (l_eq ez326_1 c327_1)
          have r327_3 : rl x322_1 0 0 := rl_eqA t327_2 (rl_any x322_1) (show rl (0 : Int64) 0 0 from rl_l (by decide)) (by decide)
          refine lv_aload_n hx hb dX1_workRange_330 rfl (lv_at hl 1 rfl) ?_
          refine fp_get2 hx hb hn hown hK hP hfp hm_fa mw_321 dX1_workRange_331 (fun x331_1 => ?_)
          refine lv_goto (tgt := 350) hx hb dX1_workRange_334 (by decide) ?_
          exact b350 x331_1 H locs ls  (lv_sub hl [] rfl) hP hD hS
      by_cases h40_201 : v0.toInt = 10
      · have r40_202 : rg v0 10 10 := rg_at h40_201
        refine lv_tableIn (off := 368) (tgt := 408) hx hb dX1_workRange_40 (by rw [h40_201]; decide) (by rw [h40_201]; decide) (by rw [h40_201]; rfl) (by decide) ?_
        refine lv_aload_n hx hb dX1_workRange_408 rfl (lv_at hl 1 rfl) ?_
        refine lv_lconst (v := 0) hx hb dX1_workRange_409 (by decide) ?_
        refine lv_aload_n hx hb dX1_workRange_410 rfl (lv_at hl 1 rfl) ?_
        refine fp_get2 hx hb hn hown hK hP hfp hm_fa mw_321 dX1_workRange_411 (fun x411_1 => ?_)
        refine lv_aload_n hx hb dX1_workRange_414 rfl (lv_at hl 4 rfl) ?_
        refine fp_get2 hx hb hn hown hK hP hfp hm_fb mw_321 dX1_workRange_415 (fun x415_1 => ?_)
        refine lv_lor hx hb dX1_workRange_418 ?_
        refine lv_topl (fun z418_1 ez418_1 => ?_)
        refine gq_l (k1 := 0) (n1 := 0) (wr := []) [] [] (rn_S (As := [.long z418_1]) (rest := [.long 0, .ref fa]) (c_X1_filled l D ct z418_1  _) (cb_of (n := 1) hn mw_1147 mw_12 mw_1145 mhX1_filled ⟨(Nat.le_of_ble_eq_true rfl), (Nat.le_of_ble_eq_true rfl)⟩) hx hb hml hown hn hK hSK hZ hS mw_1146 rfl hl.1 (Nat.le_of_ble_eq_true rfl) dX1_workRange_419 ⟨(Nat.le_of_ble_eq_true rfl), (Nat.le_of_ble_eq_true rfl)⟩) hP hD hS hA rfl rfl (by decide) (by decide) (by decide) (Nat.le_of_ble_eq_true rfl) (Nat.le_of_ble_eq_true rfl) (fun r419_1 u419_2 H locs hp419_3 hP hD hS => ?_)
        have hP : va_P D vwCl ([] ++ va_pl L g) _ := hP
        have hD : va_D A ([] ++ va_pl L g) := hD
        refine lv_iconst (v := 1) hx hb dX1_workRange_422 (by decide) ?_
        obtain ⟨kj423_1, loj423_1, hij423_1, suj423_1, onj423_1, hej423_1⟩ := hfp fa hm_fa
        obtain ⟨j423_1, hj423_1⟩ := va_pl_get (X := []) (f := g) hm_fa
        rw [hej423_1] at hj423_1
        refine gp_v (k1 := 0) (n1 := 0) (wr := []) [] [] (rn_V (As := [.long 0, .long r419_1, .int 1]) (rest := []) (c_X1_keepRange l D ct L g fa (0 : Int64) r419_1 (1 : Int32) hfp hm_fa (rg_w (show rg (1 : Int32) 1 1 from rg_l (by decide)) (by decide)) _) (cb_of (n := 3) hn mw_1141 mw_12 mw_1138 mhX1_keepRange ⟨(Nat.le_of_ble_eq_true rfl), (Nat.le_of_ble_eq_true rfl)⟩) hx hb hml hown hn hK hSK hZ hS mw_1140 mw_s121 (ci := 1) (q0 := j423_1) rfl rfl hj423_1 rfl hl.1 (Nat.le_of_ble_eq_true rfl) dX1_workRange_423 ⟨(Nat.le_of_ble_eq_true rfl), (Nat.le_of_ble_eq_true rfl)⟩) hP hD hS hA rfl rfl (by decide) (by decide) (by decide) (Nat.le_of_ble_eq_true rfl) (Nat.le_of_ble_eq_true rfl) (fun u423_3 H locs hp423_4 hP hD hS => ?_)
        have hp423_5 := hp423_4
        have hP : va_P D vwCl ([] ++ va_pl L u423_3) _ := hP
        have hD : va_D A ([] ++ va_pl L u423_3) := hD
        refine lv_goto (tgt := 554) hx hb dX1_workRange_426 (by decide) ?_
        exact endp_v hQ hx hb hr hlocks dX1_workRange_554 u423_3 hp423_5 hP hD hS [] (by decide) rfl (Nat.le_of_ble_eq_true rfl) (Nat.le_of_ble_eq_true rfl)
      by_cases h40_211 : v0.toInt = 11
      · have r40_212 : rg v0 11 11 := rg_at h40_211
        refine lv_tableIn (off := 505) (tgt := 545) hx hb dX1_workRange_40 (by rw [h40_211]; decide) (by rw [h40_211]; decide) (by rw [h40_211]; rfl) (by decide) ?_
        exact b545  H locs ls  (lv_sub hl [1] rfl) hP hD hS
      by_cases h40_221 : v0.toInt = 12
      · have r40_222 : rg v0 12 12 := rg_at h40_221
        refine lv_tableIn (off := 440) (tgt := 480) hx hb dX1_workRange_40 (by rw [h40_221]; decide) (by rw [h40_221]; decide) (by rw [h40_221]; rfl) (by decide) ?_
        exact b480  H locs ls  (lv_sub hl [1, 2, 3, 5, 0] rfl) hP hD hS
      refine lv_tableOut (tgt := 545) hx hb dX1_workRange_40 (by have q0 := (rg_any v0); have q1 := q0.1; have q2 := q0.2; omega) (by decide) ?_
      exact b545  H locs ls  (lv_sub hl [1] rfl) hP hD hS
    refine lv_if_ne (tgt := 36) hx hb dX1_workRange_29 (by decide) (fun c29_1 => ?_) (fun c29_1 => ?_)
    · have t29_2 := (l_ne ez28_1 c29_1)
      refine lv_iconst (v := 0) hx hb dX1_workRange_36 (by decide) ?_
      exact b37 (0 : Int32) H locs ls (rg_w (show rg (0 : Int32) 0 0 from rg_l (by decide)) (by decide)) (lv_sub hl [1, 2, 3, 4, 0] rfl) hP hD hS
    · have t29_2 := (l_eq ez28_1 c29_1)
      refine lv_iconst (v := 1) hx hb dX1_workRange_32 (by decide) ?_
      refine lv_goto (tgt := 37) hx hb dX1_workRange_33 (by decide) ?_
      exact b37 (1 : Int32) H locs ls (rg_w (show rg (1 : Int32) 1 1 from rg_l (by decide)) (by decide)) (lv_sub hl [1, 2, 3, 4, 0] rfl) hP hD hS
  refine lv_if_eq (tgt := 13) hx hb dX1_workRange_5 (by decide) (fun c5_1 => ?_) (fun c5_1 => ?_)
  · have t5_2 := (i_eq c5_1)
    have r5_3 : rg v1 0 0 := rg_eqA t5_2 h_v1 (show rg (0 : Int32) 0 0 from rg_l (by decide)) (by decide)
    refine lv_bipush (v := 31) hx hb dX1_workRange_13 (by decide) ?_
    exact b15 (31 : Int32) H locs ls (rg_w (show rg (31 : Int32) 31 31 from rg_l (by decide)) (by decide)) (lv_sub hl [0, 1, 2, 3] rfl) hP hD hS
  · have t5_2 := (i_ne c5_1)
    have r5_3 : rg v1 1 1 := rg_neAl t5_2 h_v1 (show rg (0 : Int32) 0 0 from rg_l (by decide)) (by decide)
    refine lv_bipush (v := 63) hx hb dX1_workRange_8 (by decide) ?_
    refine lv_goto (tgt := 15) hx hb dX1_workRange_10 (by decide) ?_
    exact b15 (63 : Int32) H locs ls (rg_w (show rg (63 : Int32) 63 63 from rg_l (by decide)) (by decide)) (lv_sub hl [0, 1, 2, 3] rfl) hP hD hS
set_option maxHeartbeats 2000000 in
theorem c_X1_work (l : Launch) (D : va_G) (ct : Nat → ClassId) (L : List Nat) (g : Nat → va_E) (fa : Nat) (fb : Nat) (v0 : Int32) (v1 : Int32) (hfp : FP L g) (hm_fa : fa ∈ L) (hm_fb : fb ∈ L) (h_v1 : rg v1 0 1) : KV (S := (Nat → va_E)) l yX1_work cX1_work 4 none 4 94 D ct [.ref fa, .int v0, .int v1, .ref fb] ([] ++ va_pl L g) 0 0 (fun (gp : (Nat → va_E)) => FP L gp) (fun (gp : (Nat → va_E)) => ([]) ++ va_pl L gp) := by
  refine KVq_of (by decide) (Nat.le_of_ble_eq_true rfl) (fun p e s m below meth c A Q C0 hA H locs hS hP hD hQ ls hl => ?_)
  obtain ⟨hx, hb, hr, hown, hin, hml, hlocks, hn, hK, hZ, hSK⟩ := C0
  have hl : lv_has ls 4 [(0, .ref fa), (1, .int v0), (2, .int v1), (3, .ref fb)] := hl
  refine lv_iload_n hx hb dX1_work_0 rfl (lv_at hl 2 rfl) ?_
  have b12 : ∀ (j12_pool : Nat → va_E) (H : Heap) (locs : List Loc) (ls : Array Slot), (FP L j12_pool) → lv_has ls 4 [(0, .ref fa), (1, .int v0), (2, .int v1), (3, .ref fb)] → va_P D vwCl ([] ++ va_pl L j12_pool) H → va_D A ([] ++ va_pl L j12_pool) → va_S A s.heap H locs → W p l e ({ frames := 4, cells := 0, slots := 0, locals := 94 }) s m [.ref fa, .int v0, .int v1, .ref fb].toArray below meth c H locs 0 0 Q (F0 m 12 ls []) := by
    intro j12_pool H locs ls hf12_1001 hl hP hD hS
    refine lv_iload_n hx hb dX1_work_12 rfl (lv_at hl 1 rfl) ?_
    refine lv_bipush (v := 11) hx hb dX1_work_13 (by decide) ?_
    have b98 : ∀ (j98_pool : Nat → va_E) (H : Heap) (locs : List Loc) (ls : Array Slot), (FP L j98_pool) → lv_has ls 4 [(0, .ref fa), (2, .int v1)] → va_P D vwCl ([] ++ va_pl L j98_pool) H → va_D A ([] ++ va_pl L j98_pool) → va_S A s.heap H locs → W p l e ({ frames := 4, cells := 0, slots := 0, locals := 94 }) s m [.ref fa, .int v0, .int v1, .ref fb].toArray below meth c H locs 0 0 Q (F0 m 98 ls []) := by
      intro j98_pool H locs ls hf98_1001 hl hP hD hS
      refine lv_aload_n hx hb dX1_work_98 rfl (lv_at hl 0 rfl) ?_
      obtain ⟨kj99_1, loj99_1, hij99_1, suj99_1, onj99_1, hej99_1⟩ := hf98_1001 fa hm_fa
      obtain ⟨j99_1, hj99_1⟩ := va_pl_get (X := []) (f := j98_pool) hm_fa
      rw [hej99_1] at hj99_1
      refine gp_v (k1 := 0) (n1 := 0) (wr := []) [] [] (rn_V (As := []) (rest := []) (c_X1_settle l D ct L j98_pool fa hf98_1001 hm_fa _) (cb_of (n := 0) hn mw_1100 mw_12 mw_1097 mhX1_settle ⟨(Nat.le_of_ble_eq_true rfl), (Nat.le_of_ble_eq_true rfl)⟩) hx hb hml hown hn hK hSK hZ hS mw_1099 mw_s113 (ci := 1) (q0 := j99_1) rfl rfl hj99_1 rfl hl.1 (Nat.le_of_ble_eq_true rfl) dX1_work_99 ⟨(Nat.le_of_ble_eq_true rfl), (Nat.le_of_ble_eq_true rfl)⟩) hP hD hS hA rfl rfl (by decide) (by decide) (by decide) (Nat.le_of_ble_eq_true rfl) (Nat.le_of_ble_eq_true rfl) (fun u99_3 H locs hp99_4 hP hD hS => ?_)
      have hp99_5 := hp99_4
      have hP : va_P D vwCl ([] ++ va_pl L u99_3) _ := hP
      have hD : va_D A ([] ++ va_pl L u99_3) := hD
      refine lv_iload_n hx hb dX1_work_102 rfl (lv_at hl 1 rfl) ?_
      refine lv_if_ne (tgt := 110) hx hb dX1_work_103 (by decide) (fun c103_1 => ?_) (fun c103_1 => ?_)
      · have t103_2 := (i_ne c103_1)
        have r103_3 : rg v1 1 1 := rg_neAl t103_2 h_v1 (show rg (0 : Int32) 0 0 from rg_l (by decide)) (by decide)
        exact endp_v hQ hx hb hr hlocks dX1_work_110 u99_3 hp99_5 hP hD hS [] (by decide) rfl (Nat.le_of_ble_eq_true rfl) (Nat.le_of_ble_eq_true rfl)
      · have t103_2 := (i_eq c103_1)
        have r103_3 : rg v1 0 0 := rg_eqA t103_2 h_v1 (show rg (0 : Int32) 0 0 from rg_l (by decide)) (by decide)
        refine lv_aload_n hx hb dX1_work_106 rfl (lv_at hl 0 rfl) ?_
        obtain ⟨kj107_1, loj107_1, hij107_1, suj107_1, onj107_1, hej107_1⟩ := hp99_5 fa hm_fa
        obtain ⟨j107_1, hj107_1⟩ := va_pl_get (X := []) (f := u99_3) hm_fa
        rw [hej107_1] at hj107_1
        refine gp_v (k1 := 0) (n1 := 0) (wr := []) [] [] (rn_V (As := []) (rest := []) (c_X1_cut l D ct L u99_3 fa hp99_5 hm_fa _) (cb_of (n := 0) hn mw_1093 mw_12 mw_1090 mhX1_cut ⟨(Nat.le_of_ble_eq_true rfl), (Nat.le_of_ble_eq_true rfl)⟩) hx hb hml hown hn hK hSK hZ hS mw_1092 mw_s112 (ci := 1) (q0 := j107_1) rfl rfl hj107_1 rfl hl.1 (Nat.le_of_ble_eq_true rfl) dX1_work_107 ⟨(Nat.le_of_ble_eq_true rfl), (Nat.le_of_ble_eq_true rfl)⟩) hP hD hS hA rfl rfl (by decide) (by decide) (by decide) (Nat.le_of_ble_eq_true rfl) (Nat.le_of_ble_eq_true rfl) (fun u107_3 H locs hp107_4 hP hD hS => ?_)
        have hp107_5 := hp107_4
        have hP : va_P D vwCl ([] ++ va_pl L u107_3) _ := hP
        have hD : va_D A ([] ++ va_pl L u107_3) := hD
        exact endp_v hQ hx hb hr hlocks dX1_work_110 u107_3 hp107_5 hP hD hS [] (by decide) rfl (Nat.le_of_ble_eq_true rfl) (Nat.le_of_ble_eq_true rfl)
    refine lv_icmp_ne (tgt := 26) hx hb dX1_work_15 (by decide) (fun c15_1 => ?_) (fun c15_1 => ?_)
    · have t15_2 := (i_ne c15_1)
      refine lv_aload_n hx hb dX1_work_26 rfl (lv_at hl 0 rfl) ?_
      refine fp_get1 hx hb hn hown hK hP hf12_1001 hm_fa mw_319 dX1_work_27 (fun x27_1 => ?_)
      refine lv_aload_n hx hb dX1_work_30 rfl (lv_at hl 0 rfl) ?_
      refine fp_get2 hx hb hn hown hK hP hf12_1001 hm_fa mw_321 dX1_work_31 (fun x31_1 => ?_)
      refine W.lcmp hx hb dX1_work_34 ?_
      refine lv_topi (fun z34_1 ez34_1 => ?_)
      have b84 : ∀  (H : Heap) (locs : List Loc) (ls : Array Slot), lv_has ls 4 [(0, .ref fa), (1, .int v0), (2, .int v1), (3, .ref fb)] → va_P D vwCl ([] ++ va_pl L j12_pool) H → va_D A ([] ++ va_pl L j12_pool) → va_S A s.heap H locs → W p l e ({ frames := 4, cells := 0, slots := 0, locals := 94 }) s m [.ref fa, .int v0, .int v1, .ref fb].toArray below meth c H locs 0 0 Q (F0 m 84 ls []) := by
        intro  H locs ls  hl hP hD hS
        refine lv_aload_n hx hb dX1_work_84 rfl (lv_at hl 0 rfl) ?_
        refine lv_iload_n hx hb dX1_work_85 rfl (lv_at hl 1 rfl) ?_
        refine lv_iload_n hx hb dX1_work_86 rfl (lv_at hl 2 rfl) ?_
        refine lv_aload_n hx hb dX1_work_87 rfl (lv_at hl 3 rfl) ?_
        obtain ⟨kj88_1, loj88_1, hij88_1, suj88_1, onj88_1, hej88_1⟩ := hf12_1001 fa hm_fa
        obtain ⟨j88_1, hj88_1⟩ := va_pl_get (X := []) (f := j12_pool) hm_fa
        rw [hej88_1] at hj88_1
        refine gp_v (k1 := 0) (n1 := 0) (wr := []) [] [] (rn_V (As := [.int v0, .int v1, .ref fb]) (rest := []) (c_X1_workBits l D ct L j12_pool fa fb v0 v1 hf12_1001 hm_fa hm_fb h_v1 _) (cb_of (n := 3) hn mw_1112 mw_12 mw_1109 mhX1_workBits ⟨(Nat.le_of_ble_eq_true rfl), (Nat.le_of_ble_eq_true rfl)⟩) hx hb hml hown hn hK hSK hZ hS mw_1111 mw_s114 (ci := 1) (q0 := j88_1) rfl rfl hj88_1 rfl hl.1 (Nat.le_of_ble_eq_true rfl) dX1_work_88 ⟨(Nat.le_of_ble_eq_true rfl), (Nat.le_of_ble_eq_true rfl)⟩) hP hD hS hA rfl rfl (by decide) (by decide) (by decide) (Nat.le_of_ble_eq_true rfl) (Nat.le_of_ble_eq_true rfl) (fun u88_3 H locs hp88_4 hP hD hS => ?_)
        have hp88_5 := hp88_4
        have hP : va_P D vwCl ([] ++ va_pl L u88_3) _ := hP
        have hD : va_D A ([] ++ va_pl L u88_3) := hD
        refine lv_aload_n hx hb dX1_work_91 rfl (lv_at hl 0 rfl) ?_
        refine lv_iload_n hx hb dX1_work_92 rfl (lv_at hl 1 rfl) ?_
        refine lv_iload_n hx hb dX1_work_93 rfl (lv_at hl 2 rfl) ?_
        refine lv_aload_n hx hb dX1_work_94 rfl (lv_at hl 3 rfl) ?_
        obtain ⟨kj95_1, loj95_1, hij95_1, suj95_1, onj95_1, hej95_1⟩ := hp88_5 fa hm_fa
        obtain ⟨j95_1, hj95_1⟩ := va_pl_get (X := []) (f := u88_3) hm_fa
        rw [hej95_1] at hj95_1
        refine gp_v (k1 := 0) (n1 := 0) (wr := []) [] [] (rn_V (As := [.int v0, .int v1, .ref fb]) (rest := []) (c_X1_workRange l D ct L u88_3 fa fb v0 v1 hp88_5 hm_fa hm_fb h_v1 _) (cb_of (n := 3) hn mw_1137 mw_12 mw_1134 mhX1_workRange ⟨(Nat.le_of_ble_eq_true rfl), (Nat.le_of_ble_eq_true rfl)⟩) hx hb hml hown hn hK hSK hZ hS mw_1136 mw_s120 (ci := 1) (q0 := j95_1) rfl rfl hj95_1 rfl hl.1 (Nat.le_of_ble_eq_true rfl) dX1_work_95 ⟨(Nat.le_of_ble_eq_true rfl), (Nat.le_of_ble_eq_true rfl)⟩) hP hD hS hA rfl rfl (by decide) (by decide) (by decide) (Nat.le_of_ble_eq_true rfl) (Nat.le_of_ble_eq_true rfl) (fun u95_3 H locs hp95_4 hP hD hS => ?_)
        have hp95_5 := hp95_4
        have hP : va_P D vwCl ([] ++ va_pl L u95_3) _ := hP
        have hD : va_D A ([] ++ va_pl L u95_3) := hD
        exact b98 u95_3 H locs ls hp95_5 (lv_sub hl [0, 2] rfl) hP hD hS
      refine lv_if_ne (tgt := 84) hx hb dX1_work_35 (by decide) (fun c35_1 => ?_) (fun c35_1 => ?_)
      · have t35_2 := (l_ne ez34_1 c35_1)
        exact b84  H locs ls  (lv_sub hl [0, 1, 2, 3] rfl) hP hD hS
      · have t35_2 := (l_eq ez34_1 c35_1)
        refine lv_iload_n hx hb dX1_work_38 rfl (lv_at hl 1 rfl) ?_
        refine lv_bipush (v := 8) hx hb dX1_work_39 (by decide) ?_
        have b56 : ∀  (H : Heap) (locs : List Loc) (ls : Array Slot), lv_has ls 4 [(0, .ref fa), (1, .int v0), (2, .int v1), (3, .ref fb)] → va_P D vwCl ([] ++ va_pl L j12_pool) H → va_D A ([] ++ va_pl L j12_pool) → va_S A s.heap H locs → W p l e ({ frames := 4, cells := 0, slots := 0, locals := 94 }) s m [.ref fa, .int v0, .int v1, .ref fb].toArray below meth c H locs 0 0 Q (F0 m 56 ls []) := by
          intro  H locs ls  hl hP hD hS
          refine lv_aload_n hx hb dX1_work_56 rfl (lv_at hl 0 rfl) ?_
          refine lv_iload_n hx hb dX1_work_57 rfl (lv_at hl 1 rfl) ?_
          refine lv_iload_n hx hb dX1_work_58 rfl (lv_at hl 2 rfl) ?_
          refine lv_aload_n hx hb dX1_work_59 rfl (lv_at hl 0 rfl) ?_
          refine fp_get1 hx hb hn hown hK hP hf12_1001 hm_fa mw_319 dX1_work_60 (fun x60_1 => ?_)
          refine lv_aload_n hx hb dX1_work_63 rfl (lv_at hl 3 rfl) ?_
          refine fp_get1 hx hb hn hown hK hP hf12_1001 hm_fb mw_319 dX1_work_64 (fun x64_1 => ?_)
          refine gq_l (k1 := 0) (n1 := 0) (wr := []) [] [] (rn_SN (As := [.int v0, .int v1, .long x60_1, .long x64_1]) (rest := [.ref fa]) (c_X11_worked l D ct v0 v1 x60_1 x64_1 h_v1 _) (cn_of (n := 4) hn mw_1104 mw_1 mw_1102 mhX11_worked ⟨(Nat.le_of_ble_eq_true rfl), (Nat.le_of_ble_eq_true rfl)⟩) hx hb hml hown hn hK hSK hZ hS mw_1103 rfl hl.1 (Nat.le_of_ble_eq_true rfl) dX1_work_67 ⟨(Nat.le_of_ble_eq_true rfl), (Nat.le_of_ble_eq_true rfl)⟩) hP hD hS hA rfl rfl (by decide) (by decide) (by decide) (Nat.le_of_ble_eq_true rfl) (Nat.le_of_ble_eq_true rfl) (fun r67_1 u67_2 H locs hp67_3 hP hD hS => ?_)
          have hP : va_P D vwCl ([] ++ va_pl L j12_pool) _ := hP
          have hD : va_D A ([] ++ va_pl L j12_pool) := hD
          refine fp_put1 hx hb hn hown hK hP hD hS hf12_1001 hm_fa mw_319 (x := r67_1) dX1_work_70 (fun g70_1 H locs hf70_2 hP hD hS => ?_)
          refine lv_aload_n hx hb dX1_work_73 rfl (lv_at hl 0 rfl) ?_
          refine lv_aload_n hx hb dX1_work_74 rfl (lv_at hl 0 rfl) ?_
          refine fp_get1 hx hb hn hown hK hP hf70_2 hm_fa mw_319 dX1_work_75 (fun x75_1 => ?_)
          refine fp_put2 hx hb hn hown hK hP hD hS hf70_2 hm_fa mw_321 (x := x75_1) dX1_work_78 (fun g78_1 H locs hf78_2 hP hD hS => ?_)
          refine lv_goto (tgt := 98) hx hb dX1_work_81 (by decide) ?_
          exact b98 g78_1 H locs ls hf78_2 (lv_sub hl [0, 2] rfl) hP hD hS
        refine lv_icmp_eq (tgt := 56) hx hb dX1_work_41 (by decide) (fun c41_1 => ?_) (fun c41_1 => ?_)
        · have t41_2 := (i_eq c41_1)
          have r41_3 : rg v0 8 8 := rg_eqA t41_2 (rg_any v0) (show rg (8 : Int32) 8 8 from rg_l (by decide)) (by decide)
          exact b56  H locs ls  (lv_sub hl [0, 1, 2, 3] rfl) hP hD hS
        · have t41_2 := (i_ne c41_1)
          refine lv_aload_n hx hb dX1_work_44 rfl (lv_at hl 3 rfl) ?_
          refine fp_get1 hx hb hn hown hK hP hf12_1001 hm_fb mw_319 dX1_work_45 (fun x45_1 => ?_)
          refine lv_aload_n hx hb dX1_work_48 rfl (lv_at hl 3 rfl) ?_
          refine fp_get2 hx hb hn hown hK hP hf12_1001 hm_fb mw_321 dX1_work_49 (fun x49_1 => ?_)
          refine W.lcmp hx hb dX1_work_52 ?_
          refine lv_topi (fun z52_1 ez52_1 => ?_)
          refine lv_if_ne (tgt := 84) hx hb dX1_work_53 (by decide) (fun c53_1 => ?_) (fun c53_1 => ?_)
          · have t53_2 := (l_ne ez52_1 c53_1)
            exact b84  H locs ls  (lv_sub hl [0, 1, 2, 3] rfl) hP hD hS
          · have t53_2 := (l_eq ez52_1 c53_1)
            exact b56  H locs ls  (lv_sub hl [0, 1, 2, 3] rfl) hP hD hS
    · have t15_2 := (i_eq c15_1)
      have r15_3 : rg v0 11 11 := rg_eqA t15_2 (rg_any v0) (show rg (11 : Int32) 11 11 from rg_l (by decide)) (by decide)
      refine lv_aload_n hx hb dX1_work_18 rfl (lv_at hl 0 rfl) ?_
      refine lv_aload_n hx hb dX1_work_19 rfl (lv_at hl 3 rfl) ?_
      obtain ⟨kj20_1, loj20_1, hij20_1, suj20_1, onj20_1, hej20_1⟩ := hf12_1001 fa hm_fa
      obtain ⟨j20_1, hj20_1⟩ := va_pl_get (X := []) (f := j12_pool) hm_fa
      rw [hej20_1] at hj20_1
      refine gp_v (k1 := 0) (n1 := 0) (wr := []) [] [] (rn_V (As := [.ref fb]) (rest := []) (c_X1_copy l D ct L j12_pool fa fb hf12_1001 hm_fa hm_fb _) (cb_of (n := 1) hn mw_1085 mw_12 mw_1101 mhX1_copy ⟨(Nat.le_of_ble_eq_true rfl), (Nat.le_of_ble_eq_true rfl)⟩) hx hb hml hown hn hK hSK hZ hS mw_1084 mw_s110 (ci := 1) (q0 := j20_1) rfl rfl hj20_1 rfl hl.1 (Nat.le_of_ble_eq_true rfl) dX1_work_20 ⟨(Nat.le_of_ble_eq_true rfl), (Nat.le_of_ble_eq_true rfl)⟩) hP hD hS hA rfl rfl (by decide) (by decide) (by decide) (Nat.le_of_ble_eq_true rfl) (Nat.le_of_ble_eq_true rfl) (fun u20_3 H locs hp20_4 hP hD hS => ?_)
      have hp20_5 := hp20_4
      have hP : va_P D vwCl ([] ++ va_pl L u20_3) _ := hP
      have hD : va_D A ([] ++ va_pl L u20_3) := hD
      refine lv_goto (tgt := 98) hx hb dX1_work_23 (by decide) ?_
      exact b98 u20_3 H locs ls hp20_5 (lv_sub hl [0, 2] rfl) hP hD hS
  refine lv_if_ne (tgt := 12) hx hb dX1_work_1 (by decide) (fun c1_1 => ?_) (fun c1_1 => ?_)
  · have t1_2 := (i_ne c1_1)
    have r1_3 : rg v1 1 1 := rg_neAl t1_2 h_v1 (show rg (0 : Int32) 0 0 from rg_l (by decide)) (by decide)
    exact b12 g H locs ls hfp (lv_sub hl [0, 1, 2, 3] rfl) hP hD hS
  · have t1_2 := (i_eq c1_1)
    have r1_3 : rg v1 0 0 := rg_eqA t1_2 h_v1 (show rg (0 : Int32) 0 0 from rg_l (by decide)) (by decide)
    refine lv_aload_n hx hb dX1_work_4 rfl (lv_at hl 0 rfl) ?_
    obtain ⟨kj5_1, loj5_1, hij5_1, suj5_1, onj5_1, hej5_1⟩ := hfp fa hm_fa
    obtain ⟨j5_1, hj5_1⟩ := va_pl_get (X := []) (f := g) hm_fa
    rw [hej5_1] at hj5_1
    refine gp_v (k1 := 0) (n1 := 0) (wr := []) [] [] (rn_V (As := []) (rest := []) (c_X1_cut l D ct L g fa hfp hm_fa _) (cb_of (n := 0) hn mw_1093 mw_12 mw_1090 mhX1_cut ⟨(Nat.le_of_ble_eq_true rfl), (Nat.le_of_ble_eq_true rfl)⟩) hx hb hml hown hn hK hSK hZ hS mw_1092 mw_s112 (ci := 1) (q0 := j5_1) rfl rfl hj5_1 rfl hl.1 (Nat.le_of_ble_eq_true rfl) dX1_work_5 ⟨(Nat.le_of_ble_eq_true rfl), (Nat.le_of_ble_eq_true rfl)⟩) hP hD hS hA rfl rfl (by decide) (by decide) (by decide) (Nat.le_of_ble_eq_true rfl) (Nat.le_of_ble_eq_true rfl) (fun u5_3 H locs hp5_4 hP hD hS => ?_)
    have hp5_5 := hp5_4
    have hP : va_P D vwCl ([] ++ va_pl L u5_3) _ := hP
    have hD : va_D A ([] ++ va_pl L u5_3) := hD
    refine lv_aload_n hx hb dX1_work_8 rfl (lv_at hl 3 rfl) ?_
    obtain ⟨kj9_1, loj9_1, hij9_1, suj9_1, onj9_1, hej9_1⟩ := hp5_5 fb hm_fb
    obtain ⟨j9_1, hj9_1⟩ := va_pl_get (X := []) (f := u5_3) hm_fb
    rw [hej9_1] at hj9_1
    refine gp_v (k1 := 0) (n1 := 0) (wr := []) [] [] (rn_V (As := []) (rest := []) (c_X1_cut l D ct L u5_3 fb hp5_5 hm_fb _) (cb_of (n := 0) hn mw_1093 mw_12 mw_1090 mhX1_cut ⟨(Nat.le_of_ble_eq_true rfl), (Nat.le_of_ble_eq_true rfl)⟩) hx hb hml hown hn hK hSK hZ hS mw_1092 mw_s112 (ci := 1) (q0 := j9_1) rfl rfl hj9_1 rfl hl.1 (Nat.le_of_ble_eq_true rfl) dX1_work_9 ⟨(Nat.le_of_ble_eq_true rfl), (Nat.le_of_ble_eq_true rfl)⟩) hP hD hS hA rfl rfl (by decide) (by decide) (by decide) (Nat.le_of_ble_eq_true rfl) (Nat.le_of_ble_eq_true rfl) (fun u9_3 H locs hp9_4 hP hD hS => ?_)
    have hp9_5 := hp9_4
    have hP : va_P D vwCl ([] ++ va_pl L u9_3) _ := hP
    have hD : va_D A ([] ++ va_pl L u9_3) := hD
    exact b12 u9_3 H locs ls hp9_5 (lv_sub hl [0, 1, 2, 3] rfl) hP hD hS
set_option maxHeartbeats 2000000 in
theorem c_X1_narrowUnequal (l : Launch) (D : va_G) (ct : Nat → ClassId) (L : List Nat) (g : Nat → va_E) (fa : Nat) (v0 : Int64) (hfp : FP L g) (hm_fa : fa ∈ L) : KI (S := (Nat → va_E)) l yX1_narrowUnequal cX1_narrowUnequal 3 (some .boolean) 1 20 D ct [.ref fa, .long v0] ([] ++ va_pl L g) 0 0 (fun (r : Int32) (gp : (Nat → va_E)) => rg r 0 1 ∧ FP L gp) (fun (gp : (Nat → va_E)) => ([]) ++ va_pl L gp) := by
  refine KIq_of (by decide) (Nat.le_of_ble_eq_true rfl) (fun p e s m below meth c A Q C0 hA H locs hS hP hD hQ ls hl => ?_)
  obtain ⟨hx, hb, hr, hown, hin, hml, hlocks, hn, hK, hZ, hSK⟩ := C0
  have hl : lv_has ls 3 [(0, .ref fa), (1, .long v0)] := hl
  refine lv_aload_n hx hb dX1_narrowUnequal_0 rfl (lv_at hl 0 rfl) ?_
  refine fp_get1 hx hb hn hown hK hP hfp hm_fa mw_319 dX1_narrowUnequal_1 (fun x1_1 => ?_)
  refine lv_lload_n hx hb dX1_narrowUnequal_4 rfl (lv_at hl 1 rfl) ?_
  refine W.lcmp hx hb dX1_narrowUnequal_5 ?_
  refine lv_topi (fun z5_1 ez5_1 => ?_)
  have b20 : ∀  (H : Heap) (locs : List Loc) (ls : Array Slot), lv_has ls 3 [(0, .ref fa), (1, .long v0)] → va_P D vwCl ([] ++ va_pl L g) H → va_D A ([] ++ va_pl L g) → va_S A s.heap H locs → W p l e ({ frames := 1, cells := 0, slots := 0, locals := 20 }) s m [.ref fa, .long v0].toArray below meth c H locs 0 0 Q (F0 m 20 ls []) := by
    intro  H locs ls  hl hP hD hS
    refine lv_aload_n hx hb dX1_narrowUnequal_20 rfl (lv_at hl 0 rfl) ?_
    refine fp_get1 hx hb hn hown hK hP hfp hm_fa mw_319 dX1_narrowUnequal_21 (fun x21_1 => ?_)
    refine lv_lload_n hx hb dX1_narrowUnequal_24 rfl (lv_at hl 1 rfl) ?_
    refine W.lcmp hx hb dX1_narrowUnequal_25 ?_
    refine lv_topi (fun z25_1 ez25_1 => ?_)
    refine lv_if_ne (tgt := 42) hx hb dX1_narrowUnequal_26 (by decide) (fun c26_1 => ?_) (fun c26_1 => ?_)
    · have t26_2 := (l_ne ez25_1 c26_1)
      refine lv_aload_n hx hb dX1_narrowUnequal_42 rfl (lv_at hl 0 rfl) ?_
      refine fp_get2 hx hb hn hown hK hP hfp hm_fa mw_321 dX1_narrowUnequal_43 (fun x43_1 => ?_)
      refine lv_lload_n hx hb dX1_narrowUnequal_46 rfl (lv_at hl 1 rfl) ?_
      refine W.lcmp hx hb dX1_narrowUnequal_47 ?_
      refine lv_topi (fun z47_1 ez47_1 => ?_)
      refine lv_if_ne (tgt := 61) hx hb dX1_narrowUnequal_48 (by decide) (fun c48_1 => ?_) (fun c48_1 => ?_)
      · have t48_2 := (l_ne ez47_1 c48_1)
        refine lv_iconst (v := 1) hx hb dX1_narrowUnequal_61 (by decide) ?_
        exact endp_i hQ hx hb hr hlocks dX1_narrowUnequal_62 (by decide) g ⟨(rg_w (show rg (1 : Int32) 1 1 from rg_l (by decide)) (by decide)), hfp⟩ hP hD hS [] (by decide) rfl (Nat.le_of_ble_eq_true rfl) (Nat.le_of_ble_eq_true rfl)
      · have t48_2 := (l_eq ez47_1 c48_1)
        refine lv_aload_n hx hb dX1_narrowUnequal_51 rfl (lv_at hl 0 rfl) ?_
        refine lv_dup hx hb dX1_narrowUnequal_52 rfl ?_
        refine fp_get2 hx hb hn hown hK hP hfp hm_fa mw_321 dX1_narrowUnequal_53 (fun x53_1 => ?_)
        refine lv_lconst (v := 1) hx hb dX1_narrowUnequal_56 (by decide) ?_
        refine lv_lsub hx hb dX1_narrowUnequal_57 ?_
        refine lv_topl (fun z57_1 ez57_1 => ?_)
        refine fp_put2 hx hb hn hown hK hP hD hS hfp hm_fa mw_321 (x := z57_1) dX1_narrowUnequal_58 (fun g58_1 H locs hf58_2 hP hD hS => ?_)
        refine lv_iconst (v := 1) hx hb dX1_narrowUnequal_61 (by decide) ?_
        exact endp_i hQ hx hb hr hlocks dX1_narrowUnequal_62 (by decide) g58_1 ⟨(rg_w (show rg (1 : Int32) 1 1 from rg_l (by decide)) (by decide)), hf58_2⟩ hP hD hS [] (by decide) rfl (Nat.le_of_ble_eq_true rfl) (Nat.le_of_ble_eq_true rfl)
    · have t26_2 := (l_eq ez25_1 c26_1)
      refine lv_aload_n hx hb dX1_narrowUnequal_29 rfl (lv_at hl 0 rfl) ?_
      refine lv_dup hx hb dX1_narrowUnequal_30 rfl ?_
      refine fp_get1 hx hb hn hown hK hP hfp hm_fa mw_319 dX1_narrowUnequal_31 (fun x31_1 => ?_)
      refine lv_lconst (v := 1) hx hb dX1_narrowUnequal_34 (by decide) ?_
      refine lv_ladd hx hb dX1_narrowUnequal_35 ?_
      refine lv_topl (fun z35_1 ez35_1 => ?_)
      refine fp_put1 hx hb hn hown hK hP hD hS hfp hm_fa mw_319 (x := z35_1) dX1_narrowUnequal_36 (fun g36_1 H locs hf36_2 hP hD hS => ?_)
      refine lv_goto (tgt := 61) hx hb dX1_narrowUnequal_39 (by decide) ?_
      refine lv_iconst (v := 1) hx hb dX1_narrowUnequal_61 (by decide) ?_
      exact endp_i hQ hx hb hr hlocks dX1_narrowUnequal_62 (by decide) g36_1 ⟨(rg_w (show rg (1 : Int32) 1 1 from rg_l (by decide)) (by decide)), hf36_2⟩ hP hD hS [] (by decide) rfl (Nat.le_of_ble_eq_true rfl) (Nat.le_of_ble_eq_true rfl)
  refine lv_if_ne (tgt := 20) hx hb dX1_narrowUnequal_6 (by decide) (fun c6_1 => ?_) (fun c6_1 => ?_)
  · have t6_2 := (l_ne ez5_1 c6_1)
    exact b20  H locs ls  (lv_sub hl [0, 1] rfl) hP hD hS
  · have t6_2 := (l_eq ez5_1 c6_1)
    refine lv_aload_n hx hb dX1_narrowUnequal_9 rfl (lv_at hl 0 rfl) ?_
    refine fp_get2 hx hb hn hown hK hP hfp hm_fa mw_321 dX1_narrowUnequal_10 (fun x10_1 => ?_)
    refine lv_lload_n hx hb dX1_narrowUnequal_13 rfl (lv_at hl 1 rfl) ?_
    refine W.lcmp hx hb dX1_narrowUnequal_14 ?_
    refine lv_topi (fun z14_1 ez14_1 => ?_)
    refine lv_if_ne (tgt := 20) hx hb dX1_narrowUnequal_15 (by decide) (fun c15_1 => ?_) (fun c15_1 => ?_)
    · have t15_2 := (l_ne ez14_1 c15_1)
      exact b20  H locs ls  (lv_sub hl [0, 1] rfl) hP hD hS
    · have t15_2 := (l_eq ez14_1 c15_1)
      refine lv_iconst (v := 0) hx hb dX1_narrowUnequal_18 (by decide) ?_
      exact endp_i hQ hx hb hr hlocks dX1_narrowUnequal_19 (by decide) g ⟨(rg_w (show rg (0 : Int32) 0 0 from rg_l (by decide)) (by decide)), hfp⟩ hP hD hS [] (by decide) rfl (Nat.le_of_ble_eq_true rfl) (Nat.le_of_ble_eq_true rfl)
set_option maxHeartbeats 2000000 in
theorem c_X1_narrow (l : Launch) (D : va_G) (ct : Nat → ClassId) (L : List Nat) (g : Nat → va_E) (fa : Nat) (v0 : Int32) (v1 : Int64) (hfp : FP L g) (hm_fa : fa ∈ L) : KI (S := (Nat → va_E)) l yX1_narrow cX1_narrow 5 (some .boolean) 3 66 D ct [.ref fa, .int v0, .long v1] ([] ++ va_pl L g) 0 0 (fun (r : Int32) (gp : (Nat → va_E)) => rg r 0 1 ∧ FP L gp) (fun (gp : (Nat → va_E)) => ([]) ++ va_pl L gp) := by
  refine KIq_of (by decide) (Nat.le_of_ble_eq_true rfl) (fun p e s m below meth c A Q C0 hA H locs hS hP hD hQ ls hl => ?_)
  obtain ⟨hx, hb, hr, hown, hin, hml, hlocks, hn, hK, hZ, hSK⟩ := C0
  have hl : lv_has ls 5 [(0, .ref fa), (1, .int v0), (2, .long v1)] := hl
  refine lv_iconst (v := 1) hx hb dX1_narrow_0 (by decide) ?_
  refine lv_istore (lv' := [(4, .int 1), (0, .ref fa), (1, .int v0), (2, .long v1)]) hx hb dX1_narrow_1 hl (by decide) rfl (fun ls hl => ?_)
  refine lv_iload_n hx hb dX1_narrow_3 rfl (lv_at hl 2 rfl) ?_
  have b208 : ∀ (j208_l4 : Int32) (j208_pool : Nat → va_E) (H : Heap) (locs : List Loc) (ls : Array Slot), (rg j208_l4 0 1) → (FP L j208_pool) → lv_has ls 5 [(0, .ref fa), (4, .int j208_l4)] → va_P D vwCl ([] ++ va_pl L j208_pool) H → va_D A ([] ++ va_pl L j208_pool) → va_S A s.heap H locs → W p l e ({ frames := 3, cells := 0, slots := 0, locals := 66 }) s m [.ref fa, .int v0, .long v1].toArray below meth c H locs 0 0 Q (F0 m 208 ls []) := by
    intro j208_l4 j208_pool H locs ls r208_1001 hf208_1002 hl hP hD hS
    refine lv_iload hx hb dX1_narrow_208 (lv_at hl 1 rfl) ?_
    refine lv_if_eq (tgt := 227) hx hb dX1_narrow_210 (by decide) (fun c210_1 => ?_) (fun c210_1 => ?_)
    · have t210_2 := (i_eq c210_1)
      have r210_3 : rg j208_l4 0 0 := rg_eqA t210_2 r208_1001 (show rg (0 : Int32) 0 0 from rg_l (by decide)) (by decide)
      refine lv_iconst (v := 0) hx hb dX1_narrow_227 (by decide) ?_
      exact endp_i hQ hx hb hr hlocks dX1_narrow_228 (by decide) j208_pool ⟨(rg_w (show rg (0 : Int32) 0 0 from rg_l (by decide)) (by decide)), hf208_1002⟩ hP hD hS [] (by decide) rfl (Nat.le_of_ble_eq_true rfl) (Nat.le_of_ble_eq_true rfl)
    · have t210_2 := (i_ne c210_1)
      have r210_3 : rg j208_l4 1 1 := rg_neAl t210_2 r208_1001 (show rg (0 : Int32) 0 0 from rg_l (by decide)) (by decide)
      refine lv_aload_n hx hb dX1_narrow_213 rfl (lv_at hl 0 rfl) ?_
      refine fp_get2 hx hb hn hown hK hP hf208_1002 hm_fa mw_321 dX1_narrow_214 (fun x214_1 => ?_)
      refine lv_aload_n hx hb dX1_narrow_217 rfl (lv_at hl 0 rfl) ?_
      refine fp_get1 hx hb hn hown hK hP hf208_1002 hm_fa mw_319 dX1_narrow_218 (fun x218_1 => ?_)
      refine gq_i (k1 := 0) (n1 := 0) (wr := []) [] [] (rn_SN (As := [.long x214_1, .long x218_1]) (rest := []) (c_X11_below l D ct x214_1 x218_1  _) (cn_of (n := 2) hn mw_1040 mw_1 mw_1095 mhX11_below ⟨(Nat.le_of_ble_eq_true rfl), (Nat.le_of_ble_eq_true rfl)⟩) hx hb hml hown hn hK hSK hZ hS mw_1039 rfl hl.1 (Nat.le_of_ble_eq_true rfl) dX1_narrow_221 ⟨(Nat.le_of_ble_eq_true rfl), (Nat.le_of_ble_eq_true rfl)⟩) hP hD hS hA rfl rfl (by decide) (by decide) (by decide) (Nat.le_of_ble_eq_true rfl) (Nat.le_of_ble_eq_true rfl) (fun r221_1 u221_2 H locs hp221_3 hP hD hS => ?_)
      have hp221_4 := hp221_3
      have hp221_4 : rg r221_1 0 1 := hp221_4
      have hP : va_P D vwCl ([] ++ va_pl L j208_pool) _ := hP
      have hD : va_D A ([] ++ va_pl L j208_pool) := hD
      refine lv_if_eq (tgt := 229) hx hb dX1_narrow_224 (by decide) (fun c224_1 => ?_) (fun c224_1 => ?_)
      · have t224_2 := (i_eq c224_1)
        have r224_3 : rg r221_1 0 0 := rg_eqA t224_2 hp221_4 (show rg (0 : Int32) 0 0 from rg_l (by decide)) (by decide)
        refine lv_aload_n hx hb dX1_narrow_229 rfl (lv_at hl 0 rfl) ?_
        obtain ⟨kj230_1, loj230_1, hij230_1, suj230_1, onj230_1, hej230_1⟩ := hf208_1002 fa hm_fa
        obtain ⟨j230_1, hj230_1⟩ := va_pl_get (X := []) (f := j208_pool) hm_fa
        rw [hej230_1] at hj230_1
        refine gp_v (k1 := 0) (n1 := 0) (wr := []) [] [] (rn_V (As := []) (rest := []) (c_X1_settle l D ct L j208_pool fa hf208_1002 hm_fa _) (cb_of (n := 0) hn mw_1100 mw_12 mw_1097 mhX1_settle ⟨(Nat.le_of_ble_eq_true rfl), (Nat.le_of_ble_eq_true rfl)⟩) hx hb hml hown hn hK hSK hZ hS mw_1099 mw_s113 (ci := 1) (q0 := j230_1) rfl rfl hj230_1 rfl hl.1 (Nat.le_of_ble_eq_true rfl) dX1_narrow_230 ⟨(Nat.le_of_ble_eq_true rfl), (Nat.le_of_ble_eq_true rfl)⟩) hP hD hS hA rfl rfl (by decide) (by decide) (by decide) (Nat.le_of_ble_eq_true rfl) (Nat.le_of_ble_eq_true rfl) (fun u230_3 H locs hp230_4 hP hD hS => ?_)
        have hp230_5 := hp230_4
        have hP : va_P D vwCl ([] ++ va_pl L u230_3) _ := hP
        have hD : va_D A ([] ++ va_pl L u230_3) := hD
        refine lv_iconst (v := 1) hx hb dX1_narrow_233 (by decide) ?_
        exact endp_i hQ hx hb hr hlocks dX1_narrow_234 (by decide) u230_3 ⟨(rg_w (show rg (1 : Int32) 1 1 from rg_l (by decide)) (by decide)), hp230_5⟩ hP hD hS [] (by decide) rfl (Nat.le_of_ble_eq_true rfl) (Nat.le_of_ble_eq_true rfl)
      · have t224_2 := (i_ne c224_1)
        have r224_3 : rg r221_1 1 1 := rg_neAl t224_2 hp221_4 (show rg (0 : Int32) 0 0 from rg_l (by decide)) (by decide)
        refine lv_iconst (v := 0) hx hb dX1_narrow_227 (by decide) ?_
        exact endp_i hQ hx hb hr hlocks dX1_narrow_228 (by decide) j208_pool ⟨(rg_w (show rg (0 : Int32) 0 0 from rg_l (by decide)) (by decide)), hf208_1002⟩ hP hD hS [] (by decide) rfl (Nat.le_of_ble_eq_true rfl) (Nat.le_of_ble_eq_true rfl)
  by_cases h4_101 : v0.toInt = 1
  · have r4_102 : rg v0 1 1 := rg_at h4_101
    refine lv_tableIn (off := 60) (tgt := 64) hx hb dX1_narrow_4 (by rw [h4_101]; decide) (by rw [h4_101]; decide) (by rw [h4_101]; rfl) (by decide) ?_
    refine lv_lload_n hx hb dX1_narrow_64 rfl (lv_at hl 3 rfl) ?_
    refine lv_aload_n hx hb dX1_narrow_65 rfl (lv_at hl 1 rfl) ?_
    refine fp_get1 hx hb hn hown hK hP hfp hm_fa mw_319 dX1_narrow_66 (fun x66_1 => ?_)
    refine gq_i (k1 := 0) (n1 := 0) (wr := []) [] [] (rn_SN (As := [.long v1, .long x66_1]) (rest := []) (c_X11_below l D ct v1 x66_1  _) (cn_of (n := 2) hn mw_1040 mw_1 mw_1095 mhX11_below ⟨(Nat.le_of_ble_eq_true rfl), (Nat.le_of_ble_eq_true rfl)⟩) hx hb hml hown hn hK hSK hZ hS mw_1039 rfl hl.1 (Nat.le_of_ble_eq_true rfl) dX1_narrow_69 ⟨(Nat.le_of_ble_eq_true rfl), (Nat.le_of_ble_eq_true rfl)⟩) hP hD hS hA rfl rfl (by decide) (by decide) (by decide) (Nat.le_of_ble_eq_true rfl) (Nat.le_of_ble_eq_true rfl) (fun r69_1 u69_2 H locs hp69_3 hP hD hS => ?_)
    have hp69_4 := hp69_3
    have hp69_4 : rg r69_1 0 1 := hp69_4
    have hP : va_P D vwCl ([] ++ va_pl L g) _ := hP
    have hD : va_D A ([] ++ va_pl L g) := hD
    have b91 : ∀ (j91_s0 : Int32) (H : Heap) (locs : List Loc) (ls : Array Slot), (rg j91_s0 0 1) → lv_has ls 5 [(0, .ref fa), (2, .long v1)] → va_P D vwCl ([] ++ va_pl L g) H → va_D A ([] ++ va_pl L g) → va_S A s.heap H locs → W p l e ({ frames := 3, cells := 0, slots := 0, locals := 66 }) s m [.ref fa, .int v0, .long v1].toArray below meth c H locs 0 0 Q (F0 m 91 ls [.int j91_s0]) := by
      intro j91_s0 H locs ls r91_1001 hl hP hD hS
      refine lv_istore (lv' := [(4, .int j91_s0), (0, .ref fa), (2, .long v1)]) hx hb dX1_narrow_91 hl (by decide) rfl (fun ls hl => ?_)
      refine lv_aload_n hx hb dX1_narrow_93 rfl (lv_at hl 1 rfl) ?_
      refine lv_lload_n hx hb dX1_narrow_94 rfl (lv_at hl 2 rfl) ?_
      refine fp_put1 hx hb hn hown hK hP hD hS hfp hm_fa mw_319 (x := v1) dX1_narrow_95 (fun g95_1 H locs hf95_2 hP hD hS => ?_)
      refine lv_aload_n hx hb dX1_narrow_98 rfl (lv_at hl 1 rfl) ?_
      refine lv_lload_n hx hb dX1_narrow_99 rfl (lv_at hl 2 rfl) ?_
      refine fp_put2 hx hb hn hown hK hP hD hS hf95_2 hm_fa mw_321 (x := v1) dX1_narrow_100 (fun g100_1 H locs hf100_2 hP hD hS => ?_)
      refine lv_goto (tgt := 208) hx hb dX1_narrow_103 (by decide) ?_
      exact b208 j91_s0 g100_1 H locs ls r91_1001 hf100_2 (lv_sub hl [1, 0] rfl) hP hD hS
    have b90 : ∀  (H : Heap) (locs : List Loc) (ls : Array Slot), lv_has ls 5 [(0, .ref fa), (2, .long v1)] → va_P D vwCl ([] ++ va_pl L g) H → va_D A ([] ++ va_pl L g) → va_S A s.heap H locs → W p l e ({ frames := 3, cells := 0, slots := 0, locals := 66 }) s m [.ref fa, .int v0, .long v1].toArray below meth c H locs 0 0 Q (F0 m 90 ls []) := by
      intro  H locs ls  hl hP hD hS
      refine lv_iconst (v := 0) hx hb dX1_narrow_90 (by decide) ?_
      exact b91 (0 : Int32) H locs ls (rg_w (show rg (0 : Int32) 0 0 from rg_l (by decide)) (by decide)) (lv_sub hl [0, 1] rfl) hP hD hS
    refine lv_if_ne (tgt := 90) hx hb dX1_narrow_72 (by decide) (fun c72_1 => ?_) (fun c72_1 => ?_)
    · have t72_2 := (i_ne c72_1)
      have r72_3 : rg r69_1 1 1 := rg_neAl t72_2 hp69_4 (show rg (0 : Int32) 0 0 from rg_l (by decide)) (by decide)
      exact b90  H locs ls  (lv_sub hl [1, 3] rfl) hP hD hS
    · have t72_2 := (i_eq c72_1)
      have r72_3 : rg r69_1 0 0 := rg_eqA t72_2 hp69_4 (show rg (0 : Int32) 0 0 from rg_l (by decide)) (by decide)
      refine lv_aload_n hx hb dX1_narrow_75 rfl (lv_at hl 1 rfl) ?_
      refine fp_get2 hx hb hn hown hK hP hfp hm_fa mw_321 dX1_narrow_76 (fun x76_1 => ?_)
      refine lv_lload_n hx hb dX1_narrow_79 rfl (lv_at hl 3 rfl) ?_
      refine gq_i (k1 := 0) (n1 := 0) (wr := []) [] [] (rn_SN (As := [.long x76_1, .long v1]) (rest := []) (c_X11_below l D ct x76_1 v1  _) (cn_of (n := 2) hn mw_1040 mw_1 mw_1095 mhX11_below ⟨(Nat.le_of_ble_eq_true rfl), (Nat.le_of_ble_eq_true rfl)⟩) hx hb hml hown hn hK hSK hZ hS mw_1039 rfl hl.1 (Nat.le_of_ble_eq_true rfl) dX1_narrow_80 ⟨(Nat.le_of_ble_eq_true rfl), (Nat.le_of_ble_eq_true rfl)⟩) hP hD hS hA rfl rfl (by decide) (by decide) (by decide) (Nat.le_of_ble_eq_true rfl) (Nat.le_of_ble_eq_true rfl) (fun r80_1 u80_2 H locs hp80_3 hP hD hS => ?_)
      have hp80_4 := hp80_3
      have hp80_4 : rg r80_1 0 1 := hp80_4
      have hP : va_P D vwCl ([] ++ va_pl L g) _ := hP
      have hD : va_D A ([] ++ va_pl L g) := hD
      refine lv_if_ne (tgt := 90) hx hb dX1_narrow_83 (by decide) (fun c83_1 => ?_) (fun c83_1 => ?_)
      · have t83_2 := (i_ne c83_1)
        have r83_3 : rg r80_1 1 1 := rg_neAl t83_2 hp80_4 (show rg (0 : Int32) 0 0 from rg_l (by decide)) (by decide)
        exact b90  H locs ls  (lv_sub hl [1, 3] rfl) hP hD hS
      · have t83_2 := (i_eq c83_1)
        have r83_3 : rg r80_1 0 0 := rg_eqA t83_2 hp80_4 (show rg (0 : Int32) 0 0 from rg_l (by decide)) (by decide)
        refine lv_iconst (v := 1) hx hb dX1_narrow_86 (by decide) ?_
        refine lv_goto (tgt := 91) hx hb dX1_narrow_87 (by decide) ?_
        exact b91 (1 : Int32) H locs ls (rg_w (show rg (1 : Int32) 1 1 from rg_l (by decide)) (by decide)) (lv_sub hl [1, 3] rfl) hP hD hS
  by_cases h4_111 : v0.toInt = 2
  · have r4_112 : rg v0 2 2 := rg_at h4_111
    refine lv_tableIn (off := 112) (tgt := 116) hx hb dX1_narrow_4 (by rw [h4_111]; decide) (by rw [h4_111]; decide) (by rw [h4_111]; rfl) (by decide) ?_
    refine lv_lload_n hx hb dX1_narrow_116 rfl (lv_at hl 3 rfl) ?_
    refine lv_ldc2 (v := (-1)) hx hb hown (hn.get mw_1025 rfl) dX1_narrow_117 ?_
    refine W.lcmp hx hb dX1_narrow_120 ?_
    refine lv_topi (fun z120_1 ez120_1 => ?_)
    have b129 : ∀ (j129_s0 : Int32) (H : Heap) (locs : List Loc) (ls : Array Slot), (rg j129_s0 0 1) → lv_has ls 5 [(0, .ref fa), (2, .long v1)] → va_P D vwCl ([] ++ va_pl L g) H → va_D A ([] ++ va_pl L g) → va_S A s.heap H locs → W p l e ({ frames := 3, cells := 0, slots := 0, locals := 66 }) s m [.ref fa, .int v0, .long v1].toArray below meth c H locs 0 0 Q (F0 m 129 ls [.int j129_s0]) := by
      intro j129_s0 H locs ls r129_1001 hl hP hD hS
      refine lv_istore (lv' := [(4, .int j129_s0), (0, .ref fa), (2, .long v1)]) hx hb dX1_narrow_129 hl (by decide) rfl (fun ls hl => ?_)
      refine lv_aload_n hx hb dX1_narrow_131 rfl (lv_at hl 1 rfl) ?_
      refine lv_aload_n hx hb dX1_narrow_132 rfl (lv_at hl 1 rfl) ?_
      refine fp_get1 hx hb hn hown hK hP hfp hm_fa mw_319 dX1_narrow_133 (fun x133_1 => ?_)
      refine lv_lload_n hx hb dX1_narrow_136 rfl (lv_at hl 2 rfl) ?_
      refine lv_lconst (v := 1) hx hb dX1_narrow_137 (by decide) ?_
      refine lv_ladd hx hb dX1_narrow_138 ?_
      refine lv_topl (fun z138_1 ez138_1 => ?_)
      refine gq_l (k1 := 0) (n1 := 0) (wr := []) [] [] (rn_SN (As := [.long x133_1, .long z138_1]) (rest := [.ref fa]) (c_X11_greater l D ct x133_1 z138_1  _) (cn_of (n := 2) hn mw_1044 mw_1 mw_1144 mhX11_greater ⟨(Nat.le_of_ble_eq_true rfl), (Nat.le_of_ble_eq_true rfl)⟩) hx hb hml hown hn hK hSK hZ hS mw_1043 rfl hl.1 (Nat.le_of_ble_eq_true rfl) dX1_narrow_139 ⟨(Nat.le_of_ble_eq_true rfl), (Nat.le_of_ble_eq_true rfl)⟩) hP hD hS hA rfl rfl (by decide) (by decide) (by decide) (Nat.le_of_ble_eq_true rfl) (Nat.le_of_ble_eq_true rfl) (fun r139_1 u139_2 H locs hp139_3 hP hD hS => ?_)
      have hP : va_P D vwCl ([] ++ va_pl L g) _ := hP
      have hD : va_D A ([] ++ va_pl L g) := hD
      refine fp_put1 hx hb hn hown hK hP hD hS hfp hm_fa mw_319 (x := r139_1) dX1_narrow_142 (fun g142_1 H locs hf142_2 hP hD hS => ?_)
      refine lv_goto (tgt := 208) hx hb dX1_narrow_145 (by decide) ?_
      exact b208 j129_s0 g142_1 H locs ls r129_1001 hf142_2 (lv_sub hl [1, 0] rfl) hP hD hS
    refine lv_if_eq (tgt := 128) hx hb dX1_narrow_121 (by decide) (fun c121_1 => ?_) (fun c121_1 => ?_)
    · have t121_2 := (l_eq ez120_1 c121_1)
      have r121_3 : rl v1 (-1) (-1) := rl_eqA t121_2 (rl_any v1) (show rl ((-1) : Int64) (-1) (-1) from rl_l (by decide)) (by decide)
      refine lv_iconst (v := 0) hx hb dX1_narrow_128 (by decide) ?_
      exact b129 (0 : Int32) H locs ls (rg_w (show rg (0 : Int32) 0 0 from rg_l (by decide)) (by decide)) (lv_sub hl [1, 3] rfl) hP hD hS
    · have t121_2 := (l_neq ez120_1 c121_1)
      refine lv_iconst (v := 1) hx hb dX1_narrow_124 (by decide) ?_
      refine lv_goto (tgt := 129) hx hb dX1_narrow_125 (by decide) ?_
      exact b129 (1 : Int32) H locs ls (rg_w (show rg (1 : Int32) 1 1 from rg_l (by decide)) (by decide)) (lv_sub hl [1, 3] rfl) hP hD hS
  by_cases h4_121 : v0.toInt = 3
  · have r4_122 : rg v0 3 3 := rg_at h4_121
    refine lv_tableIn (off := 144) (tgt := 148) hx hb dX1_narrow_4 (by rw [h4_121]; decide) (by rw [h4_121]; decide) (by rw [h4_121]; rfl) (by decide) ?_
    refine lv_aload_n hx hb dX1_narrow_148 rfl (lv_at hl 1 rfl) ?_
    refine lv_aload_n hx hb dX1_narrow_149 rfl (lv_at hl 1 rfl) ?_
    refine fp_get1 hx hb hn hown hK hP hfp hm_fa mw_319 dX1_narrow_150 (fun x150_1 => ?_)
    refine lv_lload_n hx hb dX1_narrow_153 rfl (lv_at hl 3 rfl) ?_
    refine gq_l (k1 := 0) (n1 := 0) (wr := []) [] [] (rn_SN (As := [.long x150_1, .long v1]) (rest := [.ref fa]) (c_X11_greater l D ct x150_1 v1  _) (cn_of (n := 2) hn mw_1044 mw_1 mw_1144 mhX11_greater ⟨(Nat.le_of_ble_eq_true rfl), (Nat.le_of_ble_eq_true rfl)⟩) hx hb hml hown hn hK hSK hZ hS mw_1043 rfl hl.1 (Nat.le_of_ble_eq_true rfl) dX1_narrow_154 ⟨(Nat.le_of_ble_eq_true rfl), (Nat.le_of_ble_eq_true rfl)⟩) hP hD hS hA rfl rfl (by decide) (by decide) (by decide) (Nat.le_of_ble_eq_true rfl) (Nat.le_of_ble_eq_true rfl) (fun r154_1 u154_2 H locs hp154_3 hP hD hS => ?_)
    have hP : va_P D vwCl ([] ++ va_pl L g) _ := hP
    have hD : va_D A ([] ++ va_pl L g) := hD
    refine fp_put1 hx hb hn hown hK hP hD hS hfp hm_fa mw_319 (x := r154_1) dX1_narrow_157 (fun g157_1 H locs hf157_2 hP hD hS => ?_)
    refine lv_goto (tgt := 208) hx hb dX1_narrow_160 (by decide) ?_
    exact b208 (1 : Int32) g157_1 H locs ls (rg_w (show rg (1 : Int32) 1 1 from rg_l (by decide)) (by decide)) hf157_2 (lv_sub hl [1, 0] rfl) hP hD hS
  by_cases h4_131 : v0.toInt = 4
  · have r4_132 : rg v0 4 4 := rg_at h4_131
    refine lv_tableIn (off := 204) (tgt := 208) hx hb dX1_narrow_4 (by rw [h4_131]; decide) (by rw [h4_131]; decide) (by rw [h4_131]; rfl) (by decide) ?_
    exact b208 (1 : Int32) g H locs ls (rg_w (show rg (1 : Int32) 1 1 from rg_l (by decide)) (by decide)) hfp (lv_sub hl [1, 0] rfl) hP hD hS
  by_cases h4_141 : v0.toInt = 5
  · have r4_142 : rg v0 5 5 := rg_at h4_141
    refine lv_tableIn (off := 102) (tgt := 106) hx hb dX1_narrow_4 (by rw [h4_141]; decide) (by rw [h4_141]; decide) (by rw [h4_141]; rfl) (by decide) ?_
    refine lv_aload_n hx hb dX1_narrow_106 rfl (lv_at hl 1 rfl) ?_
    refine lv_lload_n hx hb dX1_narrow_107 rfl (lv_at hl 3 rfl) ?_
    obtain ⟨kj108_1, loj108_1, hij108_1, suj108_1, onj108_1, hej108_1⟩ := hfp fa hm_fa
    obtain ⟨j108_1, hj108_1⟩ := va_pl_get (X := []) (f := g) hm_fa
    rw [hej108_1] at hj108_1
    refine gp_i (k1 := 0) (n1 := 0) (wr := []) [] [] (rn_V (As := [.long v1]) (rest := []) (c_X1_narrowUnequal l D ct L g fa v1 hfp hm_fa _) (cb_of (n := 1) hn mw_1178 mw_12 mw_1175 mhX1_narrowUnequal ⟨(Nat.le_of_ble_eq_true rfl), (Nat.le_of_ble_eq_true rfl)⟩) hx hb hml hown hn hK hSK hZ hS mw_1177 mw_s127 (ci := 1) (q0 := j108_1) rfl rfl hj108_1 rfl hl.1 (Nat.le_of_ble_eq_true rfl) dX1_narrow_108 ⟨(Nat.le_of_ble_eq_true rfl), (Nat.le_of_ble_eq_true rfl)⟩) hP hD hS hA rfl rfl (by decide) (by decide) (by decide) (Nat.le_of_ble_eq_true rfl) (Nat.le_of_ble_eq_true rfl) (fun r108_2 u108_3 H locs hp108_4 hP hD hS => ?_)
    obtain ⟨hp108_5, hp108_6⟩ := hp108_4
    have hp108_5 : rg r108_2 0 1 := hp108_5
    have hP : va_P D vwCl ([] ++ va_pl L u108_3) _ := hP
    have hD : va_D A ([] ++ va_pl L u108_3) := hD
    refine lv_istore (lv' := [(4, .int r108_2), (0, .ref fa), (1, .int v0), (2, .long v1)]) hx hb dX1_narrow_111 hl (by decide) rfl (fun ls hl => ?_)
    refine lv_goto (tgt := 208) hx hb dX1_narrow_113 (by decide) ?_
    exact b208 r108_2 u108_3 H locs ls hp108_5 hp108_6 (lv_sub hl [1, 0] rfl) hP hD hS
  by_cases h4_151 : v0.toInt = 6
  · have r4_152 : rg v0 6 6 := rg_at h4_151
    refine lv_tableIn (off := 204) (tgt := 208) hx hb dX1_narrow_4 (by rw [h4_151]; decide) (by rw [h4_151]; decide) (by rw [h4_151]; rfl) (by decide) ?_
    exact b208 (1 : Int32) g H locs ls (rg_w (show rg (1 : Int32) 1 1 from rg_l (by decide)) (by decide)) hfp (lv_sub hl [1, 0] rfl) hP hD hS
  by_cases h4_161 : v0.toInt = 7
  · have r4_162 : rg v0 7 7 := rg_at h4_161
    refine lv_tableIn (off := 204) (tgt := 208) hx hb dX1_narrow_4 (by rw [h4_161]; decide) (by rw [h4_161]; decide) (by rw [h4_161]; rfl) (by decide) ?_
    exact b208 (1 : Int32) g H locs ls (rg_w (show rg (1 : Int32) 1 1 from rg_l (by decide)) (by decide)) hfp (lv_sub hl [1, 0] rfl) hP hD hS
  by_cases h4_171 : v0.toInt = 8
  · have r4_172 : rg v0 8 8 := rg_at h4_171
    refine lv_tableIn (off := 204) (tgt := 208) hx hb dX1_narrow_4 (by rw [h4_171]; decide) (by rw [h4_171]; decide) (by rw [h4_171]; rfl) (by decide) ?_
    exact b208 (1 : Int32) g H locs ls (rg_w (show rg (1 : Int32) 1 1 from rg_l (by decide)) (by decide)) hfp (lv_sub hl [1, 0] rfl) hP hD hS
  by_cases h4_181 : v0.toInt = 9
  · have r4_182 : rg v0 9 9 := rg_at h4_181
    refine lv_tableIn (off := 204) (tgt := 208) hx hb dX1_narrow_4 (by rw [h4_181]; decide) (by rw [h4_181]; decide) (by rw [h4_181]; rfl) (by decide) ?_
    exact b208 (1 : Int32) g H locs ls (rg_w (show rg (1 : Int32) 1 1 from rg_l (by decide)) (by decide)) hfp (lv_sub hl [1, 0] rfl) hP hD hS
  by_cases h4_191 : v0.toInt = 10
  · have r4_192 : rg v0 10 10 := rg_at h4_191
    refine lv_tableIn (off := 159) (tgt := 163) hx hb dX1_narrow_4 (by rw [h4_191]; decide) (by rw [h4_191]; decide) (by rw [h4_191]; rfl) (by decide) ?_
    refine lv_lload_n hx hb dX1_narrow_163 rfl (lv_at hl 3 rfl) ?_
    refine lv_lconst (v := 0) hx hb dX1_narrow_164 (by decide) ?_
    refine W.lcmp hx hb dX1_narrow_165 ?_
    refine lv_topi (fun z165_1 ez165_1 => ?_)
    have b174 : ∀ (j174_s0 : Int32) (H : Heap) (locs : List Loc) (ls : Array Slot), (rg j174_s0 0 1) → lv_has ls 5 [(0, .ref fa), (2, .long v1)] → va_P D vwCl ([] ++ va_pl L g) H → va_D A ([] ++ va_pl L g) → va_S A s.heap H locs → W p l e ({ frames := 3, cells := 0, slots := 0, locals := 66 }) s m [.ref fa, .int v0, .long v1].toArray below meth c H locs 0 0 Q (F0 m 174 ls [.int j174_s0]) := by
      intro j174_s0 H locs ls r174_1001 hl hP hD hS
      refine lv_istore (lv' := [(4, .int j174_s0), (0, .ref fa), (2, .long v1)]) hx hb dX1_narrow_174 hl (by decide) rfl (fun ls hl => ?_)
      refine lv_aload_n hx hb dX1_narrow_176 rfl (lv_at hl 1 rfl) ?_
      refine lv_aload_n hx hb dX1_narrow_177 rfl (lv_at hl 1 rfl) ?_
      refine fp_get2 hx hb hn hown hK hP hfp hm_fa mw_321 dX1_narrow_178 (fun x178_1 => ?_)
      refine lv_lload_n hx hb dX1_narrow_181 rfl (lv_at hl 2 rfl) ?_
      refine lv_lconst (v := 1) hx hb dX1_narrow_182 (by decide) ?_
      refine lv_lsub hx hb dX1_narrow_183 ?_
      refine lv_topl (fun z183_1 ez183_1 => ?_)
      refine gq_l (k1 := 0) (n1 := 0) (wr := []) [] [] (rn_SN (As := [.long x178_1, .long z183_1]) (rest := [.ref fa]) (c_X11_lesser l D ct x178_1 z183_1  _) (cn_of (n := 2) hn mw_1037 mw_1 mw_1143 mhX11_lesser ⟨(Nat.le_of_ble_eq_true rfl), (Nat.le_of_ble_eq_true rfl)⟩) hx hb hml hown hn hK hSK hZ hS mw_1036 rfl hl.1 (Nat.le_of_ble_eq_true rfl) dX1_narrow_184 ⟨(Nat.le_of_ble_eq_true rfl), (Nat.le_of_ble_eq_true rfl)⟩) hP hD hS hA rfl rfl (by decide) (by decide) (by decide) (Nat.le_of_ble_eq_true rfl) (Nat.le_of_ble_eq_true rfl) (fun r184_1 u184_2 H locs hp184_3 hP hD hS => ?_)
      have hP : va_P D vwCl ([] ++ va_pl L g) _ := hP
      have hD : va_D A ([] ++ va_pl L g) := hD
      refine fp_put2 hx hb hn hown hK hP hD hS hfp hm_fa mw_321 (x := r184_1) dX1_narrow_187 (fun g187_1 H locs hf187_2 hP hD hS => ?_)
      refine lv_goto (tgt := 208) hx hb dX1_narrow_190 (by decide) ?_
      exact b208 j174_s0 g187_1 H locs ls r174_1001 hf187_2 (lv_sub hl [1, 0] rfl) hP hD hS
    refine lv_if_eq (tgt := 173) hx hb dX1_narrow_166 (by decide) (fun c166_1 => ?_) (fun c166_1 => ?_)
    · have t166_2 := (l_eq ez165_1 c166_1)
      have r166_3 : rl v1 0 0 := rl_eqA t166_2 (rl_any v1) (show rl (0 : Int64) 0 0 from rl_l (by decide)) (by decide)
      refine lv_iconst (v := 0) hx hb dX1_narrow_173 (by decide) ?_
      exact b174 (0 : Int32) H locs ls (rg_w (show rg (0 : Int32) 0 0 from rg_l (by decide)) (by decide)) (lv_sub hl [1, 3] rfl) hP hD hS
    · have t166_2 := (l_neq ez165_1 c166_1)
      refine lv_iconst (v := 1) hx hb dX1_narrow_169 (by decide) ?_
      refine lv_goto (tgt := 174) hx hb dX1_narrow_170 (by decide) ?_
      exact b174 (1 : Int32) H locs ls (rg_w (show rg (1 : Int32) 1 1 from rg_l (by decide)) (by decide)) (lv_sub hl [1, 3] rfl) hP hD hS
  by_cases h4_201 : v0.toInt = 11
  · have r4_202 : rg v0 11 11 := rg_at h4_201
    refine lv_tableIn (off := 189) (tgt := 193) hx hb dX1_narrow_4 (by rw [h4_201]; decide) (by rw [h4_201]; decide) (by rw [h4_201]; rfl) (by decide) ?_
    refine lv_aload_n hx hb dX1_narrow_193 rfl (lv_at hl 1 rfl) ?_
    refine lv_aload_n hx hb dX1_narrow_194 rfl (lv_at hl 1 rfl) ?_
    refine fp_get2 hx hb hn hown hK hP hfp hm_fa mw_321 dX1_narrow_195 (fun x195_1 => ?_)
    refine lv_lload_n hx hb dX1_narrow_198 rfl (lv_at hl 3 rfl) ?_
    refine gq_l (k1 := 0) (n1 := 0) (wr := []) [] [] (rn_SN (As := [.long x195_1, .long v1]) (rest := [.ref fa]) (c_X11_lesser l D ct x195_1 v1  _) (cn_of (n := 2) hn mw_1037 mw_1 mw_1143 mhX11_lesser ⟨(Nat.le_of_ble_eq_true rfl), (Nat.le_of_ble_eq_true rfl)⟩) hx hb hml hown hn hK hSK hZ hS mw_1036 rfl hl.1 (Nat.le_of_ble_eq_true rfl) dX1_narrow_199 ⟨(Nat.le_of_ble_eq_true rfl), (Nat.le_of_ble_eq_true rfl)⟩) hP hD hS hA rfl rfl (by decide) (by decide) (by decide) (Nat.le_of_ble_eq_true rfl) (Nat.le_of_ble_eq_true rfl) (fun r199_1 u199_2 H locs hp199_3 hP hD hS => ?_)
    have hP : va_P D vwCl ([] ++ va_pl L g) _ := hP
    have hD : va_D A ([] ++ va_pl L g) := hD
    refine fp_put2 hx hb hn hown hK hP hD hS hfp hm_fa mw_321 (x := r199_1) dX1_narrow_202 (fun g202_1 H locs hf202_2 hP hD hS => ?_)
    refine lv_goto (tgt := 208) hx hb dX1_narrow_205 (by decide) ?_
    exact b208 (1 : Int32) g202_1 H locs ls (rg_w (show rg (1 : Int32) 1 1 from rg_l (by decide)) (by decide)) hf202_2 (lv_sub hl [1, 0] rfl) hP hD hS
  refine lv_tableOut (tgt := 208) hx hb dX1_narrow_4 (by have q0 := (rg_any v0); have q1 := q0.1; have q2 := q0.2; omega) (by decide) ?_
  exact b208 (1 : Int32) g H locs ls (rg_w (show rg (1 : Int32) 1 1 from rg_l (by decide)) (by decide)) hfp (lv_sub hl [1, 0] rfl) hP hD hS
