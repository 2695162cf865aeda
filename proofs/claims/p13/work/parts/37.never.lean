set_option maxHeartbeats 2000000 in
theorem c_X16_readOrNever (l : Launch) (hst : l.stackTraces = false) (D : va_G) (ct : Nat → ClassId) (mm : Nat) (v0 : Int32) (v1 : Int64) (v2 : Int32) (fs_mm : List Value) (upb : Nat) (upl_ : Nat) (g_upl_ : Nat → Int32) (g_upb : Nat → Int32) (h_v0 : rg v0 0 15) (h_v1 : rl v1 0 4294967296) (h_v2 : rg v2 1 4) (hlen_mm : fs_mm.length = 78) (hf_mm_2 : fs_mm[2]? = some (.ref upb)) (hf_mm_3 : fs_mm[3]? = some (.ref upl_)) (h_g_upl_ : Rg g_upl_ 16 0 256) (h_g_upb : Rg g_upb 4096 0 255) : KT (V := Int64) (S := Unit) (SX := Unit) l yX16_readOrNever cX16_readOrNever 7 (some .long) 7 141 D ct [.ref mm, .int v0, .long v1, .int v2] [(mm, .inr (16, fs_mm)), (upl_, .inl (ct 1, 16, .inl g_upl_)), (upb, .inl (ct 1, 4096, .inl g_upb))] 1 6 (fun r : Int64 => some (.long r)) (fun (r : Int64) (_ : Unit) => rl r 0 9223372036854775807) (fun (_ : Unit) => [(mm, .inr (16, fs_mm)), (upl_, .inl (ct 1, 16, .inl g_upl_)), (upb, .inl (ct 1, 4096, .inl g_upb))] ++ []) (fun _ => 0) (fun _ => 0) 13 RX13 peN (fun (_ : Unit) => True) (fun (_ : Unit) => [(mm, .inr (16, fs_mm)), (upl_, .inl (ct 1, 16, .inl g_upl_)), (upb, .inl (ct 1, 4096, .inl g_upb))]) := by
  refine KT_of (by decide) (Nat.le_of_ble_eq_true rfl) (fun p e s m below meth c A Q C0 htab hA H locs hS hP hD hQ ls hl => ?_)
  obtain ⟨hx, hb, hr, hown, hin, hml, hlocks, hn, hK, hZ, hSK⟩ := C0
  have hl : lv_has ls 7 [(0, .ref mm), (1, .int v0), (2, .long v1), (4, .int v2)] := hl
  refine lv_aload_n hx hb dX16_readOrNever_0 rfl (lv_at hl 0 rfl) ?_
  refine lv_iload_n hx hb dX16_readOrNever_1 rfl (lv_at hl 1 rfl) ?_
  refine lv_lload_n hx hb dX16_readOrNever_2 rfl (lv_at hl 2 rfl) ?_
  refine lv_iload hx hb dX16_readOrNever_3 (lv_at hl 3 rfl) ?_
  refine go_l (k1 := 0) (n1 := 0) (wr := []) [0, 1, 2] [] (rn_V (As := [.int v0, .long v1, .int v2]) (rest := []) (c_X16_readAt l D ct mm v0 v1 v2 fs_mm upb upl_ g_upl_ g_upb h_v0 (rl_w h_v1 (by decide)) (rg_w h_v2 (by decide)) hlen_mm hf_mm_2 hf_mm_3 h_g_upl_ h_g_upb _) (cb_of (n := 3) hn mw_1834 mw_13 mw_1831 mhX16_readAt ⟨(Nat.le_of_ble_eq_true rfl), (Nat.le_of_ble_eq_true rfl)⟩) hx hb hml hown hn hK hSK hZ hS mw_1833 mw_s177 (ci := 16) (q0 := 0) rfl rfl rfl rfl hl.1 (Nat.le_of_ble_eq_true rfl) dX16_readOrNever_5 ⟨(Nat.le_of_ble_eq_true rfl), (Nat.le_of_ble_eq_true rfl)⟩) hP hD hS hA rfl rfl (by decide) (by decide) (by decide) (Nat.le_of_ble_eq_true rfl) (Nat.le_of_ble_eq_true rfl) (fun r5_1 u5_2 H locs hp5_3 hP hD hS => ?_)
  have hP : va_P D vwCl [(mm, .inr (16, fs_mm)), (upl_, .inl (ct 1, 16, .inl g_upl_)), (upb, .inl (ct 1, 4096, .inl g_upb))] _ := hP
  have hD : va_D A [(mm, .inr (16, fs_mm)), (upl_, .inl (ct 1, 16, .inl g_upl_)), (upb, .inl (ct 1, 4096, .inl g_upb))] := hD
  refine lv_lstore (lv' := [(5, .long r5_1), (0, .ref mm), (1, .int v0), (2, .long v1), (4, .int v2)]) hx hb dX16_readOrNever_8 hl (by decide) rfl (fun ls hl => ?_)
  refine lv_lload hx hb dX16_readOrNever_10 (lv_at hl 0 rfl) ?_
  refine lv_lconst (v := 0) hx hb dX16_readOrNever_12 (by decide) ?_
  refine W.lcmp hx hb dX16_readOrNever_13 ?_
  refine lv_topi (fun z13_1 ez13_1 => ?_)
  refine lv_if_ge (tgt := 25) hx hb dX16_readOrNever_14 (by decide) (fun c14_1 => ?_) (fun c14_1 => ?_)
  · have t14_2 := FF.mk (l_ge ez13_1 c14_1)
    have r14_3 : rl r5_1 0 9223372036854775807 := rl_leB t14_2 (show rl (0 : Int64) 0 0 from rl_l (by decide)) (rl_any r5_1) (by decide)
    refine lv_lload hx hb dX16_readOrNever_25 (lv_at hl 0 rfl) ?_
    exact et_l (SX := Unit) (pl1 := fun _ => []) hQ hx hb hr hlocks dX16_readOrNever_27 () r14_3 (by rw [List.append_nil]; exact hP) (by rw [List.append_nil]; exact hD) hS [0, 1, 2] (by decide) rfl (Nat.le_of_ble_eq_true rfl) (Nat.le_of_ble_eq_true rfl) (Nat.le_of_ble_eq_true rfl) (Nat.le_of_ble_eq_true rfl)
  · have t14_2 := FF.mk (l_nge ez13_1 c14_1)
    have r14_3 : rl r5_1 (-9223372036854775808) (-1) := rl_ltA t14_2 (rl_any r5_1) (show rl (0 : Int64) 0 0 from rl_l (by decide)) (by decide)
    refine nw_N (k1 := 1) (n1 := 6) hx hb hn hown mw_1807 mw_1835 mw_27 hK hP hD hS hA (Nat.le_of_ble_eq_true rfl) (Nat.le_of_ble_eq_true rfl) (Nat.le_of_ble_eq_true rfl) (Nat.le_of_ble_eq_true rfl) dX16_readOrNever_17 (fun q17_1 H hfr hP hD hS => ?_)
    have hP : va_P D vwCl [(mm, .inr (16, fs_mm)), (upl_, .inl (ct 1, 16, .inl g_upl_)), (upb, .inl (ct 1, 4096, .inl g_upb)), (q17_1, .inr (13, fs0N))] _ := hP
    have hD : va_D A [(mm, .inr (16, fs_mm)), (upl_, .inl (ct 1, 16, .inl g_upl_)), (upb, .inl (ct 1, 4096, .inl g_upb)), (q17_1, .inr (13, fs0N))] := hD
    refine lv_dup hx hb dX16_readOrNever_20 rfl ?_
    refine go_v (wc := [(q17_1, .inr (13, fs0N))]) (k1 := 1) (n1 := 6) (wr := [(mm, .inr (16, fs_mm)), (upl_, .inl (ct 1, 16, .inl g_upl_)), (upb, .inl (ct 1, 4096, .inl g_upb))]) [3] [0, 1, 2] (fun hPc hDc hFc => va_runIN (As := []) (rest := [.ref q17_1]) (fix0 hx hb hml hown) (c_X13_init l hst D ct q17_1 _) ⟨cn_of (n := 0) hn mw_1876 mw_27 mw_1874 mhX13_init ⟨(Nat.le_of_ble_eq_true rfl), (Nat.le_of_ble_eq_true rfl)⟩, rfl, hn.get mw_1875 rfl⟩ ⟨blindNN, preNN_of hPc hK hDc hn hSK hZ hS hFc hfr⟩ rfl rfl hl.1 rfl (lv_room (Nat.le_of_ble_eq_true rfl)) dX16_readOrNever_21 ⟨(Nat.le_of_ble_eq_true rfl), (Nat.le_of_ble_eq_true rfl)⟩) hP hD hS hA rfl rfl (by decide) (by decide) (by decide) (Nat.le_of_ble_eq_true rfl) (Nat.le_of_ble_eq_true rfl) (fun fs21_1 H locs hp21_2 hP hD hS => ?_)
    have hP : va_P D vwCl [(mm, .inr (16, fs_mm)), (upl_, .inl (ct 1, 16, .inl g_upl_)), (upb, .inl (ct 1, 4096, .inl g_upb)), (q17_1, .inr (13, fs21_1))] _ := hP
    have hD : va_D A [(mm, .inr (16, fs_mm)), (upl_, .inl (ct 1, 16, .inl g_upl_)), (upb, .inl (ct 1, 4096, .inl g_upb)), (q17_1, .inr (13, fs21_1))] := hD
    have hpefs21_1 : peN fs21_1 := hp21_2
    refine vx_athrow hx hb dX16_readOrNever_24 ?_
    exact xo hQ htab hlocks hK rfl hP hD hS () (fs := fs21_1) trivial hpefs21_1 [0, 1, 2, 3] (by decide) rfl (kq := 3) rfl (Nat.le_of_ble_eq_true rfl) (Nat.le_of_ble_eq_true rfl)
set_option maxHeartbeats 2000000 in
theorem c_X16_headerOf (l : Launch) (hst : l.stackTraces = false) (D : va_G) (ct : Nat → ClassId) (mm : Nat) (v0 : Int32) (fs_mm : List Value) (upb : Nat) (upl_ : Nat) (g_upl_ : Nat → Int32) (g_upb : Nat → Int32) (h_v0 : rg v0 0 15) (hlen_mm : fs_mm.length = 78) (hf_mm_2 : fs_mm[2]? = some (.ref upb)) (hf_mm_3 : fs_mm[3]? = some (.ref upl_)) (h_g_upl_ : Rg g_upl_ 16 0 256) (h_g_upb : Rg g_upb 4096 0 255) : KT (V := Int64) (S := Unit) (SX := Unit) l yX16_headerOf cX16_headerOf 2 (some .long) 8 167 D ct [.ref mm, .int v0] [(mm, .inr (16, fs_mm)), (upl_, .inl (ct 1, 16, .inl g_upl_)), (upb, .inl (ct 1, 4096, .inl g_upb))] 1 6 (fun r : Int64 => some (.long r)) (fun (r : Int64) (_ : Unit) => rl r 0 60 ∧ (0 ≤ r.toInt ∧ r.toInt ≤ 60)) (fun (_ : Unit) => [(mm, .inr (16, fs_mm)), (upl_, .inl (ct 1, 16, .inl g_upl_)), (upb, .inl (ct 1, 4096, .inl g_upb))] ++ []) (fun _ => 0) (fun _ => 0) 13 RX13 peN (fun (_ : Unit) => True) (fun (_ : Unit) => [(mm, .inr (16, fs_mm)), (upl_, .inl (ct 1, 16, .inl g_upl_)), (upb, .inl (ct 1, 4096, .inl g_upb))]) := by
  refine KT_of (by decide) (Nat.le_of_ble_eq_true rfl) (fun p e s m below meth c A Q C0 htab hA H locs hS hP hD hQ ls hl => ?_)
  obtain ⟨hx, hb, hr, hown, hin, hml, hlocks, hn, hK, hZ, hSK⟩ := C0
  have hl : lv_has ls 2 [(0, .ref mm), (1, .int v0)] := hl
  refine lv_ldc2 (v := 4) hx hb hown (hn.get mw_1825 rfl) dX16_headerOf_0 ?_
  refine lv_aload_n hx hb dX16_headerOf_3 rfl (lv_at hl 0 rfl) ?_
  refine lv_iload_n hx hb dX16_headerOf_4 rfl (lv_at hl 1 rfl) ?_
  refine lv_ldc2 (v := 14) hx hb hown (hn.get mw_1826 rfl) dX16_headerOf_5 ?_
  refine lv_iconst (v := 1) hx hb dX16_headerOf_8 (by decide) ?_
  refine gt_q (pl := []) (wr := []) [0, 1, 2] [] (rt_V (As := [.int v0, .long 14, .int 1]) (rest := [.long 4]) (c_X16_readOrNever l hst D ct mm v0 (14 : Int64) (1 : Int32) fs_mm upb upl_ g_upl_ g_upb h_v0 (rl_w (show rl (14 : Int64) 14 14 from rl_l (by decide)) (by decide)) (rg_w (show rg (1 : Int32) 1 1 from rg_l (by decide)) (by decide)) hlen_mm hf_mm_2 hf_mm_3 h_g_upl_ h_g_upb _) (cb_of (n := 3) hn mw_1830 mw_13 mw_1827 mhX16_readOrNever ⟨(Nat.le_of_ble_eq_true rfl), (Nat.le_of_ble_eq_true rfl)⟩) hx hb hml hown hn hK hSK hZ hS mw_1829 mw_s176 (ci := 16) (q0 := 0) rfl rfl rfl rfl hl.1 (Nat.le_of_ble_eq_true rfl) dX16_headerOf_9 ⟨(Nat.le_of_ble_eq_true rfl), (Nat.le_of_ble_eq_true rfl)⟩) (by rw [List.append_nil]; exact hP) (by rw [List.append_nil]; exact hD) hS hA rfl rfl (by decide) (by decide) (by decide) (fun xq9_4 ux9_5 xfs9_6 H locs hpx9_7 hpexfs9_6 hP hD hS => ?_) (fun r9_1 u9_2 H locs hp9_3 hP hD hS => ?_)
  · have hP : va_P D vwCl [(mm, .inr (16, fs_mm)), (upl_, .inl (ct 1, 16, .inl g_upl_)), (upb, .inl (ct 1, 4096, .inl g_upb)), (xq9_4, .inr (13, xfs9_6))] _ := hP
    have hD : va_D A [(mm, .inr (16, fs_mm)), (upl_, .inl (ct 1, 16, .inl g_upl_)), (upb, .inl (ct 1, 4096, .inl g_upb)), (xq9_4, .inr (13, xfs9_6))] := hD
    refine vx_widen (k := 1) (n := 6) (Nat.le_of_ble_eq_true rfl) (Nat.le_of_ble_eq_true rfl) ?_
    exact xo hQ htab hlocks hK rfl hP hD hS () (fs := xfs9_6) trivial hpexfs9_6 [0, 1, 2, 3] (by decide) rfl (kq := 3) rfl (Nat.le_of_ble_eq_true rfl) (Nat.le_of_ble_eq_true rfl)
  have hp9_308 := hp9_3
  have hp9_308 : rl r9_1 0 9223372036854775807 := hp9_308
  rw [List.append_nil] at hP hD
  have hP : va_P D vwCl [(mm, .inr (16, fs_mm)), (upl_, .inl (ct 1, 16, .inl g_upl_)), (upb, .inl (ct 1, 4096, .inl g_upb))] _ := hP
  have hD : va_D A [(mm, .inr (16, fs_mm)), (upl_, .inl (ct 1, 16, .inl g_upl_)), (upb, .inl (ct 1, 4096, .inl g_upb))] := hD
  refine W.widen (k := 0) (n := 0) (Nat.le_of_ble_eq_true rfl) (Nat.le_of_ble_eq_true rfl) (W.eq (g2 := F0 m 12 ls [.long r9_1, .long 4]) rfl ?_)
  refine lv_ldc2 (v := 15) hx hb hown (hn.get mw_1896 rfl) dX16_headerOf_12 ?_
  refine lv_land hx hb dX16_headerOf_15 ?_
  refine lv_topl (fun z15_1 ez15_1 => ?_)
  have r15_2 : rl z15_1 0 15 := rgL_andr ez15_1 (show rl (15 : Int64) 15 15 from rl_l (by decide)) (by decide)
  refine lv_lmul hx hb dX16_headerOf_16 ?_
  refine lv_topl (fun z16_1 ez16_1 => ?_)
  have r16_2 : rl z16_1 0 60 := rgL_mul ez16_1 (show rl (4 : Int64) 4 4 from rl_l (by decide)) r15_2 (by decide)
  exact et_l (SX := Unit) (pl1 := fun _ => []) hQ hx hb hr hlocks dX16_headerOf_17 () ⟨r16_2, (show 0 ≤ z16_1.toInt ∧ z16_1.toInt ≤ 60 by have q0 := r16_2.1; have q1 := r16_2.2; omega)⟩ (by rw [List.append_nil]; exact hP) (by rw [List.append_nil]; exact hD) hS [0, 1, 2] (by decide) rfl (Nat.le_of_ble_eq_true rfl) (Nat.le_of_ble_eq_true rfl) (Nat.le_of_ble_eq_true rfl) (Nat.le_of_ble_eq_true rfl)
set_option maxHeartbeats 2000000 in
theorem c_X16_joined (l : Launch) (hst : l.stackTraces = false) (D : va_G) (ct : Nat → ClassId) (v0 : Int32) (v1 : Int64) (v2 : Int64)  : KT (V := Int64) (S := Unit) (SX := Unit) l yX16_joined cX16_joined 5 (some .long) 7 141 D ct [.int v0, .long v1, .long v2] [] 1 6 (fun r : Int64 => some (.long r)) (fun (r : Int64) (_ : Unit) => True) (fun (_ : Unit) => [] ++ []) (fun _ => 0) (fun _ => 0) 13 RX13 peN (fun (_ : Unit) => True) (fun (_ : Unit) => []) := by
  refine KT_of (by decide) (Nat.le_of_ble_eq_true rfl) (fun p e s m below meth c A Q C0 htab hA H locs hS hP hD hQ ls hl => ?_)
  obtain ⟨hx, hb, hr, hown, hin, hml, hlocks, hn, hK, hZ, hSK⟩ := C0
  have hl : lv_has ls 5 [(0, .int v0), (1, .long v1), (3, .long v2)] := hl
  refine lv_iload_n hx hb dX16_joined_0 rfl (lv_at hl 0 rfl) ?_
  by_cases h1_101 : v0.toInt = 0
  · have r1_102 : rg v0 0 0 := rg_at h1_101
    refine lv_tableIn (off := 59) (tgt := 60) hx hb dX16_joined_1 (by rw [h1_101]; decide) (by rw [h1_101]; decide) (by rw [h1_101]; rfl) (by decide) ?_
    refine lv_lload_n hx hb dX16_joined_60 rfl (lv_at hl 1 rfl) ?_
    refine lv_lload_n hx hb dX16_joined_61 rfl (lv_at hl 2 rfl) ?_
    refine lv_ladd hx hb dX16_joined_62 ?_
    refine lv_topl (fun z62_1 ez62_1 => ?_)
    refine lv_ldc2 (v := 4294967295) hx hb hown (hn.get mw_1820 rfl) dX16_joined_63 ?_
    refine lv_land hx hb dX16_joined_66 ?_
    refine lv_topl (fun z66_1 ez66_1 => ?_)
    have r66_2 : rl z66_1 0 4294967295 := rgL_andr ez66_1 (show rl (4294967295 : Int64) 4294967295 4294967295 from rl_l (by decide)) (by decide)
    exact et_l (SX := Unit) (pl1 := fun _ => []) hQ hx hb hr hlocks dX16_joined_67 () trivial (by rw [List.append_nil]; exact hP) (by rw [List.append_nil]; exact hD) hS [] (by decide) rfl (Nat.le_of_ble_eq_true rfl) (Nat.le_of_ble_eq_true rfl) (Nat.le_of_ble_eq_true rfl) (Nat.le_of_ble_eq_true rfl)
  by_cases h1_111 : v0.toInt = 1
  · have r1_112 : rg v0 1 1 := rg_at h1_111
    refine lv_tableIn (off := 67) (tgt := 68) hx hb dX16_joined_1 (by rw [h1_111]; decide) (by rw [h1_111]; decide) (by rw [h1_111]; rfl) (by decide) ?_
    refine lv_lload_n hx hb dX16_joined_68 rfl (lv_at hl 1 rfl) ?_
    refine lv_lload_n hx hb dX16_joined_69 rfl (lv_at hl 2 rfl) ?_
    refine lv_lsub hx hb dX16_joined_70 ?_
    refine lv_topl (fun z70_1 ez70_1 => ?_)
    refine lv_ldc2 (v := 4294967295) hx hb hown (hn.get mw_1820 rfl) dX16_joined_71 ?_
    refine lv_land hx hb dX16_joined_74 ?_
    refine lv_topl (fun z74_1 ez74_1 => ?_)
    have r74_2 : rl z74_1 0 4294967295 := rgL_andr ez74_1 (show rl (4294967295 : Int64) 4294967295 4294967295 from rl_l (by decide)) (by decide)
    exact et_l (SX := Unit) (pl1 := fun _ => []) hQ hx hb hr hlocks dX16_joined_75 () trivial (by rw [List.append_nil]; exact hP) (by rw [List.append_nil]; exact hD) hS [] (by decide) rfl (Nat.le_of_ble_eq_true rfl) (Nat.le_of_ble_eq_true rfl) (Nat.le_of_ble_eq_true rfl) (Nat.le_of_ble_eq_true rfl)
  by_cases h1_121 : v0.toInt = 2
  · have r1_122 : rg v0 2 2 := rg_at h1_121
    refine lv_tableIn (off := 75) (tgt := 76) hx hb dX16_joined_1 (by rw [h1_121]; decide) (by rw [h1_121]; decide) (by rw [h1_121]; rfl) (by decide) ?_
    refine lv_lload_n hx hb dX16_joined_76 rfl (lv_at hl 1 rfl) ?_
    refine lv_lload_n hx hb dX16_joined_77 rfl (lv_at hl 2 rfl) ?_
    refine lv_lmul hx hb dX16_joined_78 ?_
    refine lv_topl (fun z78_1 ez78_1 => ?_)
    refine lv_ldc2 (v := 4294967295) hx hb hown (hn.get mw_1820 rfl) dX16_joined_79 ?_
    refine lv_land hx hb dX16_joined_82 ?_
    refine lv_topl (fun z82_1 ez82_1 => ?_)
    have r82_2 : rl z82_1 0 4294967295 := rgL_andr ez82_1 (show rl (4294967295 : Int64) 4294967295 4294967295 from rl_l (by decide)) (by decide)
    exact et_l (SX := Unit) (pl1 := fun _ => []) hQ hx hb hr hlocks dX16_joined_83 () trivial (by rw [List.append_nil]; exact hP) (by rw [List.append_nil]; exact hD) hS [] (by decide) rfl (Nat.le_of_ble_eq_true rfl) (Nat.le_of_ble_eq_true rfl) (Nat.le_of_ble_eq_true rfl) (Nat.le_of_ble_eq_true rfl)
  by_cases h1_131 : v0.toInt = 3
  · have r1_132 : rg v0 3 3 := rg_at h1_131
    refine lv_tableIn (off := 117) (tgt := 118) hx hb dX16_joined_1 (by rw [h1_131]; decide) (by rw [h1_131]; decide) (by rw [h1_131]; rfl) (by decide) ?_
    refine lv_lload_n hx hb dX16_joined_118 rfl (lv_at hl 2 rfl) ?_
    refine lv_lconst (v := 0) hx hb dX16_joined_119 (by decide) ?_
    refine W.lcmp hx hb dX16_joined_120 ?_
    refine lv_topi (fun z120_1 ez120_1 => ?_)
    refine lv_if_ne (tgt := 132) hx hb dX16_joined_121 (by decide) (fun c121_1 => ?_) (fun c121_1 => ?_)
    · have t121_2 := FF.mk (l_ne ez120_1 c121_1)
      refine lv_iload_n hx hb dX16_joined_132 rfl (lv_at hl 0 rfl) ?_
      refine lv_iconst (v := 3) hx hb dX16_joined_133 (by decide) ?_
      refine lv_icmp_ne (tgt := 143) hx hb dX16_joined_134 (by decide) (fun c134_1 => ?_) (fun c134_1 => ?_)
      · exact absurd (i_ne c134_1) (rg_neX r1_132 (show rg (3 : Int32) 3 3 from rg_l (by decide)) (by decide))
      · have t134_2 := FF.mk (i_eq c134_1)
        refine lv_lload_n hx hb dX16_joined_137 rfl (lv_at hl 1 rfl) ?_
        refine lv_lload_n hx hb dX16_joined_138 rfl (lv_at hl 2 rfl) ?_
        refine lv_ldiv hx hb dX16_joined_139 (rl_nz (show v2.toInt ≠ 0 by have q0 := FF.out t121_2; have q1 := (show (0 : Int64).toInt = 0 from by decide); omega)) ?_
        refine lv_topl (fun z139_1 ez139_1 => ?_)
        refine lv_goto (tgt := 146) hx hb dX16_joined_140 (by decide) ?_
        exact et_l (SX := Unit) (pl1 := fun _ => []) hQ hx hb hr hlocks dX16_joined_146 () trivial (by rw [List.append_nil]; exact hP) (by rw [List.append_nil]; exact hD) hS [] (by decide) rfl (Nat.le_of_ble_eq_true rfl) (Nat.le_of_ble_eq_true rfl) (Nat.le_of_ble_eq_true rfl) (Nat.le_of_ble_eq_true rfl)
    · have t121_2 := FF.mk (l_eq ez120_1 c121_1)
      have r121_3 : rl v2 0 0 := rl_eqA t121_2 (rl_any v2) (show rl (0 : Int64) 0 0 from rl_l (by decide)) (by decide)
      refine nw_N (k1 := 1) (n1 := 6) hx hb hn hown mw_1807 mw_1835 mw_27 hK hP hD hS hA (Nat.le_of_ble_eq_true rfl) (Nat.le_of_ble_eq_true rfl) (Nat.le_of_ble_eq_true rfl) (Nat.le_of_ble_eq_true rfl) dX16_joined_124 (fun q124_1 H hfr hP hD hS => ?_)
      have hP : va_P D vwCl [(q124_1, .inr (13, fs0N))] _ := hP
      have hD : va_D A [(q124_1, .inr (13, fs0N))] := hD
      refine lv_dup hx hb dX16_joined_127 rfl ?_
      refine go_v (wc := [(q124_1, .inr (13, fs0N))]) (k1 := 1) (n1 := 6) (wr := []) [0] [] (fun hPc hDc hFc => va_runIN (As := []) (rest := [.ref q124_1]) (fix0 hx hb hml hown) (c_X13_init l hst D ct q124_1 _) ⟨cn_of (n := 0) hn mw_1876 mw_27 mw_1874 mhX13_init ⟨(Nat.le_of_ble_eq_true rfl), (Nat.le_of_ble_eq_true rfl)⟩, rfl, hn.get mw_1875 rfl⟩ ⟨blindNN, preNN_of hPc hK hDc hn hSK hZ hS hFc hfr⟩ rfl rfl hl.1 rfl (lv_room (Nat.le_of_ble_eq_true rfl)) dX16_joined_128 ⟨(Nat.le_of_ble_eq_true rfl), (Nat.le_of_ble_eq_true rfl)⟩) hP hD hS hA rfl rfl (by decide) (by decide) (by decide) (Nat.le_of_ble_eq_true rfl) (Nat.le_of_ble_eq_true rfl) (fun fs128_1 H locs hp128_2 hP hD hS => ?_)
      have hP : va_P D vwCl [(q124_1, .inr (13, fs128_1))] _ := hP
      have hD : va_D A [(q124_1, .inr (13, fs128_1))] := hD
      have hpefs128_1 : peN fs128_1 := hp128_2
      refine vx_athrow hx hb dX16_joined_131 ?_
      exact xo hQ htab hlocks hK rfl hP hD hS () (fs := fs128_1) trivial hpefs128_1 [0] (by decide) rfl (kq := 0) rfl (Nat.le_of_ble_eq_true rfl) (Nat.le_of_ble_eq_true rfl)
  by_cases h1_141 : v0.toInt = 4
  · have r1_142 : rg v0 4 4 := rg_at h1_141
    refine lv_tableIn (off := 83) (tgt := 84) hx hb dX16_joined_1 (by rw [h1_141]; decide) (by rw [h1_141]; decide) (by rw [h1_141]; rfl) (by decide) ?_
    refine lv_lload_n hx hb dX16_joined_84 rfl (lv_at hl 1 rfl) ?_
    refine lv_lload_n hx hb dX16_joined_85 rfl (lv_at hl 2 rfl) ?_
    refine lv_lor hx hb dX16_joined_86 ?_
    refine lv_topl (fun z86_1 ez86_1 => ?_)
    exact et_l (SX := Unit) (pl1 := fun _ => []) hQ hx hb hr hlocks dX16_joined_87 () trivial (by rw [List.append_nil]; exact hP) (by rw [List.append_nil]; exact hD) hS [] (by decide) rfl (Nat.le_of_ble_eq_true rfl) (Nat.le_of_ble_eq_true rfl) (Nat.le_of_ble_eq_true rfl) (Nat.le_of_ble_eq_true rfl)
  by_cases h1_151 : v0.toInt = 5
  · have r1_152 : rg v0 5 5 := rg_at h1_151
    refine lv_tableIn (off := 87) (tgt := 88) hx hb dX16_joined_1 (by rw [h1_151]; decide) (by rw [h1_151]; decide) (by rw [h1_151]; rfl) (by decide) ?_
    refine lv_lload_n hx hb dX16_joined_88 rfl (lv_at hl 1 rfl) ?_
    refine lv_lload_n hx hb dX16_joined_89 rfl (lv_at hl 2 rfl) ?_
    refine lv_land hx hb dX16_joined_90 ?_
    refine lv_topl (fun z90_1 ez90_1 => ?_)
    exact et_l (SX := Unit) (pl1 := fun _ => []) hQ hx hb hr hlocks dX16_joined_91 () trivial (by rw [List.append_nil]; exact hP) (by rw [List.append_nil]; exact hD) hS [] (by decide) rfl (Nat.le_of_ble_eq_true rfl) (Nat.le_of_ble_eq_true rfl) (Nat.le_of_ble_eq_true rfl) (Nat.le_of_ble_eq_true rfl)
  by_cases h1_161 : v0.toInt = 6
  · have r1_162 : rg v0 6 6 := rg_at h1_161
    refine lv_tableIn (off := 91) (tgt := 92) hx hb dX16_joined_1 (by rw [h1_161]; decide) (by rw [h1_161]; decide) (by rw [h1_161]; rfl) (by decide) ?_
    refine lv_lload_n hx hb dX16_joined_92 rfl (lv_at hl 1 rfl) ?_
    refine lv_lload_n hx hb dX16_joined_93 rfl (lv_at hl 2 rfl) ?_
    refine lv_ldc2 (v := 31) hx hb hown (hn.get mw_1900 rfl) dX16_joined_94 ?_
    refine lv_land hx hb dX16_joined_97 ?_
    refine lv_topl (fun z97_1 ez97_1 => ?_)
    have r97_2 : rl z97_1 0 31 := rgL_andr ez97_1 (show rl (31 : Int64) 31 31 from rl_l (by decide)) (by decide)
    refine lv_l2i hx hb dX16_joined_98 rfl ?_
    refine lv_topi (fun z98_1 ez98_1 => ?_)
    have r98_2 : rg z98_1 0 31 := rg_l2i ez98_1 r97_2 (by decide)
    refine lv_lshl hx hb dX16_joined_99 rfl ?_
    refine lv_topl (fun z99_1 ez99_1 => ?_)
    refine lv_ldc2 (v := 4294967295) hx hb hown (hn.get mw_1820 rfl) dX16_joined_100 ?_
    refine lv_land hx hb dX16_joined_103 ?_
    refine lv_topl (fun z103_1 ez103_1 => ?_)
    have r103_2 : rl z103_1 0 4294967295 := rgL_andr ez103_1 (show rl (4294967295 : Int64) 4294967295 4294967295 from rl_l (by decide)) (by decide)
    exact et_l (SX := Unit) (pl1 := fun _ => []) hQ hx hb hr hlocks dX16_joined_104 () trivial (by rw [List.append_nil]; exact hP) (by rw [List.append_nil]; exact hD) hS [] (by decide) rfl (Nat.le_of_ble_eq_true rfl) (Nat.le_of_ble_eq_true rfl) (Nat.le_of_ble_eq_true rfl) (Nat.le_of_ble_eq_true rfl)
  by_cases h1_171 : v0.toInt = 7
  · have r1_172 : rg v0 7 7 := rg_at h1_171
    refine lv_tableIn (off := 104) (tgt := 105) hx hb dX16_joined_1 (by rw [h1_171]; decide) (by rw [h1_171]; decide) (by rw [h1_171]; rfl) (by decide) ?_
    refine lv_lload_n hx hb dX16_joined_105 rfl (lv_at hl 1 rfl) ?_
    refine lv_lload_n hx hb dX16_joined_106 rfl (lv_at hl 2 rfl) ?_
    refine lv_ldc2 (v := 31) hx hb hown (hn.get mw_1900 rfl) dX16_joined_107 ?_
    refine lv_land hx hb dX16_joined_110 ?_
    refine lv_topl (fun z110_1 ez110_1 => ?_)
    have r110_2 : rl z110_1 0 31 := rgL_andr ez110_1 (show rl (31 : Int64) 31 31 from rl_l (by decide)) (by decide)
    refine lv_l2i hx hb dX16_joined_111 rfl ?_
    refine lv_topi (fun z111_1 ez111_1 => ?_)
    have r111_2 : rg z111_1 0 31 := rg_l2i ez111_1 r110_2 (by decide)
    refine lv_lshr hx hb dX16_joined_112 rfl ?_
    refine lv_topl (fun z112_1 ez112_1 => ?_)
    exact et_l (SX := Unit) (pl1 := fun _ => []) hQ hx hb hr hlocks dX16_joined_113 () trivial (by rw [List.append_nil]; exact hP) (by rw [List.append_nil]; exact hD) hS [] (by decide) rfl (Nat.le_of_ble_eq_true rfl) (Nat.le_of_ble_eq_true rfl) (Nat.le_of_ble_eq_true rfl) (Nat.le_of_ble_eq_true rfl)
  by_cases h1_181 : v0.toInt = 8
  · have r1_182 : rg v0 8 8 := rg_at h1_181
    refine lv_tableIn (off := 117) (tgt := 118) hx hb dX16_joined_1 (by rw [h1_181]; decide) (by rw [h1_181]; decide) (by rw [h1_181]; rfl) (by decide) ?_
    refine lv_lload_n hx hb dX16_joined_118 rfl (lv_at hl 2 rfl) ?_
    refine lv_lconst (v := 0) hx hb dX16_joined_119 (by decide) ?_
    refine W.lcmp hx hb dX16_joined_120 ?_
    refine lv_topi (fun z120_1 ez120_1 => ?_)
    refine lv_if_ne (tgt := 132) hx hb dX16_joined_121 (by decide) (fun c121_1 => ?_) (fun c121_1 => ?_)
    · have t121_2 := FF.mk (l_ne ez120_1 c121_1)
      refine lv_iload_n hx hb dX16_joined_132 rfl (lv_at hl 0 rfl) ?_
      refine lv_iconst (v := 3) hx hb dX16_joined_133 (by decide) ?_
      refine lv_icmp_ne (tgt := 143) hx hb dX16_joined_134 (by decide) (fun c134_1 => ?_) (fun c134_1 => ?_)
      · have t134_2 := FF.mk (i_ne c134_1)
        refine lv_lload_n hx hb dX16_joined_143 rfl (lv_at hl 1 rfl) ?_
        refine lv_lload_n hx hb dX16_joined_144 rfl (lv_at hl 2 rfl) ?_
        refine lv_lrem hx hb dX16_joined_145 (rl_nz (show v2.toInt ≠ 0 by have q0 := FF.out t121_2; have q1 := (show (0 : Int64).toInt = 0 from by decide); omega)) ?_
        refine lv_topl (fun z145_1 ez145_1 => ?_)
        exact et_l (SX := Unit) (pl1 := fun _ => []) hQ hx hb hr hlocks dX16_joined_146 () trivial (by rw [List.append_nil]; exact hP) (by rw [List.append_nil]; exact hD) hS [] (by decide) rfl (Nat.le_of_ble_eq_true rfl) (Nat.le_of_ble_eq_true rfl) (Nat.le_of_ble_eq_true rfl) (Nat.le_of_ble_eq_true rfl)
      · exact absurd (i_eq c134_1) (rg_eqX r1_182 (show rg (3 : Int32) 3 3 from rg_l (by decide)) (by decide))
    · have t121_2 := FF.mk (l_eq ez120_1 c121_1)
      have r121_3 : rl v2 0 0 := rl_eqA t121_2 (rl_any v2) (show rl (0 : Int64) 0 0 from rl_l (by decide)) (by decide)
      refine nw_N (k1 := 1) (n1 := 6) hx hb hn hown mw_1807 mw_1835 mw_27 hK hP hD hS hA (Nat.le_of_ble_eq_true rfl) (Nat.le_of_ble_eq_true rfl) (Nat.le_of_ble_eq_true rfl) (Nat.le_of_ble_eq_true rfl) dX16_joined_124 (fun q124_1 H hfr hP hD hS => ?_)
      have hP : va_P D vwCl [(q124_1, .inr (13, fs0N))] _ := hP
      have hD : va_D A [(q124_1, .inr (13, fs0N))] := hD
      refine lv_dup hx hb dX16_joined_127 rfl ?_
      refine go_v (wc := [(q124_1, .inr (13, fs0N))]) (k1 := 1) (n1 := 6) (wr := []) [0] [] (fun hPc hDc hFc => va_runIN (As := []) (rest := [.ref q124_1]) (fix0 hx hb hml hown) (c_X13_init l hst D ct q124_1 _) ⟨cn_of (n := 0) hn mw_1876 mw_27 mw_1874 mhX13_init ⟨(Nat.le_of_ble_eq_true rfl), (Nat.le_of_ble_eq_true rfl)⟩, rfl, hn.get mw_1875 rfl⟩ ⟨blindNN, preNN_of hPc hK hDc hn hSK hZ hS hFc hfr⟩ rfl rfl hl.1 rfl (lv_room (Nat.le_of_ble_eq_true rfl)) dX16_joined_128 ⟨(Nat.le_of_ble_eq_true rfl), (Nat.le_of_ble_eq_true rfl)⟩) hP hD hS hA rfl rfl (by decide) (by decide) (by decide) (Nat.le_of_ble_eq_true rfl) (Nat.le_of_ble_eq_true rfl) (fun fs128_1 H locs hp128_2 hP hD hS => ?_)
      have hP : va_P D vwCl [(q124_1, .inr (13, fs128_1))] _ := hP
      have hD : va_D A [(q124_1, .inr (13, fs128_1))] := hD
      have hpefs128_1 : peN fs128_1 := hp128_2
      refine vx_athrow hx hb dX16_joined_131 ?_
      exact xo hQ htab hlocks hK rfl hP hD hS () (fs := fs128_1) trivial hpefs128_1 [0] (by decide) rfl (kq := 0) rfl (Nat.le_of_ble_eq_true rfl) (Nat.le_of_ble_eq_true rfl)
  by_cases h1_191 : v0.toInt = 9
  · have r1_192 : rg v0 9 9 := rg_at h1_191
    refine lv_tableIn (off := 117) (tgt := 118) hx hb dX16_joined_1 (by rw [h1_191]; decide) (by rw [h1_191]; decide) (by rw [h1_191]; rfl) (by decide) ?_
    refine lv_lload_n hx hb dX16_joined_118 rfl (lv_at hl 2 rfl) ?_
    refine lv_lconst (v := 0) hx hb dX16_joined_119 (by decide) ?_
    refine W.lcmp hx hb dX16_joined_120 ?_
    refine lv_topi (fun z120_1 ez120_1 => ?_)
    refine lv_if_ne (tgt := 132) hx hb dX16_joined_121 (by decide) (fun c121_1 => ?_) (fun c121_1 => ?_)
    · have t121_2 := FF.mk (l_ne ez120_1 c121_1)
      refine lv_iload_n hx hb dX16_joined_132 rfl (lv_at hl 0 rfl) ?_
      refine lv_iconst (v := 3) hx hb dX16_joined_133 (by decide) ?_
      refine lv_icmp_ne (tgt := 143) hx hb dX16_joined_134 (by decide) (fun c134_1 => ?_) (fun c134_1 => ?_)
      · have t134_2 := FF.mk (i_ne c134_1)
        refine lv_lload_n hx hb dX16_joined_143 rfl (lv_at hl 1 rfl) ?_
        refine lv_lload_n hx hb dX16_joined_144 rfl (lv_at hl 2 rfl) ?_
        refine lv_lrem hx hb dX16_joined_145 (rl_nz (show v2.toInt ≠ 0 by have q0 := FF.out t121_2; have q1 := (show (0 : Int64).toInt = 0 from by decide); omega)) ?_
        refine lv_topl (fun z145_1 ez145_1 => ?_)
        exact et_l (SX := Unit) (pl1 := fun _ => []) hQ hx hb hr hlocks dX16_joined_146 () trivial (by rw [List.append_nil]; exact hP) (by rw [List.append_nil]; exact hD) hS [] (by decide) rfl (Nat.le_of_ble_eq_true rfl) (Nat.le_of_ble_eq_true rfl) (Nat.le_of_ble_eq_true rfl) (Nat.le_of_ble_eq_true rfl)
      · exact absurd (i_eq c134_1) (rg_eqX r1_192 (show rg (3 : Int32) 3 3 from rg_l (by decide)) (by decide))
    · have t121_2 := FF.mk (l_eq ez120_1 c121_1)
      have r121_3 : rl v2 0 0 := rl_eqA t121_2 (rl_any v2) (show rl (0 : Int64) 0 0 from rl_l (by decide)) (by decide)
      refine nw_N (k1 := 1) (n1 := 6) hx hb hn hown mw_1807 mw_1835 mw_27 hK hP hD hS hA (Nat.le_of_ble_eq_true rfl) (Nat.le_of_ble_eq_true rfl) (Nat.le_of_ble_eq_true rfl) (Nat.le_of_ble_eq_true rfl) dX16_joined_124 (fun q124_1 H hfr hP hD hS => ?_)
      have hP : va_P D vwCl [(q124_1, .inr (13, fs0N))] _ := hP
      have hD : va_D A [(q124_1, .inr (13, fs0N))] := hD
      refine lv_dup hx hb dX16_joined_127 rfl ?_
      refine go_v (wc := [(q124_1, .inr (13, fs0N))]) (k1 := 1) (n1 := 6) (wr := []) [0] [] (fun hPc hDc hFc => va_runIN (As := []) (rest := [.ref q124_1]) (fix0 hx hb hml hown) (c_X13_init l hst D ct q124_1 _) ⟨cn_of (n := 0) hn mw_1876 mw_27 mw_1874 mhX13_init ⟨(Nat.le_of_ble_eq_true rfl), (Nat.le_of_ble_eq_true rfl)⟩, rfl, hn.get mw_1875 rfl⟩ ⟨blindNN, preNN_of hPc hK hDc hn hSK hZ hS hFc hfr⟩ rfl rfl hl.1 rfl (lv_room (Nat.le_of_ble_eq_true rfl)) dX16_joined_128 ⟨(Nat.le_of_ble_eq_true rfl), (Nat.le_of_ble_eq_true rfl)⟩) hP hD hS hA rfl rfl (by decide) (by decide) (by decide) (Nat.le_of_ble_eq_true rfl) (Nat.le_of_ble_eq_true rfl) (fun fs128_1 H locs hp128_2 hP hD hS => ?_)
      have hP : va_P D vwCl [(q124_1, .inr (13, fs128_1))] _ := hP
      have hD : va_D A [(q124_1, .inr (13, fs128_1))] := hD
      have hpefs128_1 : peN fs128_1 := hp128_2
      refine vx_athrow hx hb dX16_joined_131 ?_
      exact xo hQ htab hlocks hK rfl hP hD hS () (fs := fs128_1) trivial hpefs128_1 [0] (by decide) rfl (kq := 0) rfl (Nat.le_of_ble_eq_true rfl) (Nat.le_of_ble_eq_true rfl)
  by_cases h1_201 : v0.toInt = 10
  · have r1_202 : rg v0 10 10 := rg_at h1_201
    refine lv_tableIn (off := 113) (tgt := 114) hx hb dX16_joined_1 (by rw [h1_201]; decide) (by rw [h1_201]; decide) (by rw [h1_201]; rfl) (by decide) ?_
    refine lv_lload_n hx hb dX16_joined_114 rfl (lv_at hl 1 rfl) ?_
    refine lv_lload_n hx hb dX16_joined_115 rfl (lv_at hl 2 rfl) ?_
    refine lv_lxor hx hb dX16_joined_116 ?_
    refine lv_topl (fun z116_1 ez116_1 => ?_)
    exact et_l (SX := Unit) (pl1 := fun _ => []) hQ hx hb hr hlocks dX16_joined_117 () trivial (by rw [List.append_nil]; exact hP) (by rw [List.append_nil]; exact hD) hS [] (by decide) rfl (Nat.le_of_ble_eq_true rfl) (Nat.le_of_ble_eq_true rfl) (Nat.le_of_ble_eq_true rfl) (Nat.le_of_ble_eq_true rfl)
  refine lv_tableOut (tgt := 118) hx hb dX16_joined_1 (by have q0 := (rg_any v0); have q1 := q0.1; have q2 := q0.2; omega) (by decide) ?_
  have hl1_5001 := FF.mk h1_101
  have hl1_5002 := FF.mk h1_111
  have hl1_5003 := FF.mk h1_121
  have hl1_5004 := FF.mk h1_131
  have hl1_5005 := FF.mk h1_141
  have hl1_5006 := FF.mk h1_151
  have hl1_5007 := FF.mk h1_161
  have hl1_5008 := FF.mk h1_171
  have hl1_5009 := FF.mk h1_181
  have hl1_5010 := FF.mk h1_191
  have hl1_5011 := FF.mk h1_201
  refine lv_lload_n hx hb dX16_joined_118 rfl (lv_at hl 2 rfl) ?_
  refine lv_lconst (v := 0) hx hb dX16_joined_119 (by decide) ?_
  refine W.lcmp hx hb dX16_joined_120 ?_
  refine lv_topi (fun z120_1 ez120_1 => ?_)
  refine lv_if_ne (tgt := 132) hx hb dX16_joined_121 (by decide) (fun c121_1 => ?_) (fun c121_1 => ?_)
  · have t121_2 := FF.mk (l_ne ez120_1 c121_1)
    refine lv_iload_n hx hb dX16_joined_132 rfl (lv_at hl 0 rfl) ?_
    refine lv_iconst (v := 3) hx hb dX16_joined_133 (by decide) ?_
    refine lv_icmp_ne (tgt := 143) hx hb dX16_joined_134 (by decide) (fun c134_1 => ?_) (fun c134_1 => ?_)
    · have t134_2 := FF.mk (i_ne c134_1)
      refine lv_lload_n hx hb dX16_joined_143 rfl (lv_at hl 1 rfl) ?_
      refine lv_lload_n hx hb dX16_joined_144 rfl (lv_at hl 2 rfl) ?_
      refine lv_lrem hx hb dX16_joined_145 (rl_nz (show v2.toInt ≠ 0 by have q0 := FF.out t121_2; have q1 := (show (0 : Int64).toInt = 0 from by decide); omega)) ?_
      refine lv_topl (fun z145_1 ez145_1 => ?_)
      exact et_l (SX := Unit) (pl1 := fun _ => []) hQ hx hb hr hlocks dX16_joined_146 () trivial (by rw [List.append_nil]; exact hP) (by rw [List.append_nil]; exact hD) hS [] (by decide) rfl (Nat.le_of_ble_eq_true rfl) (Nat.le_of_ble_eq_true rfl) (Nat.le_of_ble_eq_true rfl) (Nat.le_of_ble_eq_true rfl)
    · have t134_2 := FF.mk (i_eq c134_1)
      have r134_3 : rg v0 3 3 := rg_eqA t134_2 (rg_any v0) (show rg (3 : Int32) 3 3 from rg_l (by decide)) (by decide)
      refine lv_lload_n hx hb dX16_joined_137 rfl (lv_at hl 1 rfl) ?_
      refine lv_lload_n hx hb dX16_joined_138 rfl (lv_at hl 2 rfl) ?_
      refine lv_ldiv hx hb dX16_joined_139 (rl_nz (show v2.toInt ≠ 0 by have q0 := FF.out t121_2; have q1 := (show (0 : Int64).toInt = 0 from by decide); omega)) ?_
      refine lv_topl (fun z139_1 ez139_1 => ?_)
      refine lv_goto (tgt := 146) hx hb dX16_joined_140 (by decide) ?_
      exact et_l (SX := Unit) (pl1 := fun _ => []) hQ hx hb hr hlocks dX16_joined_146 () trivial (by rw [List.append_nil]; exact hP) (by rw [List.append_nil]; exact hD) hS [] (by decide) rfl (Nat.le_of_ble_eq_true rfl) (Nat.le_of_ble_eq_true rfl) (Nat.le_of_ble_eq_true rfl) (Nat.le_of_ble_eq_true rfl)
  · have t121_2 := FF.mk (l_eq ez120_1 c121_1)
    have r121_3 : rl v2 0 0 := rl_eqA t121_2 (rl_any v2) (show rl (0 : Int64) 0 0 from rl_l (by decide)) (by decide)
    refine nw_N (k1 := 1) (n1 := 6) hx hb hn hown mw_1807 mw_1835 mw_27 hK hP hD hS hA (Nat.le_of_ble_eq_true rfl) (Nat.le_of_ble_eq_true rfl) (Nat.le_of_ble_eq_true rfl) (Nat.le_of_ble_eq_true rfl) dX16_joined_124 (fun q124_1 H hfr hP hD hS => ?_)
    have hP : va_P D vwCl [(q124_1, .inr (13, fs0N))] _ := hP
    have hD : va_D A [(q124_1, .inr (13, fs0N))] := hD
    refine lv_dup hx hb dX16_joined_127 rfl ?_
    refine go_v (wc := [(q124_1, .inr (13, fs0N))]) (k1 := 1) (n1 := 6) (wr := []) [0] [] (fun hPc hDc hFc => va_runIN (As := []) (rest := [.ref q124_1]) (fix0 hx hb hml hown) (c_X13_init l hst D ct q124_1 _) ⟨cn_of (n := 0) hn mw_1876 mw_27 mw_1874 mhX13_init ⟨(Nat.le_of_ble_eq_true rfl), (Nat.le_of_ble_eq_true rfl)⟩, rfl, hn.get mw_1875 rfl⟩ ⟨blindNN, preNN_of hPc hK hDc hn hSK hZ hS hFc hfr⟩ rfl rfl hl.1 rfl (lv_room (Nat.le_of_ble_eq_true rfl)) dX16_joined_128 ⟨(Nat.le_of_ble_eq_true rfl), (Nat.le_of_ble_eq_true rfl)⟩) hP hD hS hA rfl rfl (by decide) (by decide) (by decide) (Nat.le_of_ble_eq_true rfl) (Nat.le_of_ble_eq_true rfl) (fun fs128_1 H locs hp128_2 hP hD hS => ?_)
    have hP : va_P D vwCl [(q124_1, .inr (13, fs128_1))] _ := hP
    have hD : va_D A [(q124_1, .inr (13, fs128_1))] := hD
    have hpefs128_1 : peN fs128_1 := hp128_2
    refine vx_athrow hx hb dX16_joined_131 ?_
    exact xo hQ htab hlocks hK rfl hP hD hS () (fs := fs128_1) trivial hpefs128_1 [0] (by decide) rfl (kq := 0) rfl (Nat.le_of_ble_eq_true rfl) (Nat.le_of_ble_eq_true rfl)
set_option maxHeartbeats 2000000 in
theorem c_X16_holds (l : Launch) (D : va_G) (ct : Nat → ClassId) (v0 : Int32) (v1 : Int64) (v2 : Int64)  : KI (S := Unit) l yX16_holds cX16_holds 5 (some .boolean) 1 20 D ct [.int v0, .long v1, .long v2] [] 0 0 (fun (r : Int32) (_ : Unit) => rg r 0 1) (fun (_ : Unit) => []) := by
  refine KIq_of (by decide) (Nat.le_of_ble_eq_true rfl) (fun p e s m below meth c A Q C0 hA H locs hS hP hD hQ ls hl => ?_)
  obtain ⟨hx, hb, hr, hown, hin, hml, hlocks, hn, hK, hZ, hSK⟩ := C0
  have hl : lv_has ls 5 [(0, .int v0), (1, .long v1), (3, .long v2)] := hl
  refine lv_iload_n hx hb dX16_holds_0 rfl (lv_at hl 0 rfl) ?_
  by_cases h1_101 : v0.toInt = 1
  · have r1_102 : rg v0 1 1 := rg_at h1_101
    refine lv_tableIn (off := 55) (tgt := 56) hx hb dX16_holds_1 (by rw [h1_101]; decide) (by rw [h1_101]; decide) (by rw [h1_101]; rfl) (by decide) ?_
    refine lv_lload_n hx hb dX16_holds_56 rfl (lv_at hl 1 rfl) ?_
    refine lv_lload_n hx hb dX16_holds_57 rfl (lv_at hl 2 rfl) ?_
    refine W.lcmp hx hb dX16_holds_58 ?_
    refine lv_topi (fun z58_1 ez58_1 => ?_)
    refine lv_if_ne (tgt := 66) hx hb dX16_holds_59 (by decide) (fun c59_1 => ?_) (fun c59_1 => ?_)
    · have t59_2 := FF.mk (l_ne ez58_1 c59_1)
      refine lv_iconst (v := 0) hx hb dX16_holds_66 (by decide) ?_
      exact endq_i hQ hx hb hr hlocks dX16_holds_67 (by decide) () (rg_w (show rg (0 : Int32) 0 0 from rg_l (by decide)) (by decide)) hP hD hS [] rfl (by decide) rfl (Nat.le_of_ble_eq_true rfl) (Nat.le_of_ble_eq_true rfl)
    · have t59_2 := FF.mk (l_eq ez58_1 c59_1)
      refine lv_iconst (v := 1) hx hb dX16_holds_62 (by decide) ?_
      refine lv_goto (tgt := 67) hx hb dX16_holds_63 (by decide) ?_
      exact endq_i hQ hx hb hr hlocks dX16_holds_67 (by decide) () (rg_w (show rg (1 : Int32) 1 1 from rg_l (by decide)) (by decide)) hP hD hS [] rfl (by decide) rfl (Nat.le_of_ble_eq_true rfl) (Nat.le_of_ble_eq_true rfl)
  by_cases h1_111 : v0.toInt = 2
  · have r1_112 : rg v0 2 2 := rg_at h1_111
    refine lv_tableIn (off := 79) (tgt := 80) hx hb dX16_holds_1 (by rw [h1_111]; decide) (by rw [h1_111]; decide) (by rw [h1_111]; rfl) (by decide) ?_
    refine lv_lload_n hx hb dX16_holds_80 rfl (lv_at hl 1 rfl) ?_
    refine lv_lload_n hx hb dX16_holds_81 rfl (lv_at hl 2 rfl) ?_
    refine W.lcmp hx hb dX16_holds_82 ?_
    refine lv_topi (fun z82_1 ez82_1 => ?_)
    refine lv_if_le (tgt := 90) hx hb dX16_holds_83 (by decide) (fun c83_1 => ?_) (fun c83_1 => ?_)
    · have t83_2 := FF.mk (l_le ez82_1 c83_1)
      refine lv_iconst (v := 0) hx hb dX16_holds_90 (by decide) ?_
      exact endq_i hQ hx hb hr hlocks dX16_holds_91 (by decide) () (rg_w (show rg (0 : Int32) 0 0 from rg_l (by decide)) (by decide)) hP hD hS [] rfl (by decide) rfl (Nat.le_of_ble_eq_true rfl) (Nat.le_of_ble_eq_true rfl)
    · have t83_2 := FF.mk (l_nle ez82_1 c83_1)
      have r83_3 : rl v2 (-9223372036854775808) 9223372036854775806 := rl_ltA t83_2 (rl_any v2) (rl_any v1) (by decide)
      have r83_4 : rl v1 (-9223372036854775807) 9223372036854775807 := rl_ltB t83_2 (rl_any v2) (rl_any v1) (by decide)
      refine lv_iconst (v := 1) hx hb dX16_holds_86 (by decide) ?_
      refine lv_goto (tgt := 91) hx hb dX16_holds_87 (by decide) ?_
      exact endq_i hQ hx hb hr hlocks dX16_holds_91 (by decide) () (rg_w (show rg (1 : Int32) 1 1 from rg_l (by decide)) (by decide)) hP hD hS [] rfl (by decide) rfl (Nat.le_of_ble_eq_true rfl) (Nat.le_of_ble_eq_true rfl)
  by_cases h1_121 : v0.toInt = 3
  · have r1_122 : rg v0 3 3 := rg_at h1_121
    refine lv_tableIn (off := 91) (tgt := 92) hx hb dX16_holds_1 (by rw [h1_121]; decide) (by rw [h1_121]; decide) (by rw [h1_121]; rfl) (by decide) ?_
    refine lv_lload_n hx hb dX16_holds_92 rfl (lv_at hl 1 rfl) ?_
    refine lv_lload_n hx hb dX16_holds_93 rfl (lv_at hl 2 rfl) ?_
    refine W.lcmp hx hb dX16_holds_94 ?_
    refine lv_topi (fun z94_1 ez94_1 => ?_)
    refine lv_if_lt (tgt := 102) hx hb dX16_holds_95 (by decide) (fun c95_1 => ?_) (fun c95_1 => ?_)
    · have t95_2 := FF.mk (l_lt ez94_1 c95_1)
      have r95_3 : rl v1 (-9223372036854775808) 9223372036854775806 := rl_ltA t95_2 (rl_any v1) (rl_any v2) (by decide)
      have r95_4 : rl v2 (-9223372036854775807) 9223372036854775807 := rl_ltB t95_2 (rl_any v1) (rl_any v2) (by decide)
      refine lv_iconst (v := 0) hx hb dX16_holds_102 (by decide) ?_
      exact endq_i hQ hx hb hr hlocks dX16_holds_103 (by decide) () (rg_w (show rg (0 : Int32) 0 0 from rg_l (by decide)) (by decide)) hP hD hS [] rfl (by decide) rfl (Nat.le_of_ble_eq_true rfl) (Nat.le_of_ble_eq_true rfl)
    · have t95_2 := FF.mk (l_nlt ez94_1 c95_1)
      refine lv_iconst (v := 1) hx hb dX16_holds_98 (by decide) ?_
      refine lv_goto (tgt := 103) hx hb dX16_holds_99 (by decide) ?_
      exact endq_i hQ hx hb hr hlocks dX16_holds_103 (by decide) () (rg_w (show rg (1 : Int32) 1 1 from rg_l (by decide)) (by decide)) hP hD hS [] rfl (by decide) rfl (Nat.le_of_ble_eq_true rfl) (Nat.le_of_ble_eq_true rfl)
  by_cases h1_131 : v0.toInt = 4
  · have r1_132 : rg v0 4 4 := rg_at h1_131
    refine lv_tableIn (off := 115) (tgt := 116) hx hb dX16_holds_1 (by rw [h1_131]; decide) (by rw [h1_131]; decide) (by rw [h1_131]; rfl) (by decide) ?_
    refine lv_lload_n hx hb dX16_holds_116 rfl (lv_at hl 1 rfl) ?_
    refine lv_lload_n hx hb dX16_holds_117 rfl (lv_at hl 2 rfl) ?_
    refine W.lcmp hx hb dX16_holds_118 ?_
    refine lv_topi (fun z118_1 ez118_1 => ?_)
    refine lv_if_gt (tgt := 126) hx hb dX16_holds_119 (by decide) (fun c119_1 => ?_) (fun c119_1 => ?_)
    · have t119_2 := FF.mk (l_gt ez118_1 c119_1)
      have r119_3 : rl v2 (-9223372036854775808) 9223372036854775806 := rl_ltA t119_2 (rl_any v2) (rl_any v1) (by decide)
      have r119_4 : rl v1 (-9223372036854775807) 9223372036854775807 := rl_ltB t119_2 (rl_any v2) (rl_any v1) (by decide)
      refine lv_iconst (v := 0) hx hb dX16_holds_126 (by decide) ?_
      exact endq_i hQ hx hb hr hlocks dX16_holds_127 (by decide) () (rg_w (show rg (0 : Int32) 0 0 from rg_l (by decide)) (by decide)) hP hD hS [] rfl (by decide) rfl (Nat.le_of_ble_eq_true rfl) (Nat.le_of_ble_eq_true rfl)
    · have t119_2 := FF.mk (l_ngt ez118_1 c119_1)
      refine lv_iconst (v := 1) hx hb dX16_holds_122 (by decide) ?_
      refine lv_goto (tgt := 127) hx hb dX16_holds_123 (by decide) ?_
      exact endq_i hQ hx hb hr hlocks dX16_holds_127 (by decide) () (rg_w (show rg (1 : Int32) 1 1 from rg_l (by decide)) (by decide)) hP hD hS [] rfl (by decide) rfl (Nat.le_of_ble_eq_true rfl) (Nat.le_of_ble_eq_true rfl)
  by_cases h1_141 : v0.toInt = 5
  · have r1_142 : rg v0 5 5 := rg_at h1_141
    refine lv_tableIn (off := 67) (tgt := 68) hx hb dX16_holds_1 (by rw [h1_141]; decide) (by rw [h1_141]; decide) (by rw [h1_141]; rfl) (by decide) ?_
    refine lv_lload_n hx hb dX16_holds_68 rfl (lv_at hl 1 rfl) ?_
    refine lv_lload_n hx hb dX16_holds_69 rfl (lv_at hl 2 rfl) ?_
    refine W.lcmp hx hb dX16_holds_70 ?_
    refine lv_topi (fun z70_1 ez70_1 => ?_)
    refine lv_if_eq (tgt := 78) hx hb dX16_holds_71 (by decide) (fun c71_1 => ?_) (fun c71_1 => ?_)
    · have t71_2 := FF.mk (l_eq ez70_1 c71_1)
      refine lv_iconst (v := 0) hx hb dX16_holds_78 (by decide) ?_
      exact endq_i hQ hx hb hr hlocks dX16_holds_79 (by decide) () (rg_w (show rg (0 : Int32) 0 0 from rg_l (by decide)) (by decide)) hP hD hS [] rfl (by decide) rfl (Nat.le_of_ble_eq_true rfl) (Nat.le_of_ble_eq_true rfl)
    · have t71_2 := FF.mk (l_neq ez70_1 c71_1)
      refine lv_iconst (v := 1) hx hb dX16_holds_74 (by decide) ?_
      refine lv_goto (tgt := 79) hx hb dX16_holds_75 (by decide) ?_
      exact endq_i hQ hx hb hr hlocks dX16_holds_79 (by decide) () (rg_w (show rg (1 : Int32) 1 1 from rg_l (by decide)) (by decide)) hP hD hS [] rfl (by decide) rfl (Nat.le_of_ble_eq_true rfl) (Nat.le_of_ble_eq_true rfl)
  by_cases h1_151 : v0.toInt = 6
  · have r1_152 : rg v0 6 6 := rg_at h1_151
    refine lv_tableIn (off := 115) (tgt := 116) hx hb dX16_holds_1 (by rw [h1_151]; decide) (by rw [h1_151]; decide) (by rw [h1_151]; rfl) (by decide) ?_
    refine lv_lload_n hx hb dX16_holds_116 rfl (lv_at hl 1 rfl) ?_
    refine lv_lload_n hx hb dX16_holds_117 rfl (lv_at hl 2 rfl) ?_
    refine W.lcmp hx hb dX16_holds_118 ?_
    refine lv_topi (fun z118_1 ez118_1 => ?_)
    refine lv_if_gt (tgt := 126) hx hb dX16_holds_119 (by decide) (fun c119_1 => ?_) (fun c119_1 => ?_)
    · have t119_2 := FF.mk (l_gt ez118_1 c119_1)
      have r119_3 : rl v2 (-9223372036854775808) 9223372036854775806 := rl_ltA t119_2 (rl_any v2) (rl_any v1) (by decide)
      have r119_4 : rl v1 (-9223372036854775807) 9223372036854775807 := rl_ltB t119_2 (rl_any v2) (rl_any v1) (by decide)
      refine lv_iconst (v := 0) hx hb dX16_holds_126 (by decide) ?_
      exact endq_i hQ hx hb hr hlocks dX16_holds_127 (by decide) () (rg_w (show rg (0 : Int32) 0 0 from rg_l (by decide)) (by decide)) hP hD hS [] rfl (by decide) rfl (Nat.le_of_ble_eq_true rfl) (Nat.le_of_ble_eq_true rfl)
    · have t119_2 := FF.mk (l_ngt ez118_1 c119_1)
      refine lv_iconst (v := 1) hx hb dX16_holds_122 (by decide) ?_
      refine lv_goto (tgt := 127) hx hb dX16_holds_123 (by decide) ?_
      exact endq_i hQ hx hb hr hlocks dX16_holds_127 (by decide) () (rg_w (show rg (1 : Int32) 1 1 from rg_l (by decide)) (by decide)) hP hD hS [] rfl (by decide) rfl (Nat.le_of_ble_eq_true rfl) (Nat.le_of_ble_eq_true rfl)
  by_cases h1_161 : v0.toInt = 7
  · have r1_162 : rg v0 7 7 := rg_at h1_161
    refine lv_tableIn (off := 115) (tgt := 116) hx hb dX16_holds_1 (by rw [h1_161]; decide) (by rw [h1_161]; decide) (by rw [h1_161]; rfl) (by decide) ?_
    refine lv_lload_n hx hb dX16_holds_116 rfl (lv_at hl 1 rfl) ?_
    refine lv_lload_n hx hb dX16_holds_117 rfl (lv_at hl 2 rfl) ?_
    refine W.lcmp hx hb dX16_holds_118 ?_
    refine lv_topi (fun z118_1 ez118_1 => ?_)
    refine lv_if_gt (tgt := 126) hx hb dX16_holds_119 (by decide) (fun c119_1 => ?_) (fun c119_1 => ?_)
    · have t119_2 := FF.mk (l_gt ez118_1 c119_1)
      have r119_3 : rl v2 (-9223372036854775808) 9223372036854775806 := rl_ltA t119_2 (rl_any v2) (rl_any v1) (by decide)
      have r119_4 : rl v1 (-9223372036854775807) 9223372036854775807 := rl_ltB t119_2 (rl_any v2) (rl_any v1) (by decide)
      refine lv_iconst (v := 0) hx hb dX16_holds_126 (by decide) ?_
      exact endq_i hQ hx hb hr hlocks dX16_holds_127 (by decide) () (rg_w (show rg (0 : Int32) 0 0 from rg_l (by decide)) (by decide)) hP hD hS [] rfl (by decide) rfl (Nat.le_of_ble_eq_true rfl) (Nat.le_of_ble_eq_true rfl)
    · have t119_2 := FF.mk (l_ngt ez118_1 c119_1)
      refine lv_iconst (v := 1) hx hb dX16_holds_122 (by decide) ?_
      refine lv_goto (tgt := 127) hx hb dX16_holds_123 (by decide) ?_
      exact endq_i hQ hx hb hr hlocks dX16_holds_127 (by decide) () (rg_w (show rg (1 : Int32) 1 1 from rg_l (by decide)) (by decide)) hP hD hS [] rfl (by decide) rfl (Nat.le_of_ble_eq_true rfl) (Nat.le_of_ble_eq_true rfl)
  by_cases h1_171 : v0.toInt = 8
  · have r1_172 : rg v0 8 8 := rg_at h1_171
    refine lv_tableIn (off := 115) (tgt := 116) hx hb dX16_holds_1 (by rw [h1_171]; decide) (by rw [h1_171]; decide) (by rw [h1_171]; rfl) (by decide) ?_
    refine lv_lload_n hx hb dX16_holds_116 rfl (lv_at hl 1 rfl) ?_
    refine lv_lload_n hx hb dX16_holds_117 rfl (lv_at hl 2 rfl) ?_
    refine W.lcmp hx hb dX16_holds_118 ?_
    refine lv_topi (fun z118_1 ez118_1 => ?_)
    refine lv_if_gt (tgt := 126) hx hb dX16_holds_119 (by decide) (fun c119_1 => ?_) (fun c119_1 => ?_)
    · have t119_2 := FF.mk (l_gt ez118_1 c119_1)
      have r119_3 : rl v2 (-9223372036854775808) 9223372036854775806 := rl_ltA t119_2 (rl_any v2) (rl_any v1) (by decide)
      have r119_4 : rl v1 (-9223372036854775807) 9223372036854775807 := rl_ltB t119_2 (rl_any v2) (rl_any v1) (by decide)
      refine lv_iconst (v := 0) hx hb dX16_holds_126 (by decide) ?_
      exact endq_i hQ hx hb hr hlocks dX16_holds_127 (by decide) () (rg_w (show rg (0 : Int32) 0 0 from rg_l (by decide)) (by decide)) hP hD hS [] rfl (by decide) rfl (Nat.le_of_ble_eq_true rfl) (Nat.le_of_ble_eq_true rfl)
    · have t119_2 := FF.mk (l_ngt ez118_1 c119_1)
      refine lv_iconst (v := 1) hx hb dX16_holds_122 (by decide) ?_
      refine lv_goto (tgt := 127) hx hb dX16_holds_123 (by decide) ?_
      exact endq_i hQ hx hb hr hlocks dX16_holds_127 (by decide) () (rg_w (show rg (1 : Int32) 1 1 from rg_l (by decide)) (by decide)) hP hD hS [] rfl (by decide) rfl (Nat.le_of_ble_eq_true rfl) (Nat.le_of_ble_eq_true rfl)
  by_cases h1_181 : v0.toInt = 9
  · have r1_182 : rg v0 9 9 := rg_at h1_181
    refine lv_tableIn (off := 115) (tgt := 116) hx hb dX16_holds_1 (by rw [h1_181]; decide) (by rw [h1_181]; decide) (by rw [h1_181]; rfl) (by decide) ?_
    refine lv_lload_n hx hb dX16_holds_116 rfl (lv_at hl 1 rfl) ?_
    refine lv_lload_n hx hb dX16_holds_117 rfl (lv_at hl 2 rfl) ?_
    refine W.lcmp hx hb dX16_holds_118 ?_
    refine lv_topi (fun z118_1 ez118_1 => ?_)
    refine lv_if_gt (tgt := 126) hx hb dX16_holds_119 (by decide) (fun c119_1 => ?_) (fun c119_1 => ?_)
    · have t119_2 := FF.mk (l_gt ez118_1 c119_1)
      have r119_3 : rl v2 (-9223372036854775808) 9223372036854775806 := rl_ltA t119_2 (rl_any v2) (rl_any v1) (by decide)
      have r119_4 : rl v1 (-9223372036854775807) 9223372036854775807 := rl_ltB t119_2 (rl_any v2) (rl_any v1) (by decide)
      refine lv_iconst (v := 0) hx hb dX16_holds_126 (by decide) ?_
      exact endq_i hQ hx hb hr hlocks dX16_holds_127 (by decide) () (rg_w (show rg (0 : Int32) 0 0 from rg_l (by decide)) (by decide)) hP hD hS [] rfl (by decide) rfl (Nat.le_of_ble_eq_true rfl) (Nat.le_of_ble_eq_true rfl)
    · have t119_2 := FF.mk (l_ngt ez118_1 c119_1)
      refine lv_iconst (v := 1) hx hb dX16_holds_122 (by decide) ?_
      refine lv_goto (tgt := 127) hx hb dX16_holds_123 (by decide) ?_
      exact endq_i hQ hx hb hr hlocks dX16_holds_127 (by decide) () (rg_w (show rg (1 : Int32) 1 1 from rg_l (by decide)) (by decide)) hP hD hS [] rfl (by decide) rfl (Nat.le_of_ble_eq_true rfl) (Nat.le_of_ble_eq_true rfl)
  by_cases h1_191 : v0.toInt = 10
  · have r1_192 : rg v0 10 10 := rg_at h1_191
    refine lv_tableIn (off := 103) (tgt := 104) hx hb dX16_holds_1 (by rw [h1_191]; decide) (by rw [h1_191]; decide) (by rw [h1_191]; rfl) (by decide) ?_
    refine lv_lload_n hx hb dX16_holds_104 rfl (lv_at hl 1 rfl) ?_
    refine lv_lload_n hx hb dX16_holds_105 rfl (lv_at hl 2 rfl) ?_
    refine W.lcmp hx hb dX16_holds_106 ?_
    refine lv_topi (fun z106_1 ez106_1 => ?_)
    refine lv_if_ge (tgt := 114) hx hb dX16_holds_107 (by decide) (fun c107_1 => ?_) (fun c107_1 => ?_)
    · have t107_2 := FF.mk (l_ge ez106_1 c107_1)
      refine lv_iconst (v := 0) hx hb dX16_holds_114 (by decide) ?_
      exact endq_i hQ hx hb hr hlocks dX16_holds_115 (by decide) () (rg_w (show rg (0 : Int32) 0 0 from rg_l (by decide)) (by decide)) hP hD hS [] rfl (by decide) rfl (Nat.le_of_ble_eq_true rfl) (Nat.le_of_ble_eq_true rfl)
    · have t107_2 := FF.mk (l_nge ez106_1 c107_1)
      have r107_3 : rl v1 (-9223372036854775808) 9223372036854775806 := rl_ltA t107_2 (rl_any v1) (rl_any v2) (by decide)
      have r107_4 : rl v2 (-9223372036854775807) 9223372036854775807 := rl_ltB t107_2 (rl_any v1) (rl_any v2) (by decide)
      refine lv_iconst (v := 1) hx hb dX16_holds_110 (by decide) ?_
      refine lv_goto (tgt := 115) hx hb dX16_holds_111 (by decide) ?_
      exact endq_i hQ hx hb hr hlocks dX16_holds_115 (by decide) () (rg_w (show rg (1 : Int32) 1 1 from rg_l (by decide)) (by decide)) hP hD hS [] rfl (by decide) rfl (Nat.le_of_ble_eq_true rfl) (Nat.le_of_ble_eq_true rfl)
  refine lv_tableOut (tgt := 116) hx hb dX16_holds_1 (by have q0 := (rg_any v0); have q1 := q0.1; have q2 := q0.2; omega) (by decide) ?_
  have hl1_5001 := FF.mk h1_101
  have hl1_5002 := FF.mk h1_111
  have hl1_5003 := FF.mk h1_121
  have hl1_5004 := FF.mk h1_131
  have hl1_5005 := FF.mk h1_141
  have hl1_5006 := FF.mk h1_151
  have hl1_5007 := FF.mk h1_161
  have hl1_5008 := FF.mk h1_171
  have hl1_5009 := FF.mk h1_181
  have hl1_5010 := FF.mk h1_191
  refine lv_lload_n hx hb dX16_holds_116 rfl (lv_at hl 1 rfl) ?_
  refine lv_lload_n hx hb dX16_holds_117 rfl (lv_at hl 2 rfl) ?_
  refine W.lcmp hx hb dX16_holds_118 ?_
  refine lv_topi (fun z118_1 ez118_1 => ?_)
  refine lv_if_gt (tgt := 126) hx hb dX16_holds_119 (by decide) (fun c119_1 => ?_) (fun c119_1 => ?_)
  · have t119_2 := FF.mk (l_gt ez118_1 c119_1)
    have r119_3 : rl v2 (-9223372036854775808) 9223372036854775806 := rl_ltA t119_2 (rl_any v2) (rl_any v1) (by decide)
    have r119_4 : rl v1 (-9223372036854775807) 9223372036854775807 := rl_ltB t119_2 (rl_any v2) (rl_any v1) (by decide)
    refine lv_iconst (v := 0) hx hb dX16_holds_126 (by decide) ?_
    exact endq_i hQ hx hb hr hlocks dX16_holds_127 (by decide) () (rg_w (show rg (0 : Int32) 0 0 from rg_l (by decide)) (by decide)) hP hD hS [] rfl (by decide) rfl (Nat.le_of_ble_eq_true rfl) (Nat.le_of_ble_eq_true rfl)
  · have t119_2 := FF.mk (l_ngt ez118_1 c119_1)
    refine lv_iconst (v := 1) hx hb dX16_holds_122 (by decide) ?_
    refine lv_goto (tgt := 127) hx hb dX16_holds_123 (by decide) ?_
    exact endq_i hQ hx hb hr hlocks dX16_holds_127 (by decide) () (rg_w (show rg (1 : Int32) 1 1 from rg_l (by decide)) (by decide)) hP hD hS [] rfl (by decide) rfl (Nat.le_of_ble_eq_true rfl) (Nat.le_of_ble_eq_true rfl)
set_option maxHeartbeats 2000000 in
theorem c_X16_takeProgram (l : Launch) (hst : l.stackTraces = false) (D : va_G) (ct : Nat → ClassId) (MC : Nat) (MS : Nat) (mm : Nat) (v0 : Int32) (fs_mm : List Value) (uco : Nat) (g_uco : Nat → Int64) (CL : Nat) (upg : Nat) (g_upg : Nat → Int64) (PL : Nat) (h_v0 : rg v0 0 4000) (hlen_mm : fs_mm.length = 78) (hf_mm_28 : fs_mm[28]? = some (.ref uco)) (hq0 : ((CL : Nat) : Int) ≤ 400000) (hq1 : v0.toInt ≤ ((CL : Nat) : Int)) (hq2 : v0.toInt ≤ ((MS : Nat) : Int)) (hq3 : 1 ≤ ((MC : Nat) : Int)) : KT (V := Unit) (S := List Value × Nat × (Nat → Int64) × Nat × Nat × Nat) (SX := Unit) l yX16_takeProgram cX16_takeProgram 3 none 1 20 D ct [.ref mm, .int v0] [(mm, .inr (16, fs_mm)), (uco, .inl (ct 2, CL, .inr (.inl g_uco))), (upg, .inl (ct 2, PL, .inr (.inl g_upg)))] MC MS (fun _ : Unit => none) (fun (_ : Unit) (u : List Value × Nat × (Nat → Int64) × Nat × Nat × Nat) => match u with | (fs2_mm, a_mm_26, k_upg, PL2, kc, kn) => SB fs_mm fs2_mm [26, 27] ∧ fs2_mm[26]? = some (.ref a_mm_26) ∧ fs2_mm[27]? = some (.int 1) ∧ (((PL2 : Nat) : Int) = v0.toInt) ∧ (((kc : Nat) : Int) = 1) ∧ (((kn : Nat) : Int) = v0.toInt)) (fun (u : List Value × Nat × (Nat → Int64) × Nat × Nat × Nat) => match u with | (fs2_mm, a_mm_26, k_upg, PL2, kc, kn) => [(mm, .inr (16, fs2_mm)), (uco, .inl (ct 2, CL, .inr (.inl g_uco))), (a_mm_26, .inl (ct 2, PL2, .inr (.inl k_upg)))] ++ []) (fun (u : List Value × Nat × (Nat → Int64) × Nat × Nat × Nat) => match u with | (fs2_mm, a_mm_26, k_upg, PL2, kc, kn) => kc) (fun (u : List Value × Nat × (Nat → Int64) × Nat × Nat × Nat) => match u with | (fs2_mm, a_mm_26, k_upg, PL2, kc, kn) => kn) 15 RX15 peW (fun _ => False) (fun _ => []) := by
  refine KT_of (by decide) (Nat.le_of_ble_eq_true rfl) (fun p e s m below meth c A Q C0 htab hA H locs hS hP hD hQ ls hl => ?_)
  obtain ⟨hx, hb, hr, hown, hin, hml, hlocks, hn, hK, hZ, hSK⟩ := C0
  have hl : lv_has ls 3 [(0, .ref mm), (1, .int v0)] := hl
  replace hq0 := FF.mk hq0
  replace hq1 := FF.mk hq1
  replace hq2 := FF.mk hq2
  replace hq3 := FF.mk hq3
  refine lv_aload_n hx hb dX16_takeProgram_0 rfl (lv_at hl 0 rfl) ?_
  refine lv_iload_n hx hb dX16_takeProgram_1 rfl (lv_at hl 1 rfl) ?_
  obtain ⟨n2_2, gn2_2⟩ : ∃ k : Nat, v0.toNatClampNeg = k := ⟨_, rfl⟩
  have en2_2 := FF.mk (ncn_up gn2_2 (show 0 ≤ v0.toInt by have q0 := h_v0.1; omega))
  obtain ⟨c2_3, ec2_3⟩ : ∃ x9 : Nat, x9 = 0 + 1 := ⟨_, rfl⟩
  have ec2_3 := FF.mk ec2_3
  have mc2_3 : FF (c2_3 ≤ MC) := FF.mk (Int.ofNat_le.mp (show ((c2_3 : Nat) : Int) ≤ ((MC : Nat) : Int) by have q0 := FF.out hq3; have q1 := FF.out ec2_3; omega))
  obtain ⟨k2_4, ek2_4⟩ : ∃ x9 : Nat, x9 = 0 + n2_2 := ⟨_, rfl⟩
  have ek2_4 := FF.mk ek2_4
  have mk2_4 : FF (k2_4 ≤ MS) := FF.mk (Int.ofNat_le.mp (show ((k2_4 : Nat) : Int) ≤ ((MS : Nat) : Int) by have q0 := FF.out hq2; have q1 := FF.out en2_2; have q2 := FF.out ek2_4; omega))
  have nbn2_2 : (0 : Int) ≤ ((n2_2 : Nat) : Int) ∧ ((n2_2 : Nat) : Int) ≤ 500000 := ⟨Int.natCast_nonneg _, (show ((n2_2 : Nat) : Int) ≤ 500000 by have q0 := h_v0.2; have q1 := FF.out en2_2; omega)⟩
  refine na_new (atype := .long) (k1 := c2_3) (n1 := k2_4) hx hb hn mw_123 rfl hK hP hD hS hA 2 rfl n2_2 (n2_2, .inr (.inl (fun _ => 0))) (fun _ => rfl) (nneg_of (show 0 ≤ v0.toInt by have q0 := h_v0.1; omega)) gn2_2 (show n2_2 * 8 ≤ 536870912 by have h9 := (show ((n2_2 : Nat) : Int) ≤ 67108864 by have q0 := h_v0.2; have q1 := FF.out en2_2; omega); omega) (Nat.le_of_eq (FF.out ec2_3).symm) (Nat.le_of_eq (FF.out ek2_4).symm) (FF.out mc2_3) (FF.out mk2_4) dX16_takeProgram_2 (fun q2_1 H hP hD hS => ?_)
  have hP : va_P D vwCl [(mm, .inr (16, fs_mm)), (uco, .inl (ct 2, CL, .inr (.inl g_uco))), (upg, .inl (ct 2, PL, .inr (.inl g_upg))), (q2_1, .inl (ct 2, n2_2, .inr (.inl (fun _ => 0))))] _ := hP
  have hD : va_D A [(mm, .inr (16, fs_mm)), (uco, .inl (ct 2, CL, .inr (.inl g_uco))), (upg, .inl (ct 2, PL, .inr (.inl g_upg))), (q2_1, .inl (ct 2, n2_2, .inr (.inl (fun _ => 0))))] := hD
  refine va_put (D := D) (ci := 16) (v := .ref q2_1) (ty := .array .long) (C := RX16) (T := TX16) (N := 78) hx hb (htX16 hn) (fun _ h => h) tyX16 tyX16_ok nmX16 hown hK hP hD hS 0 rfl rfl 26 (by decide) (hn.get mw_1565 rfl) (fun _ h9 => h9) rfl (by decide +kernel) rfl rfl (by rw [hlen_mm]; decide) dX16_takeProgram_4 (fun H locs hP hD hS => ?_)
  have hP : va_P D vwCl [(mm, .inr (16, (fs_mm.set 26 (.ref q2_1)))), (uco, .inl (ct 2, CL, .inr (.inl g_uco))), (upg, .inl (ct 2, PL, .inr (.inl g_upg))), (q2_1, .inl (ct 2, n2_2, .inr (.inl (fun _ => 0))))] _ := hP
  have hD : va_D A [(mm, .inr (16, (fs_mm.set 26 (.ref q2_1)))), (uco, .inl (ct 2, CL, .inr (.inl g_uco))), (upg, .inl (ct 2, PL, .inr (.inl g_upg))), (q2_1, .inl (ct 2, n2_2, .inr (.inl (fun _ => 0))))] := hD
  obtain ⟨m4_1, em4_1⟩ : ∃ z, z = (fs_mm.set 26 (.ref q2_1)) := ⟨_, rfl⟩
  rw [← em4_1] at hP hD
  have hsm4_1 : SB fs_mm m4_1 [26, 27] := by rw [em4_1]; exact SB.set (SB.rf _ _) (by decide)
  have hfm4_1_26 : m4_1[26]? = some (.ref q2_1) := by rw [em4_1]; exact fs_eq (by rw [hlen_mm]; decide)
  have hP : va_P D vwCl [(mm, .inr (16, m4_1)), (uco, .inl (ct 2, CL, .inr (.inl g_uco))), (upg, .inl (ct 2, PL, .inr (.inl g_upg))), (q2_1, .inl (ct 2, n2_2, .inr (.inl (fun _ => 0))))] _ := hP
  have hD : va_D A [(mm, .inr (16, m4_1)), (uco, .inl (ct 2, CL, .inr (.inl g_uco))), (upg, .inl (ct 2, PL, .inr (.inl g_upg))), (q2_1, .inl (ct 2, n2_2, .inr (.inl (fun _ => 0))))] := hD
  refine lv_iconst (v := 0) hx hb dX16_takeProgram_7 (by decide) ?_
  refine lv_istore_n (lv' := [(2, .int 0), (0, .ref mm), (1, .int v0)]) hx hb dX16_takeProgram_8 rfl hl (by decide) rfl (fun ls hl => ?_)
  have b9 : ∀ (n9 : Nat) (j9_l2 : Int32) (j9_cq2_1 : Nat → Int64) (H : Heap) (locs : List Loc) (ls : Array Slot), (rg j9_l2 0 2147483647) → ((2147483647 : Int) - j9_l2.toInt).toNat < n9 → lv_has ls 3 [(0, .ref mm), (1, .int v0), (2, .int j9_l2)] → va_P D vwCl [(mm, .inr (16, m4_1)), (uco, .inl (ct 2, CL, .inr (.inl g_uco))), (upg, .inl (ct 2, PL, .inr (.inl g_upg))), (q2_1, .inl (ct 2, n2_2, .inr (.inl j9_cq2_1)))] H → va_D A [(mm, .inr (16, m4_1)), (uco, .inl (ct 2, CL, .inr (.inl g_uco))), (upg, .inl (ct 2, PL, .inr (.inl g_upg))), (q2_1, .inl (ct 2, n2_2, .inr (.inl j9_cq2_1)))] → va_S A s.heap H locs → W p l e ({ frames := 1, cells := MC, slots := MS, locals := 20 }) s m [.ref mm, .int v0].toArray below meth c H locs c2_3 k2_4 Q (F0 m 9 ls []) := by
    intro n9
    induction n9 with
    | zero => intros; rename_i hms _ _ _ _; exact absurd hms (Nat.not_lt_zero _)
    | succ n9 ih9 =>
      intro j9_l2 j9_cq2_1 H locs ls r9_1001 hms9 hl hP hD hS
      refine lv_iload_n hx hb dX16_takeProgram_9 rfl (lv_at hl 2 rfl) ?_
      refine lv_iload_n hx hb dX16_takeProgram_10 rfl (lv_at hl 1 rfl) ?_
      refine lv_icmp_ge (tgt := 32) hx hb dX16_takeProgram_11 (by decide) (fun c11_1 => ?_) (fun c11_1 => ?_)
      · have t11_2 := FF.mk (i_le c11_1)
        refine lv_aload_n hx hb dX16_takeProgram_32 rfl (lv_at hl 0 rfl) ?_
        refine lv_iconst (v := 1) hx hb dX16_takeProgram_33 (by decide) ?_
        refine va_put (D := D) (ci := 16) (v := .int 1) (ty := .boolean) (C := RX16) (T := TX16) (N := 78) hx hb (htX16 hn) (fun _ h => h) tyX16 tyX16_ok nmX16 hown hK hP hD hS 0 rfl rfl 27 (by decide) (hn.get mw_1566 rfl) (fun _ h9 => h9) rfl (by decide +kernel) (by decide) rfl (by rw [hsm4_1.1, hlen_mm]; decide) dX16_takeProgram_34 (fun H locs hP hD hS => ?_)
        have hP : va_P D vwCl [(mm, .inr (16, (m4_1.set 27 (.int 1)))), (uco, .inl (ct 2, CL, .inr (.inl g_uco))), (upg, .inl (ct 2, PL, .inr (.inl g_upg))), (q2_1, .inl (ct 2, n2_2, .inr (.inl j9_cq2_1)))] _ := hP
        have hD : va_D A [(mm, .inr (16, (m4_1.set 27 (.int 1)))), (uco, .inl (ct 2, CL, .inr (.inl g_uco))), (upg, .inl (ct 2, PL, .inr (.inl g_upg))), (q2_1, .inl (ct 2, n2_2, .inr (.inl j9_cq2_1)))] := hD
        obtain ⟨m34_1, em34_1⟩ : ∃ z, z = (m4_1.set 27 (.int 1)) := ⟨_, rfl⟩
        rw [← em34_1] at hP hD
        have hsm34_1 : SB fs_mm m34_1 [26, 27] := by rw [em34_1]; exact SB.set hsm4_1 (by decide)
        have hfm34_1_26 : m34_1[26]? = some (.ref q2_1) := by rw [em34_1]; exact fs_ne (by decide) hfm4_1_26
        have hfm34_1_27 : m34_1[27]? = some (.int 1) := by rw [em34_1]; exact fs_eq (by rw [hsm4_1.1, hlen_mm]; decide)
        have hP : va_P D vwCl [(mm, .inr (16, m34_1)), (uco, .inl (ct 2, CL, .inr (.inl g_uco))), (upg, .inl (ct 2, PL, .inr (.inl g_upg))), (q2_1, .inl (ct 2, n2_2, .inr (.inl j9_cq2_1)))] _ := hP
        have hD : va_D A [(mm, .inr (16, m34_1)), (uco, .inl (ct 2, CL, .inr (.inl g_uco))), (upg, .inl (ct 2, PL, .inr (.inl g_upg))), (q2_1, .inl (ct 2, n2_2, .inr (.inl j9_cq2_1)))] := hD
        exact et_v (SX := Unit) (pl1 := fun _ => []) hQ hx hb hr hlocks dX16_takeProgram_37 (m34_1, q2_1, j9_cq2_1, n2_2, c2_3, k2_4) ⟨hsm34_1, hfm34_1_26, hfm34_1_27, (show ((n2_2 : Nat) : Int) = v0.toInt by have q0 := FF.out en2_2; omega), (show ((c2_3 : Nat) : Int) = 1 by have q0 := FF.out ec2_3; omega), (show ((k2_4 : Nat) : Int) = v0.toInt by have q0 := FF.out en2_2; have q1 := FF.out ek2_4; omega)⟩ (by rw [List.append_nil]; exact hP) (by rw [List.append_nil]; exact hD) hS [0, 1, 3] (by decide) rfl (Nat.le_refl _) (Nat.le_refl _) (FF.out mc2_3) (FF.out mk2_4)
      · have t11_2 := FF.mk (i_nle c11_1)
        have r11_3 : rg j9_l2 0 3999 := rg_ltA t11_2 r9_1001 h_v0 (by decide)
        have r11_4 : rg v0 1 4000 := rg_ltB t11_2 r9_1001 h_v0 (by decide)
        refine lv_aload_n hx hb dX16_takeProgram_14 rfl (lv_at hl 0 rfl) ?_
        refine va_get (D := D) (ci := 16) (v := .ref q2_1) (C := RX16) (T := TX16) (N := 78) hx hb (htX16 hn) (fun _ h => h) hown hK hP 0 rfl rfl 26 (by decide) (hn.get mw_1565 rfl) (fun _ h9 => h9) hfm4_1_26 dX16_takeProgram_15 ?_
        refine lv_iload_n hx hb dX16_takeProgram_18 rfl (lv_at hl 2 rfl) ?_
        refine lv_aload_n hx hb dX16_takeProgram_19 rfl (lv_at hl 0 rfl) ?_
        refine va_get (D := D) (ci := 16) (v := .ref uco) (C := RX16) (T := TX16) (N := 78) hx hb (htX16 hn) (fun _ h => h) hown hK hP 0 rfl rfl 28 (by decide) (hn.get mw_1567 rfl) (fun _ h9 => h9) (SB.get hsm4_1 (by decide) hf_mm_28) dX16_takeProgram_20 ?_
        refine lv_iload_n hx hb dX16_takeProgram_23 rfl (lv_at hl 2 rfl) ?_
        have hi24_1 : vp_in j9_l2 CL := (in_of (show 0 ≤ j9_l2.toInt ∧ j9_l2.toInt < ((CL : Nat) : Int) by have q0 := r11_3.1; have q1 := FF.out hq1; have q2 := FF.out t11_2; omega))
        refine va_lald hx hb hK hP 1 2 rfl rfl hi24_1 dX16_takeProgram_24 ?_
        refine lv_topl (fun z24_2 ez24_2 => ?_)
        have hi25_1 : vp_in j9_l2 n2_2 := (in_of (show 0 ≤ j9_l2.toInt ∧ j9_l2.toInt < ((n2_2 : Nat) : Int) by have q0 := r11_3.1; have q1 := FF.out en2_2; have q2 := FF.out t11_2; omega))
        refine va_last hx hb hK hP hD hS 3 2 rfl rfl hi25_1 dX16_takeProgram_25 (fun H locs hP hD hS => ?_)
        have hP : va_P D vwCl [(mm, .inr (16, m4_1)), (uco, .inl (ct 2, CL, .inr (.inl g_uco))), (upg, .inl (ct 2, PL, .inr (.inl g_upg))), (q2_1, .inl (ct 2, n2_2, .inr (.inl (vp_updL j9_cq2_1 j9_l2.toNatClampNeg z24_2))))] _ := hP
        have hD : va_D A [(mm, .inr (16, m4_1)), (uco, .inl (ct 2, CL, .inr (.inl g_uco))), (upg, .inl (ct 2, PL, .inr (.inl g_upg))), (q2_1, .inl (ct 2, n2_2, .inr (.inl (vp_updL j9_cq2_1 j9_l2.toNatClampNeg z24_2))))] := hD
        obtain ⟨f25_2, ef25_2⟩ : ∃ z, z = (vp_updL j9_cq2_1 j9_l2.toNatClampNeg z24_2) := ⟨_, rfl⟩
        rw [← ef25_2] at hP hD
        obtain ⟨x26_1, ex26_1⟩ : ∃ z : Int32, z = j9_l2 + 1 := ⟨_, rfl⟩
        have r26_2 : rg x26_1 1 4000 := rg_add ex26_1 r11_3 (show rg (1 : Int32) 1 1 from rg_l (by decide)) (by decide)
        refine lv_iinc (v := x26_1) (lv' := [(2, .int x26_1), (0, .ref mm), (1, .int v0)]) hx hb dX16_takeProgram_26 hl (k := 2) rfl (by rw [ex26_1]; rfl) (by decide) rfl (fun ls hl => ?_)
        refine lv_goto (tgt := 9) hx hb dX16_takeProgram_29 (by decide) ?_
        exact ih9 x26_1 f25_2 H locs ls (rg_w r26_2 (by decide)) (show ((2147483647 : Int) - x26_1.toInt).toNat < n9 by have q0 := r11_3.2; have q1 := (eq_add ex26_1 r11_3 (show rg (1 : Int32) 1 1 from rg_l (by decide)) (by decide)); have q2 := (show (1 : Int32).toInt = 1 from by decide); have q3 := hms9; omega) (lv_sub hl [1, 2, 0] rfl) hP hD hS
  exact b9 _ (0 : Int32) (fun _ => 0) H locs ls (rg_w (show rg (0 : Int32) 0 0 from rg_l (by decide)) (by decide)) (Nat.lt_succ_self _) (lv_sub hl [1, 2, 0] rfl) hP hD hS
