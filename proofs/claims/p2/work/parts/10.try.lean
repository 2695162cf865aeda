set_option maxHeartbeats 2000000 in
theorem c_X0_put (l : Launch) (D : va_G) (ct : Nat → ClassId) (cd : Nat) (v0 : Int32) (v1 : Int32) (v2 : Int32) (v3 : Int32) (v4 : Int32) (cds : Nat) (cdg : Nat) (f0 : Nat) (p0 : Nat) (x_cd_4 : Int32) (p0r : Nat) (x_p0_1 : Int32) (g_p0r : Nat → Int64) (g_cdg : Nat → Int32) (h_x_cd_4 : rg x_cd_4 0 1073741824) (h_x_p0_1 : rg x_p0_1 0 4000) (h_g_cdg : Rg g_cdg 4000 (-1) 3001) : KV (S := Int32 × (Nat → Int64) × (Nat → Int32)) l yX0_put cX0_put 7 none 1 20 D ct [.ref cd, .int v0, .int v1, .int v2, .int v3, .int v4] [(cd, .inr (0, [.ref cds, .ref cdg, .ref f0, .ref p0, .int x_cd_4])), (p0, .inr (7, [.ref p0r, .int x_p0_1])), (p0r, .inl (ct 2, 4000, .inr (.inl g_p0r))), (cdg, .inl (ct 1, 4000, .inl g_cdg))] 0 0 (fun (u : Int32 × (Nat → Int64) × (Nat → Int32)) => match u with | (y_cd_4, k_p0r, k_cdg) => rg y_cd_4 1 1073741825 ∧ Rg k_cdg 4000 (-1) 3001) (fun (u : Int32 × (Nat → Int64) × (Nat → Int32)) => match u with | (y_cd_4, k_p0r, k_cdg) => [(cd, .inr (0, [.ref cds, .ref cdg, .ref f0, .ref p0, .int y_cd_4])), (p0, .inr (7, [.ref p0r, .int x_p0_1])), (p0r, .inl (ct 2, 4000, .inr (.inl k_p0r))), (cdg, .inl (ct 1, 4000, .inl k_cdg))]) := by
  refine KVq_of (by decide) (Nat.le_of_ble_eq_true rfl) (fun p e s m below meth c A Q C0 hA hS hP hD hQ ls hl => ?_)
  obtain ⟨hx, hb, hr, hown, hin, hml, hlocks, hn, hK, hZ⟩ := C0
  have hl : lv_has ls 7 [(0, .ref cd), (1, .int v0), (2, .int v1), (3, .int v2), (4, .int v3), (5, .int v4)] := hl
  refine lv_aload_n hx hb dX0_put_0 rfl (lv_at hl 0 rfl) ?_
  refine va_get (D := D) (ci := 0) (v := .int x_cd_4) (C := RX0) (T := TX0) (N := 5) hx hb (htX0 hn) (fun _ h => h) hown hK hP 0 rfl rfl 4 (by decide) (hn.get mw_270 rfl) (fun _ h9 => h9) rfl dX0_put_1 ?_
  refine lv_sipush (v := 4000) hx hb dX0_put_4 (by decide) ?_
  have b68 : ∀ (j68_cp0r : Nat → Int64) (j68_ccdg : Nat → Int32) (H : Heap) (locs : List Loc) (ls : Array Slot), Rg j68_ccdg 4000 (-1) 3001 → lv_has ls 7 [(0, .ref cd)] → va_P D vwCl [(cd, .inr (0, [.ref cds, .ref cdg, .ref f0, .ref p0, .int x_cd_4])), (p0, .inr (7, [.ref p0r, .int x_p0_1])), (p0r, .inl (ct 2, 4000, .inr (.inl j68_cp0r))), (cdg, .inl (ct 1, 4000, .inl j68_ccdg))] H → va_D A [(cd, .inr (0, [.ref cds, .ref cdg, .ref f0, .ref p0, .int x_cd_4])), (p0, .inr (7, [.ref p0r, .int x_p0_1])), (p0r, .inl (ct 2, 4000, .inr (.inl j68_cp0r))), (cdg, .inl (ct 1, 4000, .inl j68_ccdg))] → va_S A s.heap H locs → W p l e ({ frames := 1, cells := 0, slots := 0, locals := 20 }) s m [.ref cd, .int v0, .int v1, .int v2, .int v3, .int v4].toArray below meth c H locs 0 0 Q (F0 m 68 ls []) := by
    intro j68_cp0r j68_ccdg H locs ls hc68_1001 hl hP hD hS
    refine lv_aload_n hx hb dX0_put_68 rfl (lv_at hl 0 rfl) ?_
    refine lv_dup hx hb dX0_put_69 rfl ?_
    refine va_get (D := D) (ci := 0) (v := .int x_cd_4) (C := RX0) (T := TX0) (N := 5) hx hb (htX0 hn) (fun _ h => h) hown hK hP 0 rfl rfl 4 (by decide) (hn.get mw_270 rfl) (fun _ h9 => h9) rfl dX0_put_70 ?_
    refine lv_iconst (v := 1) hx hb dX0_put_73 (by decide) ?_
    refine lv_iadd hx hb dX0_put_74 ?_
    refine lv_topi (fun z74_1 ez74_1 => ?_)
    have r74_2 : rg z74_1 1 1073741825 := rg_add ez74_1 h_x_cd_4 (rg_l (by decide)) (by decide)
    refine va_put (D := D) (ci := 0) (v := .int z74_1) (ty := .int) (C := RX0) (T := TX0) (N := 5) hx hb (htX0 hn) (fun _ h => h) tyX0 tyX0_ok nmX0 hown hK hP hD hS 0 rfl rfl 4 (by decide) (hn.get mw_270 rfl) (fun _ h9 => h9) rfl (by decide +kernel) rfl rfl (Nat.le_of_ble_eq_true rfl) dX0_put_75 (fun H locs hP hD hS => ?_)
    have hP : va_P D vwCl [(cd, .inr (0, [.ref cds, .ref cdg, .ref f0, .ref p0, .int z74_1])), (p0, .inr (7, [.ref p0r, .int x_p0_1])), (p0r, .inl (ct 2, 4000, .inr (.inl j68_cp0r))), (cdg, .inl (ct 1, 4000, .inl j68_ccdg))] _ := hP
    have hD : va_D A [(cd, .inr (0, [.ref cds, .ref cdg, .ref f0, .ref p0, .int z74_1])), (p0, .inr (7, [.ref p0r, .int x_p0_1])), (p0r, .inl (ct 2, 4000, .inr (.inl j68_cp0r))), (cdg, .inl (ct 1, 4000, .inl j68_ccdg))] := hD
    exact endq_v hQ hx hb hr hlocks dX0_put_78 (z74_1, j68_cp0r, j68_ccdg) ⟨r74_2, hc68_1001⟩ hP hD hS [0, 1, 2, 3] rfl (by decide) rfl (Nat.le_of_ble_eq_true rfl) (Nat.le_of_ble_eq_true rfl)
  refine lv_icmp_ge (tgt := 68) hx hb dX0_put_7 (by decide) (fun c7_1 => ?_) (fun c7_1 => ?_)
  · have t7_2 := (i_le c7_1)
    have r7_3 : rg x_cd_4 4000 1073741824 := rg_leB t7_2 (show rg (4000 : Int32) 4000 4000 from (rg_l (by decide))) h_x_cd_4 (by decide)
    exact b68 g_p0r g_cdg H locs ls h_g_cdg (lv_sub hl [0] rfl) hP hD hS
  · have t7_4 := (i_nle c7_1)
    have r7_5 : rg x_cd_4 0 3999 := rg_ltA t7_4 h_x_cd_4 (show rg (4000 : Int32) 4000 4000 from (rg_l (by decide))) (by decide)
    refine lv_iload hx hb dX0_put_10 (lv_at hl 4 rfl) ?_
    refine lv_ldc (v := 65535) hx hb hown (hn.get mw_849 rfl) dX0_put_12 ?_
    refine lv_iand hx hb dX0_put_14 ?_
    refine lv_topi (fun z14_1 ez14_1 => ?_)
    have r14_2 : rg z14_1 0 65535 := rg_andr ez14_1 (rg_l (by decide)) (by decide)
    refine lv_bipush (v := 16) hx hb dX0_put_15 (by decide) ?_
    refine lv_ishl hx hb dX0_put_17 ?_
    refine lv_topi (fun z17_1 ez17_1 => ?_)
    refine lv_iload_n hx hb dX0_put_18 rfl (lv_at hl 3 rfl) ?_
    refine lv_bipush (v := 12) hx hb dX0_put_19 (by decide) ?_
    refine lv_ishl hx hb dX0_put_21 ?_
    refine lv_topi (fun z21_1 ez21_1 => ?_)
    refine lv_ior hx hb dX0_put_22 ?_
    refine lv_topi (fun z22_1 ez22_1 => ?_)
    refine lv_iload_n hx hb dX0_put_23 rfl (lv_at hl 2 rfl) ?_
    refine lv_bipush (v := 8) hx hb dX0_put_24 (by decide) ?_
    refine lv_ishl hx hb dX0_put_26 ?_
    refine lv_topi (fun z26_1 ez26_1 => ?_)
    refine lv_ior hx hb dX0_put_27 ?_
    refine lv_topi (fun z27_1 ez27_1 => ?_)
    refine lv_iload_n hx hb dX0_put_28 rfl (lv_at hl 1 rfl) ?_
    refine lv_ior hx hb dX0_put_29 ?_
    refine lv_topi (fun z29_1 ez29_1 => ?_)
    refine lv_istore (lv' := [(6, .int z29_1), (0, .ref cd), (1, .int v0), (2, .int v1), (3, .int v2), (4, .int v3), (5, .int v4)]) hx hb dX0_put_30 hl (by decide) rfl (fun ls hl => ?_)
    refine lv_aload_n hx hb dX0_put_32 rfl (lv_at hl 1 rfl) ?_
    refine va_get (D := D) (ci := 0) (v := .ref p0) (C := RX0) (T := TX0) (N := 5) hx hb (htX0 hn) (fun _ h => h) hown hK hP 0 rfl rfl 3 (by decide) (hn.get mw_269 rfl) (fun _ h9 => h9) rfl dX0_put_33 ?_
    refine va_getN (D := D) (ci := 7) (v := .ref p0r) (C := RX7) (T := TX7) (N := 2) hx hb (htX7 hn) (fun _ h => h) hown hK hP 1 rfl rfl 0 (by decide) (hn.get mw_224 rfl) (fun _ h9 => h9) rfl dX0_put_36 ?_
    refine lv_aload_n hx hb dX0_put_39 rfl (lv_at hl 1 rfl) ?_
    refine va_get (D := D) (ci := 0) (v := .int x_cd_4) (C := RX0) (T := TX0) (N := 5) hx hb (htX0 hn) (fun _ h => h) hown hK hP 0 rfl rfl 4 (by decide) (hn.get mw_270 rfl) (fun _ h9 => h9) rfl dX0_put_40 ?_
    refine lv_iload hx hb dX0_put_43 (lv_at hl 6 rfl) ?_
    refine lv_i2l hx hb dX0_put_45 rfl ?_
    refine lv_topl (fun z45_1 ez45_1 => ?_)
    have r45_2 : rl z45_1 (-2147483648) 2147483647 := rl_i2l ez45_1 (rg_any v4)
    refine lv_bipush (v := 32) hx hb dX0_put_46 (by decide) ?_
    refine lv_lshl hx hb dX0_put_48 rfl ?_
    refine lv_topl (fun z48_1 ez48_1 => ?_)
    refine lv_iload hx hb dX0_put_49 (lv_at hl 0 rfl) ?_
    refine lv_i2l hx hb dX0_put_51 rfl ?_
    refine lv_topl (fun z51_1 ez51_1 => ?_)
    have r51_2 : rl z51_1 (-2147483648) 2147483647 := rl_i2l ez51_1 (rg_any z29_1)
    refine lv_ldc2 (v := 4294967295) hx hb hown (hn.get mw_850 rfl) dX0_put_52 ?_
    refine lv_land hx hb dX0_put_55 ?_
    refine lv_topl (fun z55_1 ez55_1 => ?_)
    have r55_2 : rl z55_1 0 4294967295 := rgL_andr ez55_1 (rl_l (by decide)) (by decide)
    refine lv_lor hx hb dX0_put_56 ?_
    refine lv_topl (fun z56_1 ez56_1 => ?_)
    have hi57_1 : vp_in x_cd_4 4000 := (in_rg r7_5 (by decide))
    refine va_last hx hb hK hP hD hS 2 2 rfl rfl hi57_1 dX0_put_57 (fun H locs hP hD hS => ?_)
    have hP : va_P D vwCl [(cd, .inr (0, [.ref cds, .ref cdg, .ref f0, .ref p0, .int x_cd_4])), (p0, .inr (7, [.ref p0r, .int x_p0_1])), (p0r, .inl (ct 2, 4000, .inr (.inl (vp_updL g_p0r x_cd_4.toNatClampNeg z56_1)))), (cdg, .inl (ct 1, 4000, .inl g_cdg))] _ := hP
    have hD : va_D A [(cd, .inr (0, [.ref cds, .ref cdg, .ref f0, .ref p0, .int x_cd_4])), (p0, .inr (7, [.ref p0r, .int x_p0_1])), (p0r, .inl (ct 2, 4000, .inr (.inl (vp_updL g_p0r x_cd_4.toNatClampNeg z56_1)))), (cdg, .inl (ct 1, 4000, .inl g_cdg))] := hD
    obtain ⟨f57_2, ef57_2⟩ : ∃ z, z = (vp_updL g_p0r x_cd_4.toNatClampNeg z56_1) := ⟨_, rfl⟩
    rw [← ef57_2] at hP hD
    refine lv_aload_n hx hb dX0_put_58 rfl (lv_at hl 1 rfl) ?_
    refine va_get (D := D) (ci := 0) (v := .ref cdg) (C := RX0) (T := TX0) (N := 5) hx hb (htX0 hn) (fun _ h => h) hown hK hP 0 rfl rfl 1 (by decide) (hn.get mw_267 rfl) (fun _ h9 => h9) rfl dX0_put_59 ?_
    refine lv_aload_n hx hb dX0_put_62 rfl (lv_at hl 1 rfl) ?_
    refine va_get (D := D) (ci := 0) (v := .int x_cd_4) (C := RX0) (T := TX0) (N := 5) hx hb (htX0 hn) (fun _ h => h) hown hK hP 0 rfl rfl 4 (by decide) (hn.get mw_270 rfl) (fun _ h9 => h9) rfl dX0_put_63 ?_
    refine lv_iconst (v := (-1)) hx hb dX0_put_66 (by decide) ?_
    have hi67_1 : vp_in x_cd_4 4000 := (in_rg r7_5 (by decide))
    refine va_iast hx hb hK hP hD hS 3 1 rfl rfl hi67_1 dX0_put_67 (fun H locs hP hD hS => ?_)
    have hP : va_P D vwCl [(cd, .inr (0, [.ref cds, .ref cdg, .ref f0, .ref p0, .int x_cd_4])), (p0, .inr (7, [.ref p0r, .int x_p0_1])), (p0r, .inl (ct 2, 4000, .inr (.inl f57_2))), (cdg, .inl (ct 1, 4000, .inl (upd g_cdg x_cd_4.toNatClampNeg (-1))))] _ := hP
    have hD : va_D A [(cd, .inr (0, [.ref cds, .ref cdg, .ref f0, .ref p0, .int x_cd_4])), (p0, .inr (7, [.ref p0r, .int x_p0_1])), (p0r, .inl (ct 2, 4000, .inr (.inl f57_2))), (cdg, .inl (ct 1, 4000, .inl (upd g_cdg x_cd_4.toNatClampNeg (-1))))] := hD
    obtain ⟨f67_2, ef67_2⟩ : ∃ z, z = (upd g_cdg x_cd_4.toNatClampNeg (-1)) := ⟨_, rfl⟩
    rw [← ef67_2] at hP hD
    have hc67_3 : Rg f67_2 4000 (-1) 3001 := Rg_upd ef67_2 h_g_cdg (rg_w (rg_l (by decide)) (by decide))
    exact b68 f57_2 f67_2 H locs ls hc67_3 (lv_sub hl [1] rfl) hP hD hS
set_option maxHeartbeats 2000000 in
theorem c_X0_slot (l : Launch) (D : va_G) (ct : Nat → ClassId) (v0 : Int32)  : KI (S := Unit) l yX0_slot cX0_slot 1 (some .int) 1 20 D ct [.int v0] [] 0 0 (fun (r : Int32) (_ : Unit) => True) (fun (_ : Unit) => []) := by
  refine KIq_of (by decide) (Nat.le_of_ble_eq_true rfl) (fun p e s m below meth c A Q C0 hA hS hP hD hQ ls hl => ?_)
  obtain ⟨hx, hb, hr, hown, hin, hml, hlocks, hn, hK, hZ⟩ := C0
  have hl : lv_has ls 1 [(0, .int v0)] := hl
  refine lv_bipush (v := (-8)) hx hb dX0_slot_0 (by decide) ?_
  refine lv_bipush (v := 8) hx hb dX0_slot_2 (by decide) ?_
  refine lv_iload_n hx hb dX0_slot_4 rfl (lv_at hl 0 rfl) ?_
  refine lv_imul hx hb dX0_slot_5 ?_
  refine lv_topi (fun z5_1 ez5_1 => ?_)
  refine lv_isub hx hb dX0_slot_6 ?_
  refine lv_topi (fun z6_1 ez6_1 => ?_)
  exact endq_i hQ hx hb hr hlocks dX0_slot_7 rfl () trivial hP hD hS [] rfl (by decide) rfl (Nat.le_of_ble_eq_true rfl) (Nat.le_of_ble_eq_true rfl)
set_option maxHeartbeats 2000000 in
theorem c_X0_codePush (l : Launch) (D : va_G) (ct : Nat → ClassId) (cd : Nat) (v0 : Int32) (cds : Nat) (cdg : Nat) (f0 : Nat) (p0 : Nat) (x_cd_4 : Int32) (p0r : Nat) (x_p0_1 : Int32) (g_p0r : Nat → Int64) (g_cdg : Nat → Int32) (h_x_cd_4 : rg x_cd_4 0 1073741824) (h_x_p0_1 : rg x_p0_1 0 4000) (h_g_cdg : Rg g_cdg 4000 (-1) 3001) : KV (S := Int32 × (Nat → Int64) × (Nat → Int32)) l yX0_codePush cX0_codePush 2 none 2 46 D ct [.ref cd, .int v0] [(cd, .inr (0, [.ref cds, .ref cdg, .ref f0, .ref p0, .int x_cd_4])), (p0, .inr (7, [.ref p0r, .int x_p0_1])), (p0r, .inl (ct 2, 4000, .inr (.inl g_p0r))), (cdg, .inl (ct 1, 4000, .inl g_cdg))] 0 0 (fun (u : Int32 × (Nat → Int64) × (Nat → Int32)) => match u with | (y_cd_4, k_p0r, k_cdg) => rg y_cd_4 1 1073741825 ∧ Rg k_cdg 4000 (-1) 3001) (fun (u : Int32 × (Nat → Int64) × (Nat → Int32)) => match u with | (y_cd_4, k_p0r, k_cdg) => [(cd, .inr (0, [.ref cds, .ref cdg, .ref f0, .ref p0, .int y_cd_4])), (p0, .inr (7, [.ref p0r, .int x_p0_1])), (p0r, .inl (ct 2, 4000, .inr (.inl k_p0r))), (cdg, .inl (ct 1, 4000, .inl k_cdg))]) := by
  refine KVq_of (by decide) (Nat.le_of_ble_eq_true rfl) (fun p e s m below meth c A Q C0 hA hS hP hD hQ ls hl => ?_)
  obtain ⟨hx, hb, hr, hown, hin, hml, hlocks, hn, hK, hZ⟩ := C0
  have hl : lv_has ls 2 [(0, .ref cd), (1, .int v0)] := hl
  refine lv_aload_n hx hb dX0_codePush_0 rfl (lv_at hl 0 rfl) ?_
  refine lv_bipush (v := 123) hx hb dX0_codePush_1 (by decide) ?_
  refine lv_bipush (v := 10) hx hb dX0_codePush_3 (by decide) ?_
  refine lv_iconst (v := 0) hx hb dX0_codePush_5 (by decide) ?_
  refine lv_iload_n hx hb dX0_codePush_6 rfl (lv_at hl 1 rfl) ?_
  refine go_i (k1 := 0) (n1 := 0) (wr := [(cd, .inr (0, [.ref cds, .ref cdg, .ref f0, .ref p0, .int x_cd_4])), (p0, .inr (7, [.ref p0r, .int x_p0_1])), (p0r, .inl (ct 2, 4000, .inr (.inl g_p0r))), (cdg, .inl (ct 1, 4000, .inl g_cdg))]) [] [0, 1, 2, 3] (rn_S (As := [.int v0]) (rest := [.int 0, .int 10, .int 123, .ref cd]) (c_X0_slot l D ct v0  _) (cb_of (n := 1) hn mw_869 mw_9 mw_867 mhX0_slot ⟨(Nat.le_of_ble_eq_true rfl), (Nat.le_of_ble_eq_true rfl)⟩) hx hb hml hown hn hK hZ hS mw_868 rfl hl.1 (Nat.le_of_ble_eq_true rfl) dX0_codePush_7 ⟨(Nat.le_of_ble_eq_true rfl), (Nat.le_of_ble_eq_true rfl)⟩) hP hD hS hA rfl rfl (by decide) (by decide) (by decide) (Nat.le_of_ble_eq_true rfl) (Nat.le_of_ble_eq_true rfl) (fun r7_1 u7_2 H locs hp7_3 hP hD hS => ?_)
  have hP : va_P D vwCl [(cd, .inr (0, [.ref cds, .ref cdg, .ref f0, .ref p0, .int x_cd_4])), (p0, .inr (7, [.ref p0r, .int x_p0_1])), (p0r, .inl (ct 2, 4000, .inr (.inl g_p0r))), (cdg, .inl (ct 1, 4000, .inl g_cdg))] _ := hP
  have hD : va_D A [(cd, .inr (0, [.ref cds, .ref cdg, .ref f0, .ref p0, .int x_cd_4])), (p0, .inr (7, [.ref p0r, .int x_p0_1])), (p0r, .inl (ct 2, 4000, .inr (.inl g_p0r))), (cdg, .inl (ct 1, 4000, .inl g_cdg))] := hD
  refine lv_iconst (v := 0) hx hb dX0_codePush_10 (by decide) ?_
  refine go_v (k1 := 0) (n1 := 0) (wr := []) [0, 1, 2, 3] [] (rn_V (As := [.int 123, .int 10, .int 0, .int r7_1, .int 0]) (rest := []) (c_X0_put l D ct cd (123 : Int32) (10 : Int32) (0 : Int32) r7_1 (0 : Int32) cds cdg f0 p0 x_cd_4 p0r x_p0_1 g_p0r g_cdg h_x_cd_4 h_x_p0_1 h_g_cdg _) (cb_of (n := 5) hn mw_848 mw_9 mw_845 mhX0_put ⟨(Nat.le_of_ble_eq_true rfl), (Nat.le_of_ble_eq_true rfl)⟩) hx hb hml hown hn hK hZ hS mw_847 mw_s75 (ci := 0) (q0 := 0) rfl rfl rfl rfl hl.1 (Nat.le_of_ble_eq_true rfl) dX0_codePush_11 ⟨(Nat.le_of_ble_eq_true rfl), (Nat.le_of_ble_eq_true rfl)⟩) hP hD hS hA rfl rfl (by decide) (by decide) (by decide) (Nat.le_of_ble_eq_true rfl) (Nat.le_of_ble_eq_true rfl) (fun u11_2 H locs hp11_3 hP hD hS => ?_)
  obtain ⟨y_cd_411_4, k_p0r11_5, k_cdg11_6⟩ := u11_2
  obtain ⟨hp11_7, hp11_8⟩ := hp11_3
  have hp11_7 : rg y_cd_411_4 1 1073741825 := hp11_7
  have hP : va_P D vwCl [(cd, .inr (0, [.ref cds, .ref cdg, .ref f0, .ref p0, .int y_cd_411_4])), (p0, .inr (7, [.ref p0r, .int x_p0_1])), (p0r, .inl (ct 2, 4000, .inr (.inl k_p0r11_5))), (cdg, .inl (ct 1, 4000, .inl k_cdg11_6))] _ := hP
  have hD : va_D A [(cd, .inr (0, [.ref cds, .ref cdg, .ref f0, .ref p0, .int y_cd_411_4])), (p0, .inr (7, [.ref p0r, .int x_p0_1])), (p0r, .inl (ct 2, 4000, .inr (.inl k_p0r11_5))), (cdg, .inl (ct 1, 4000, .inl k_cdg11_6))] := hD
  exact endq_v hQ hx hb hr hlocks dX0_codePush_14 (y_cd_411_4, k_p0r11_5, k_cdg11_6) ⟨hp11_7, hp11_8⟩ hP hD hS [0, 1, 2, 3] rfl (by decide) rfl (Nat.le_of_ble_eq_true rfl) (Nat.le_of_ble_eq_true rfl)
set_option maxHeartbeats 2000000 in
theorem c_X0_readCode (l : Launch) (D : va_G) (ct : Nat → ClassId) (v0 : Int32)  : KI (S := Unit) l yX0_readCode cX0_readCode 1 (some .int) 1 20 D ct [.int v0] [] 0 0 (fun (r : Int32) (_ : Unit) => rg r 32 48) (fun (_ : Unit) => []) := by
  refine KIq_of (by decide) (Nat.le_of_ble_eq_true rfl) (fun p e s m below meth c A Q C0 hA hS hP hD hQ ls hl => ?_)
  obtain ⟨hx, hb, hr, hown, hin, hml, hlocks, hn, hK, hZ⟩ := C0
  have hl : lv_has ls 1 [(0, .int v0)] := hl
  refine lv_iload_n hx hb dX0_readCode_0 rfl (lv_at hl 0 rfl) ?_
  refine lv_iconst (v := 4) hx hb dX0_readCode_1 (by decide) ?_
  refine lv_icmp_ne (tgt := 10) hx hb dX0_readCode_2 (by decide) (fun c2_1 => ?_) (fun c2_1 => ?_)
  · have t2_2 := (i_ne c2_1)
    refine lv_iload_n hx hb dX0_readCode_10 rfl (lv_at hl 0 rfl) ?_
    refine lv_iconst (v := 2) hx hb dX0_readCode_11 (by decide) ?_
    refine lv_icmp_ne (tgt := 20) hx hb dX0_readCode_12 (by decide) (fun c12_1 => ?_) (fun c12_1 => ?_)
    · have t12_2 := (i_ne c12_1)
      refine lv_bipush (v := 48) hx hb dX0_readCode_20 (by decide) ?_
      exact endq_i hQ hx hb hr hlocks dX0_readCode_22 rfl () (rg_w (rg_l (by decide)) (by decide)) hP hD hS [] rfl (by decide) rfl (Nat.le_of_ble_eq_true rfl) (Nat.le_of_ble_eq_true rfl)
    · have t22_1 := (i_nne c12_1)
      have r22_2 : rg v0 2 2 := rg_eqA t22_1 (rg_any v0) (show rg (2 : Int32) 2 2 from (rg_l (by decide))) (by decide)
      refine lv_bipush (v := 40) hx hb dX0_readCode_15 (by decide) ?_
      refine lv_goto (tgt := 22) hx hb dX0_readCode_17 (by decide) ?_
      exact endq_i hQ hx hb hr hlocks dX0_readCode_22 rfl () (rg_w (rg_l (by decide)) (by decide)) hP hD hS [] rfl (by decide) rfl (Nat.le_of_ble_eq_true rfl) (Nat.le_of_ble_eq_true rfl)
  · have t22_1 := (i_nne c2_1)
    have r22_2 : rg v0 4 4 := rg_eqA t22_1 (rg_any v0) (show rg (4 : Int32) 4 4 from (rg_l (by decide))) (by decide)
    refine lv_bipush (v := 32) hx hb dX0_readCode_5 (by decide) ?_
    refine lv_goto (tgt := 22) hx hb dX0_readCode_7 (by decide) ?_
    exact endq_i hQ hx hb hr hlocks dX0_readCode_22 rfl () (rg_w (rg_l (by decide)) (by decide)) hP hD hS [] rfl (by decide) rfl (Nat.le_of_ble_eq_true rfl) (Nat.le_of_ble_eq_true rfl)
set_option maxHeartbeats 2000000 in
theorem c_X0_codeReadInBody (l : Launch) (D : va_G) (ct : Nat → ClassId) (cd : Nat) (v0 : Int32) (v1 : Int32) (cds : Nat) (cdg : Nat) (f0 : Nat) (p0 : Nat) (x_cd_4 : Int32) (p0r : Nat) (x_p0_1 : Int32) (g_p0r : Nat → Int64) (g_cdg : Nat → Int32) (h_x_cd_4 : rg x_cd_4 0 1073741824) (h_x_p0_1 : rg x_p0_1 0 4000) (h_g_cdg : Rg g_cdg 4000 (-1) 3001) : KV (S := Int32 × (Nat → Int64) × (Nat → Int32)) l yX0_codeReadInBody cX0_codeReadInBody 3 none 3 67 D ct [.ref cd, .int v0, .int v1] [(cd, .inr (0, [.ref cds, .ref cdg, .ref f0, .ref p0, .int x_cd_4])), (p0, .inr (7, [.ref p0r, .int x_p0_1])), (p0r, .inl (ct 2, 4000, .inr (.inl g_p0r))), (cdg, .inl (ct 1, 4000, .inl g_cdg))] 0 0 (fun (u : Int32 × (Nat → Int64) × (Nat → Int32)) => match u with | (y_cd_4, k_p0r, k_cdg) => rg y_cd_4 1 1073741825 ∧ Rg k_cdg 4000 (-1) 3001) (fun (u : Int32 × (Nat → Int64) × (Nat → Int32)) => match u with | (y_cd_4, k_p0r, k_cdg) => [(cd, .inr (0, [.ref cds, .ref cdg, .ref f0, .ref p0, .int y_cd_4])), (p0, .inr (7, [.ref p0r, .int x_p0_1])), (p0r, .inl (ct 2, 4000, .inr (.inl k_p0r))), (cdg, .inl (ct 1, 4000, .inl k_cdg))]) := by
  refine KVq_of (by decide) (Nat.le_of_ble_eq_true rfl) (fun p e s m below meth c A Q C0 hA hS hP hD hQ ls hl => ?_)
  obtain ⟨hx, hb, hr, hown, hin, hml, hlocks, hn, hK, hZ⟩ := C0
  have hl : lv_has ls 3 [(0, .ref cd), (1, .int v0), (2, .int v1)] := hl
  refine lv_aload_n hx hb dX0_codeReadInBody_0 rfl (lv_at hl 0 rfl) ?_
  refine lv_iload_n hx hb dX0_codeReadInBody_1 rfl (lv_at hl 2 rfl) ?_
  refine go_v (k1 := 0) (n1 := 0) (wr := []) [0, 1, 2, 3] [] (rn_V (As := [.int v1]) (rest := []) (c_X0_codePush l D ct cd v1 cds cdg f0 p0 x_cd_4 p0r x_p0_1 g_p0r g_cdg h_x_cd_4 h_x_p0_1 h_g_cdg _) (cb_of (n := 1) hn mw_866 mw_9 mw_863 mhX0_codePush ⟨(Nat.le_of_ble_eq_true rfl), (Nat.le_of_ble_eq_true rfl)⟩) hx hb hml hown hn hK hZ hS mw_865 mw_s79 (ci := 0) (q0 := 0) rfl rfl rfl rfl hl.1 (Nat.le_of_ble_eq_true rfl) dX0_codeReadInBody_2 ⟨(Nat.le_of_ble_eq_true rfl), (Nat.le_of_ble_eq_true rfl)⟩) hP hD hS hA rfl rfl (by decide) (by decide) (by decide) (Nat.le_of_ble_eq_true rfl) (Nat.le_of_ble_eq_true rfl) (fun u2_2 H locs hp2_3 hP hD hS => ?_)
  obtain ⟨y_cd_42_4, k_p0r2_5, k_cdg2_6⟩ := u2_2
  obtain ⟨hp2_7, hp2_8⟩ := hp2_3
  have hp2_7 : rg y_cd_42_4 1 1073741825 := hp2_7
  have hP : va_P D vwCl [(cd, .inr (0, [.ref cds, .ref cdg, .ref f0, .ref p0, .int y_cd_42_4])), (p0, .inr (7, [.ref p0r, .int x_p0_1])), (p0r, .inl (ct 2, 4000, .inr (.inl k_p0r2_5))), (cdg, .inl (ct 1, 4000, .inl k_cdg2_6))] _ := hP
  have hD : va_D A [(cd, .inr (0, [.ref cds, .ref cdg, .ref f0, .ref p0, .int y_cd_42_4])), (p0, .inr (7, [.ref p0r, .int x_p0_1])), (p0r, .inl (ct 2, 4000, .inr (.inl k_p0r2_5))), (cdg, .inl (ct 1, 4000, .inl k_cdg2_6))] := hD
  refine lv_aload_n hx hb dX0_codeReadInBody_5 rfl (lv_at hl 0 rfl) ?_
  refine lv_iconst (v := 1) hx hb dX0_codeReadInBody_6 (by decide) ?_
  refine go_i (k1 := 0) (n1 := 0) (wr := [(cd, .inr (0, [.ref cds, .ref cdg, .ref f0, .ref p0, .int y_cd_42_4])), (p0, .inr (7, [.ref p0r, .int x_p0_1])), (p0r, .inl (ct 2, 4000, .inr (.inl k_p0r2_5))), (cdg, .inl (ct 1, 4000, .inl k_cdg2_6))]) [] [0, 1, 2, 3] (rn_S (As := [.int 1]) (rest := [.ref cd]) (c_X0_readCode l D ct (1 : Int32)  _) (cb_of (n := 1) hn mw_888 mw_9 mw_886 mhX0_readCode ⟨(Nat.le_of_ble_eq_true rfl), (Nat.le_of_ble_eq_true rfl)⟩) hx hb hml hown hn hK hZ hS mw_887 rfl hl.1 (Nat.le_of_ble_eq_true rfl) dX0_codeReadInBody_7 ⟨(Nat.le_of_ble_eq_true rfl), (Nat.le_of_ble_eq_true rfl)⟩) hP hD hS hA rfl rfl (by decide) (by decide) (by decide) (Nat.le_of_ble_eq_true rfl) (Nat.le_of_ble_eq_true rfl) (fun r7_1 u7_2 H locs hp7_3 hP hD hS => ?_)
  have hp7_4 := hp7_3
  have hp7_4 : rg r7_1 32 48 := hp7_4
  have hP : va_P D vwCl [(cd, .inr (0, [.ref cds, .ref cdg, .ref f0, .ref p0, .int y_cd_42_4])), (p0, .inr (7, [.ref p0r, .int x_p0_1])), (p0r, .inl (ct 2, 4000, .inr (.inl k_p0r2_5))), (cdg, .inl (ct 1, 4000, .inl k_cdg2_6))] _ := hP
  have hD : va_D A [(cd, .inr (0, [.ref cds, .ref cdg, .ref f0, .ref p0, .int y_cd_42_4])), (p0, .inr (7, [.ref p0r, .int x_p0_1])), (p0r, .inl (ct 2, 4000, .inr (.inl k_p0r2_5))), (cdg, .inl (ct 1, 4000, .inl k_cdg2_6))] := hD
  refine lv_iconst (v := 0) hx hb dX0_codeReadInBody_10 (by decide) ?_
  refine lv_iconst (v := 0) hx hb dX0_codeReadInBody_11 (by decide) ?_
  refine lv_iconst (v := 0) hx hb dX0_codeReadInBody_12 (by decide) ?_
  refine lv_bipush (v := 14) hx hb dX0_codeReadInBody_13 (by decide) ?_
  refine go_v (k1 := 0) (n1 := 0) (wr := []) [0, 1, 2, 3] [] (rn_V (As := [.int r7_1, .int 0, .int 0, .int 0, .int 14]) (rest := []) (c_X0_put l D ct cd r7_1 (0 : Int32) (0 : Int32) (0 : Int32) (14 : Int32) cds cdg f0 p0 y_cd_42_4 p0r x_p0_1 k_p0r2_5 k_cdg2_6 (rg_of (show 0 ≤ y_cd_42_4.toInt ∧ y_cd_42_4.toInt ≤ 1073741824 by have q0 := hp2_7.1; have q1 := hp2_7.2; omega)) h_x_p0_1 hp2_8 _) (cb_of (n := 5) hn mw_848 mw_9 mw_845 mhX0_put ⟨(Nat.le_of_ble_eq_true rfl), (Nat.le_of_ble_eq_true rfl)⟩) hx hb hml hown hn hK hZ hS mw_847 mw_s75 (ci := 0) (q0 := 0) rfl rfl rfl rfl hl.1 (Nat.le_of_ble_eq_true rfl) dX0_codeReadInBody_15 ⟨(Nat.le_of_ble_eq_true rfl), (Nat.le_of_ble_eq_true rfl)⟩) hP hD hS hA rfl rfl (by decide) (by decide) (by decide) (Nat.le_of_ble_eq_true rfl) (Nat.le_of_ble_eq_true rfl) (fun u15_2 H locs hp15_3 hP hD hS => ?_)
  obtain ⟨y_cd_415_4, k_p0r15_5, k_cdg15_6⟩ := u15_2
  obtain ⟨hp15_7, hp15_8⟩ := hp15_3
  have hp15_7 : rg y_cd_415_4 1 1073741825 := hp15_7
  have hP : va_P D vwCl [(cd, .inr (0, [.ref cds, .ref cdg, .ref f0, .ref p0, .int y_cd_415_4])), (p0, .inr (7, [.ref p0r, .int x_p0_1])), (p0r, .inl (ct 2, 4000, .inr (.inl k_p0r15_5))), (cdg, .inl (ct 1, 4000, .inl k_cdg15_6))] _ := hP
  have hD : va_D A [(cd, .inr (0, [.ref cds, .ref cdg, .ref f0, .ref p0, .int y_cd_415_4])), (p0, .inr (7, [.ref p0r, .int x_p0_1])), (p0r, .inl (ct 2, 4000, .inr (.inl k_p0r15_5))), (cdg, .inl (ct 1, 4000, .inl k_cdg15_6))] := hD
  refine lv_aload_n hx hb dX0_codeReadInBody_18 rfl (lv_at hl 0 rfl) ?_
  refine lv_bipush (v := 84) hx hb dX0_codeReadInBody_19 (by decide) ?_
  refine lv_iconst (v := 0) hx hb dX0_codeReadInBody_21 (by decide) ?_
  refine lv_iconst (v := 0) hx hb dX0_codeReadInBody_22 (by decide) ?_
  refine lv_iconst (v := 0) hx hb dX0_codeReadInBody_23 (by decide) ?_
  refine lv_bipush (v := 15) hx hb dX0_codeReadInBody_24 (by decide) ?_
  refine go_v (k1 := 0) (n1 := 0) (wr := []) [0, 1, 2, 3] [] (rn_V (As := [.int 84, .int 0, .int 0, .int 0, .int 15]) (rest := []) (c_X0_put l D ct cd (84 : Int32) (0 : Int32) (0 : Int32) (0 : Int32) (15 : Int32) cds cdg f0 p0 y_cd_415_4 p0r x_p0_1 k_p0r15_5 k_cdg15_6 (rg_of (show 0 ≤ y_cd_415_4.toInt ∧ y_cd_415_4.toInt ≤ 1073741824 by have q0 := hp15_7.1; have q1 := hp15_7.2; omega)) h_x_p0_1 hp15_8 _) (cb_of (n := 5) hn mw_848 mw_9 mw_845 mhX0_put ⟨(Nat.le_of_ble_eq_true rfl), (Nat.le_of_ble_eq_true rfl)⟩) hx hb hml hown hn hK hZ hS mw_847 mw_s75 (ci := 0) (q0 := 0) rfl rfl rfl rfl hl.1 (Nat.le_of_ble_eq_true rfl) dX0_codeReadInBody_26 ⟨(Nat.le_of_ble_eq_true rfl), (Nat.le_of_ble_eq_true rfl)⟩) hP hD hS hA rfl rfl (by decide) (by decide) (by decide) (Nat.le_of_ble_eq_true rfl) (Nat.le_of_ble_eq_true rfl) (fun u26_2 H locs hp26_3 hP hD hS => ?_)
  obtain ⟨y_cd_426_4, k_p0r26_5, k_cdg26_6⟩ := u26_2
  obtain ⟨hp26_7, hp26_8⟩ := hp26_3
  have hp26_7 : rg y_cd_426_4 1 1073741825 := hp26_7
  have hP : va_P D vwCl [(cd, .inr (0, [.ref cds, .ref cdg, .ref f0, .ref p0, .int y_cd_426_4])), (p0, .inr (7, [.ref p0r, .int x_p0_1])), (p0r, .inl (ct 2, 4000, .inr (.inl k_p0r26_5))), (cdg, .inl (ct 1, 4000, .inl k_cdg26_6))] _ := hP
  have hD : va_D A [(cd, .inr (0, [.ref cds, .ref cdg, .ref f0, .ref p0, .int y_cd_426_4])), (p0, .inr (7, [.ref p0r, .int x_p0_1])), (p0r, .inl (ct 2, 4000, .inr (.inl k_p0r26_5))), (cdg, .inl (ct 1, 4000, .inl k_cdg26_6))] := hD
  refine lv_aload_n hx hb dX0_codeReadInBody_29 rfl (lv_at hl 0 rfl) ?_
  refine lv_bipush (v := 100) hx hb dX0_codeReadInBody_30 (by decide) ?_
  refine lv_iconst (v := 0) hx hb dX0_codeReadInBody_32 (by decide) ?_
  refine lv_iconst (v := 0) hx hb dX0_codeReadInBody_33 (by decide) ?_
  refine lv_iconst (v := 0) hx hb dX0_codeReadInBody_34 (by decide) ?_
  refine lv_iconst (v := 2) hx hb dX0_codeReadInBody_35 (by decide) ?_
  refine go_v (k1 := 0) (n1 := 0) (wr := []) [0, 1, 2, 3] [] (rn_V (As := [.int 100, .int 0, .int 0, .int 0, .int 2]) (rest := []) (c_X0_put l D ct cd (100 : Int32) (0 : Int32) (0 : Int32) (0 : Int32) (2 : Int32) cds cdg f0 p0 y_cd_426_4 p0r x_p0_1 k_p0r26_5 k_cdg26_6 (rg_of (show 0 ≤ y_cd_426_4.toInt ∧ y_cd_426_4.toInt ≤ 1073741824 by have q0 := hp26_7.1; have q1 := hp26_7.2; omega)) h_x_p0_1 hp26_8 _) (cb_of (n := 5) hn mw_848 mw_9 mw_845 mhX0_put ⟨(Nat.le_of_ble_eq_true rfl), (Nat.le_of_ble_eq_true rfl)⟩) hx hb hml hown hn hK hZ hS mw_847 mw_s75 (ci := 0) (q0 := 0) rfl rfl rfl rfl hl.1 (Nat.le_of_ble_eq_true rfl) dX0_codeReadInBody_36 ⟨(Nat.le_of_ble_eq_true rfl), (Nat.le_of_ble_eq_true rfl)⟩) hP hD hS hA rfl rfl (by decide) (by decide) (by decide) (Nat.le_of_ble_eq_true rfl) (Nat.le_of_ble_eq_true rfl) (fun u36_2 H locs hp36_3 hP hD hS => ?_)
  obtain ⟨y_cd_436_4, k_p0r36_5, k_cdg36_6⟩ := u36_2
  obtain ⟨hp36_7, hp36_8⟩ := hp36_3
  have hp36_7 : rg y_cd_436_4 1 1073741825 := hp36_7
  have hP : va_P D vwCl [(cd, .inr (0, [.ref cds, .ref cdg, .ref f0, .ref p0, .int y_cd_436_4])), (p0, .inr (7, [.ref p0r, .int x_p0_1])), (p0r, .inl (ct 2, 4000, .inr (.inl k_p0r36_5))), (cdg, .inl (ct 1, 4000, .inl k_cdg36_6))] _ := hP
  have hD : va_D A [(cd, .inr (0, [.ref cds, .ref cdg, .ref f0, .ref p0, .int y_cd_436_4])), (p0, .inr (7, [.ref p0r, .int x_p0_1])), (p0r, .inl (ct 2, 4000, .inr (.inl k_p0r36_5))), (cdg, .inl (ct 1, 4000, .inl k_cdg36_6))] := hD
  refine lv_aload_n hx hb dX0_codeReadInBody_39 rfl (lv_at hl 0 rfl) ?_
  refine lv_bipush (v := 121) hx hb dX0_codeReadInBody_40 (by decide) ?_
  refine lv_bipush (v := 7) hx hb dX0_codeReadInBody_42 (by decide) ?_
  refine lv_bipush (v := 10) hx hb dX0_codeReadInBody_44 (by decide) ?_
  refine lv_iload_n hx hb dX0_codeReadInBody_46 rfl (lv_at hl 2 rfl) ?_
  refine go_i (k1 := 0) (n1 := 0) (wr := [(cd, .inr (0, [.ref cds, .ref cdg, .ref f0, .ref p0, .int y_cd_436_4])), (p0, .inr (7, [.ref p0r, .int x_p0_1])), (p0r, .inl (ct 2, 4000, .inr (.inl k_p0r36_5))), (cdg, .inl (ct 1, 4000, .inl k_cdg36_6))]) [] [0, 1, 2, 3] (rn_S (As := [.int v1]) (rest := [.int 10, .int 7, .int 121, .ref cd]) (c_X0_slot l D ct v1  _) (cb_of (n := 1) hn mw_869 mw_9 mw_867 mhX0_slot ⟨(Nat.le_of_ble_eq_true rfl), (Nat.le_of_ble_eq_true rfl)⟩) hx hb hml hown hn hK hZ hS mw_868 rfl hl.1 (Nat.le_of_ble_eq_true rfl) dX0_codeReadInBody_47 ⟨(Nat.le_of_ble_eq_true rfl), (Nat.le_of_ble_eq_true rfl)⟩) hP hD hS hA rfl rfl (by decide) (by decide) (by decide) (Nat.le_of_ble_eq_true rfl) (Nat.le_of_ble_eq_true rfl) (fun r47_1 u47_2 H locs hp47_3 hP hD hS => ?_)
  have hP : va_P D vwCl [(cd, .inr (0, [.ref cds, .ref cdg, .ref f0, .ref p0, .int y_cd_436_4])), (p0, .inr (7, [.ref p0r, .int x_p0_1])), (p0r, .inl (ct 2, 4000, .inr (.inl k_p0r36_5))), (cdg, .inl (ct 1, 4000, .inl k_cdg36_6))] _ := hP
  have hD : va_D A [(cd, .inr (0, [.ref cds, .ref cdg, .ref f0, .ref p0, .int y_cd_436_4])), (p0, .inr (7, [.ref p0r, .int x_p0_1])), (p0r, .inl (ct 2, 4000, .inr (.inl k_p0r36_5))), (cdg, .inl (ct 1, 4000, .inl k_cdg36_6))] := hD
  refine lv_iconst (v := 0) hx hb dX0_codeReadInBody_50 (by decide) ?_
  refine go_v (k1 := 0) (n1 := 0) (wr := []) [0, 1, 2, 3] [] (rn_V (As := [.int 121, .int 7, .int 10, .int r47_1, .int 0]) (rest := []) (c_X0_put l D ct cd (121 : Int32) (7 : Int32) (10 : Int32) r47_1 (0 : Int32) cds cdg f0 p0 y_cd_436_4 p0r x_p0_1 k_p0r36_5 k_cdg36_6 (rg_of (show 0 ≤ y_cd_436_4.toInt ∧ y_cd_436_4.toInt ≤ 1073741824 by have q0 := hp36_7.1; have q1 := hp36_7.2; omega)) h_x_p0_1 hp36_8 _) (cb_of (n := 5) hn mw_848 mw_9 mw_845 mhX0_put ⟨(Nat.le_of_ble_eq_true rfl), (Nat.le_of_ble_eq_true rfl)⟩) hx hb hml hown hn hK hZ hS mw_847 mw_s75 (ci := 0) (q0 := 0) rfl rfl rfl rfl hl.1 (Nat.le_of_ble_eq_true rfl) dX0_codeReadInBody_51 ⟨(Nat.le_of_ble_eq_true rfl), (Nat.le_of_ble_eq_true rfl)⟩) hP hD hS hA rfl rfl (by decide) (by decide) (by decide) (Nat.le_of_ble_eq_true rfl) (Nat.le_of_ble_eq_true rfl) (fun u51_2 H locs hp51_3 hP hD hS => ?_)
  obtain ⟨y_cd_451_4, k_p0r51_5, k_cdg51_6⟩ := u51_2
  obtain ⟨hp51_7, hp51_8⟩ := hp51_3
  have hp51_7 : rg y_cd_451_4 1 1073741825 := hp51_7
  have hP : va_P D vwCl [(cd, .inr (0, [.ref cds, .ref cdg, .ref f0, .ref p0, .int y_cd_451_4])), (p0, .inr (7, [.ref p0r, .int x_p0_1])), (p0r, .inl (ct 2, 4000, .inr (.inl k_p0r51_5))), (cdg, .inl (ct 1, 4000, .inl k_cdg51_6))] _ := hP
  have hD : va_D A [(cd, .inr (0, [.ref cds, .ref cdg, .ref f0, .ref p0, .int y_cd_451_4])), (p0, .inr (7, [.ref p0r, .int x_p0_1])), (p0r, .inl (ct 2, 4000, .inr (.inl k_p0r51_5))), (cdg, .inl (ct 1, 4000, .inl k_cdg51_6))] := hD
  refine lv_aload_n hx hb dX0_codeReadInBody_54 rfl (lv_at hl 0 rfl) ?_
  refine lv_bipush (v := 12) hx hb dX0_codeReadInBody_55 (by decide) ?_
  refine lv_iconst (v := 0) hx hb dX0_codeReadInBody_57 (by decide) ?_
  refine lv_bipush (v := 7) hx hb dX0_codeReadInBody_58 (by decide) ?_
  refine lv_iconst (v := 0) hx hb dX0_codeReadInBody_60 (by decide) ?_
  refine lv_iconst (v := 0) hx hb dX0_codeReadInBody_61 (by decide) ?_
  refine go_v (k1 := 0) (n1 := 0) (wr := []) [0, 1, 2, 3] [] (rn_V (As := [.int 12, .int 0, .int 7, .int 0, .int 0]) (rest := []) (c_X0_put l D ct cd (12 : Int32) (0 : Int32) (7 : Int32) (0 : Int32) (0 : Int32) cds cdg f0 p0 y_cd_451_4 p0r x_p0_1 k_p0r51_5 k_cdg51_6 (rg_of (show 0 ≤ y_cd_451_4.toInt ∧ y_cd_451_4.toInt ≤ 1073741824 by have q0 := hp51_7.1; have q1 := hp51_7.2; omega)) h_x_p0_1 hp51_8 _) (cb_of (n := 5) hn mw_848 mw_9 mw_845 mhX0_put ⟨(Nat.le_of_ble_eq_true rfl), (Nat.le_of_ble_eq_true rfl)⟩) hx hb hml hown hn hK hZ hS mw_847 mw_s75 (ci := 0) (q0 := 0) rfl rfl rfl rfl hl.1 (Nat.le_of_ble_eq_true rfl) dX0_codeReadInBody_62 ⟨(Nat.le_of_ble_eq_true rfl), (Nat.le_of_ble_eq_true rfl)⟩) hP hD hS hA rfl rfl (by decide) (by decide) (by decide) (Nat.le_of_ble_eq_true rfl) (Nat.le_of_ble_eq_true rfl) (fun u62_2 H locs hp62_3 hP hD hS => ?_)
  obtain ⟨y_cd_462_4, k_p0r62_5, k_cdg62_6⟩ := u62_2
  obtain ⟨hp62_7, hp62_8⟩ := hp62_3
  have hp62_7 : rg y_cd_462_4 1 1073741825 := hp62_7
  have hP : va_P D vwCl [(cd, .inr (0, [.ref cds, .ref cdg, .ref f0, .ref p0, .int y_cd_462_4])), (p0, .inr (7, [.ref p0r, .int x_p0_1])), (p0r, .inl (ct 2, 4000, .inr (.inl k_p0r62_5))), (cdg, .inl (ct 1, 4000, .inl k_cdg62_6))] _ := hP
  have hD : va_D A [(cd, .inr (0, [.ref cds, .ref cdg, .ref f0, .ref p0, .int y_cd_462_4])), (p0, .inr (7, [.ref p0r, .int x_p0_1])), (p0r, .inl (ct 2, 4000, .inr (.inl k_p0r62_5))), (cdg, .inl (ct 1, 4000, .inl k_cdg62_6))] := hD
  refine lv_aload_n hx hb dX0_codeReadInBody_65 rfl (lv_at hl 0 rfl) ?_
  refine lv_iload_n hx hb dX0_codeReadInBody_66 rfl (lv_at hl 1 rfl) ?_
  refine go_i (k1 := 0) (n1 := 0) (wr := [(cd, .inr (0, [.ref cds, .ref cdg, .ref f0, .ref p0, .int y_cd_462_4])), (p0, .inr (7, [.ref p0r, .int x_p0_1])), (p0r, .inl (ct 2, 4000, .inr (.inl k_p0r62_5))), (cdg, .inl (ct 1, 4000, .inl k_cdg62_6))]) [] [0, 1, 2, 3] (rn_S (As := [.int v0]) (rest := [.ref cd]) (c_X0_readCode l D ct v0  _) (cb_of (n := 1) hn mw_888 mw_9 mw_886 mhX0_readCode ⟨(Nat.le_of_ble_eq_true rfl), (Nat.le_of_ble_eq_true rfl)⟩) hx hb hml hown hn hK hZ hS mw_887 rfl hl.1 (Nat.le_of_ble_eq_true rfl) dX0_codeReadInBody_67 ⟨(Nat.le_of_ble_eq_true rfl), (Nat.le_of_ble_eq_true rfl)⟩) hP hD hS hA rfl rfl (by decide) (by decide) (by decide) (Nat.le_of_ble_eq_true rfl) (Nat.le_of_ble_eq_true rfl) (fun r67_1 u67_2 H locs hp67_3 hP hD hS => ?_)
  have hp67_4 := hp67_3
  have hp67_4 : rg r67_1 32 48 := hp67_4
  have hP : va_P D vwCl [(cd, .inr (0, [.ref cds, .ref cdg, .ref f0, .ref p0, .int y_cd_462_4])), (p0, .inr (7, [.ref p0r, .int x_p0_1])), (p0r, .inl (ct 2, 4000, .inr (.inl k_p0r62_5))), (cdg, .inl (ct 1, 4000, .inl k_cdg62_6))] _ := hP
  have hD : va_D A [(cd, .inr (0, [.ref cds, .ref cdg, .ref f0, .ref p0, .int y_cd_462_4])), (p0, .inr (7, [.ref p0r, .int x_p0_1])), (p0r, .inl (ct 2, 4000, .inr (.inl k_p0r62_5))), (cdg, .inl (ct 1, 4000, .inl k_cdg62_6))] := hD
  refine lv_bipush (v := 32) hx hb dX0_codeReadInBody_70 (by decide) ?_
  refine lv_iadd hx hb dX0_codeReadInBody_72 ?_
  refine lv_topi (fun z72_1 ez72_1 => ?_)
  have r72_2 : rg z72_1 64 80 := rg_add ez72_1 hp67_4 (rg_l (by decide)) (by decide)
  refine lv_iconst (v := 0) hx hb dX0_codeReadInBody_73 (by decide) ?_
  refine lv_iconst (v := 0) hx hb dX0_codeReadInBody_74 (by decide) ?_
  refine lv_iconst (v := 0) hx hb dX0_codeReadInBody_75 (by decide) ?_
  refine lv_bipush (v := 14) hx hb dX0_codeReadInBody_76 (by decide) ?_
  refine go_v (k1 := 0) (n1 := 0) (wr := []) [0, 1, 2, 3] [] (rn_V (As := [.int z72_1, .int 0, .int 0, .int 0, .int 14]) (rest := []) (c_X0_put l D ct cd z72_1 (0 : Int32) (0 : Int32) (0 : Int32) (14 : Int32) cds cdg f0 p0 y_cd_462_4 p0r x_p0_1 k_p0r62_5 k_cdg62_6 (rg_of (show 0 ≤ y_cd_462_4.toInt ∧ y_cd_462_4.toInt ≤ 1073741824 by have q0 := hp62_7.1; have q1 := hp62_7.2; omega)) h_x_p0_1 hp62_8 _) (cb_of (n := 5) hn mw_848 mw_9 mw_845 mhX0_put ⟨(Nat.le_of_ble_eq_true rfl), (Nat.le_of_ble_eq_true rfl)⟩) hx hb hml hown hn hK hZ hS mw_847 mw_s75 (ci := 0) (q0 := 0) rfl rfl rfl rfl hl.1 (Nat.le_of_ble_eq_true rfl) dX0_codeReadInBody_78 ⟨(Nat.le_of_ble_eq_true rfl), (Nat.le_of_ble_eq_true rfl)⟩) hP hD hS hA rfl rfl (by decide) (by decide) (by decide) (Nat.le_of_ble_eq_true rfl) (Nat.le_of_ble_eq_true rfl) (fun u78_2 H locs hp78_3 hP hD hS => ?_)
  obtain ⟨y_cd_478_4, k_p0r78_5, k_cdg78_6⟩ := u78_2
  obtain ⟨hp78_7, hp78_8⟩ := hp78_3
  have hp78_7 : rg y_cd_478_4 1 1073741825 := hp78_7
  have hP : va_P D vwCl [(cd, .inr (0, [.ref cds, .ref cdg, .ref f0, .ref p0, .int y_cd_478_4])), (p0, .inr (7, [.ref p0r, .int x_p0_1])), (p0r, .inl (ct 2, 4000, .inr (.inl k_p0r78_5))), (cdg, .inl (ct 1, 4000, .inl k_cdg78_6))] _ := hP
  have hD : va_D A [(cd, .inr (0, [.ref cds, .ref cdg, .ref f0, .ref p0, .int y_cd_478_4])), (p0, .inr (7, [.ref p0r, .int x_p0_1])), (p0r, .inl (ct 2, 4000, .inr (.inl k_p0r78_5))), (cdg, .inl (ct 1, 4000, .inl k_cdg78_6))] := hD
  exact endq_v hQ hx hb hr hlocks dX0_codeReadInBody_81 (y_cd_478_4, k_p0r78_5, k_cdg78_6) ⟨hp78_7, hp78_8⟩ hP hD hS [0, 1, 2, 3] rfl (by decide) rfl (Nat.le_of_ble_eq_true rfl) (Nat.le_of_ble_eq_true rfl)
set_option maxHeartbeats 2000000 in
theorem c_X0_putGoing (l : Launch) (D : va_G) (ct : Nat → ClassId) (cd : Nat) (v0 : Int32) (v1 : Int32) (v2 : Int32) (v3 : Int32) (v4 : Int32) (cds : Nat) (cdg : Nat) (f0 : Nat) (p0 : Nat) (x_cd_4 : Int32) (p0r : Nat) (x_p0_1 : Int32) (g_p0r : Nat → Int64) (g_cdg : Nat → Int32) (h_x_cd_4 : rg x_cd_4 0 1073741824) (h_x_p0_1 : rg x_p0_1 0 4000) (h_g_cdg : Rg g_cdg 4000 (-1) 3001) : KV (S := Int32 × (Nat → Int64) × (Nat → Int32)) l yX0_putGoing cX0_putGoing 6 none 2 46 D ct [.ref cd, .int v0, .int v1, .int v2, .int v3, .int v4] [(cd, .inr (0, [.ref cds, .ref cdg, .ref f0, .ref p0, .int x_cd_4])), (p0, .inr (7, [.ref p0r, .int x_p0_1])), (p0r, .inl (ct 2, 4000, .inr (.inl g_p0r))), (cdg, .inl (ct 1, 4000, .inl g_cdg))] 0 0 (fun (u : Int32 × (Nat → Int64) × (Nat → Int32)) => match u with | (y_cd_4, k_p0r, k_cdg) => rg y_cd_4 1 1073741825) (fun (u : Int32 × (Nat → Int64) × (Nat → Int32)) => match u with | (y_cd_4, k_p0r, k_cdg) => [(cd, .inr (0, [.ref cds, .ref cdg, .ref f0, .ref p0, .int y_cd_4])), (p0, .inr (7, [.ref p0r, .int x_p0_1])), (p0r, .inl (ct 2, 4000, .inr (.inl k_p0r))), (cdg, .inl (ct 1, 4000, .inl k_cdg))]) := by
  refine KVq_of (by decide) (Nat.le_of_ble_eq_true rfl) (fun p e s m below meth c A Q C0 hA hS hP hD hQ ls hl => ?_)
  obtain ⟨hx, hb, hr, hown, hin, hml, hlocks, hn, hK, hZ⟩ := C0
  have hl : lv_has ls 6 [(0, .ref cd), (1, .int v0), (2, .int v1), (3, .int v2), (4, .int v3), (5, .int v4)] := hl
  refine lv_aload_n hx hb dX0_putGoing_0 rfl (lv_at hl 0 rfl) ?_
  refine lv_iload_n hx hb dX0_putGoing_1 rfl (lv_at hl 1 rfl) ?_
  refine lv_iload_n hx hb dX0_putGoing_2 rfl (lv_at hl 2 rfl) ?_
  refine lv_iload_n hx hb dX0_putGoing_3 rfl (lv_at hl 3 rfl) ?_
  refine lv_iconst (v := 0) hx hb dX0_putGoing_4 (by decide) ?_
  refine lv_iload hx hb dX0_putGoing_5 (lv_at hl 4 rfl) ?_
  refine go_v (k1 := 0) (n1 := 0) (wr := []) [0, 1, 2, 3] [] (rn_V (As := [.int v0, .int v1, .int v2, .int 0, .int v3]) (rest := []) (c_X0_put l D ct cd v0 v1 v2 (0 : Int32) v3 cds cdg f0 p0 x_cd_4 p0r x_p0_1 g_p0r g_cdg h_x_cd_4 h_x_p0_1 h_g_cdg _) (cb_of (n := 5) hn mw_848 mw_9 mw_845 mhX0_put ⟨(Nat.le_of_ble_eq_true rfl), (Nat.le_of_ble_eq_true rfl)⟩) hx hb hml hown hn hK hZ hS mw_847 mw_s75 (ci := 0) (q0 := 0) rfl rfl rfl rfl hl.1 (Nat.le_of_ble_eq_true rfl) dX0_putGoing_7 ⟨(Nat.le_of_ble_eq_true rfl), (Nat.le_of_ble_eq_true rfl)⟩) hP hD hS hA rfl rfl (by decide) (by decide) (by decide) (Nat.le_of_ble_eq_true rfl) (Nat.le_of_ble_eq_true rfl) (fun u7_2 H locs hp7_3 hP hD hS => ?_)
  obtain ⟨y_cd_47_4, k_p0r7_5, k_cdg7_6⟩ := u7_2
  obtain ⟨hp7_7, hp7_8⟩ := hp7_3
  have hp7_7 : rg y_cd_47_4 1 1073741825 := hp7_7
  have hP : va_P D vwCl [(cd, .inr (0, [.ref cds, .ref cdg, .ref f0, .ref p0, .int y_cd_47_4])), (p0, .inr (7, [.ref p0r, .int x_p0_1])), (p0r, .inl (ct 2, 4000, .inr (.inl k_p0r7_5))), (cdg, .inl (ct 1, 4000, .inl k_cdg7_6))] _ := hP
  have hD : va_D A [(cd, .inr (0, [.ref cds, .ref cdg, .ref f0, .ref p0, .int y_cd_47_4])), (p0, .inr (7, [.ref p0r, .int x_p0_1])), (p0r, .inl (ct 2, 4000, .inr (.inl k_p0r7_5))), (cdg, .inl (ct 1, 4000, .inl k_cdg7_6))] := hD
  refine lv_aload_n hx hb dX0_putGoing_10 rfl (lv_at hl 0 rfl) ?_
  refine va_get (D := D) (ci := 0) (v := .int y_cd_47_4) (C := RX0) (T := TX0) (N := 5) hx hb (htX0 hn) (fun _ h => h) hown hK hP 0 rfl rfl 4 (by decide) (hn.get mw_270 rfl) (fun _ h9 => h9) rfl dX0_putGoing_11 ?_
  refine lv_sipush (v := 4000) hx hb dX0_putGoing_14 (by decide) ?_
  refine lv_icmp_gt (tgt := 33) hx hb dX0_putGoing_17 (by decide) (fun c17_1 => ?_) (fun c17_1 => ?_)
  · have t17_2 := (i_lt c17_1)
    have r17_3 : rg y_cd_47_4 4001 1073741825 := rg_ltB t17_2 (show rg (4000 : Int32) 4000 4000 from (rg_l (by decide))) hp7_7 (by decide)
    exact endq_v hQ hx hb hr hlocks dX0_putGoing_33 (y_cd_47_4, k_p0r7_5, k_cdg7_6) (rg_w r17_3 (by decide)) hP hD hS [0, 1, 2, 3] rfl (by decide) rfl (Nat.le_of_ble_eq_true rfl) (Nat.le_of_ble_eq_true rfl)
  · have t33_1 := (i_nlt c17_1)
    have r33_2 : rg y_cd_47_4 1 4000 := rg_leA t33_1 hp7_7 (show rg (4000 : Int32) 4000 4000 from (rg_l (by decide))) (by decide)
    refine lv_aload_n hx hb dX0_putGoing_20 rfl (lv_at hl 0 rfl) ?_
    refine va_get (D := D) (ci := 0) (v := .ref cdg) (C := RX0) (T := TX0) (N := 5) hx hb (htX0 hn) (fun _ h => h) hown hK hP 0 rfl rfl 1 (by decide) (hn.get mw_267 rfl) (fun _ h9 => h9) rfl dX0_putGoing_21 ?_
    refine lv_aload_n hx hb dX0_putGoing_24 rfl (lv_at hl 0 rfl) ?_
    refine va_get (D := D) (ci := 0) (v := .int y_cd_47_4) (C := RX0) (T := TX0) (N := 5) hx hb (htX0 hn) (fun _ h => h) hown hK hP 0 rfl rfl 4 (by decide) (hn.get mw_270 rfl) (fun _ h9 => h9) rfl dX0_putGoing_25 ?_
    refine lv_iconst (v := 1) hx hb dX0_putGoing_28 (by decide) ?_
    refine lv_isub hx hb dX0_putGoing_29 ?_
    refine lv_topi (fun z29_1 ez29_1 => ?_)
    have r29_2 : rg z29_1 0 3999 := rg_sub ez29_1 r33_2 (rg_l (by decide)) (by decide)
    refine lv_iload hx hb dX0_putGoing_30 (lv_at hl 5 rfl) ?_
    have hi32_1 : vp_in z29_1 4000 := (in_rg r29_2 (by decide))
    refine va_iast hx hb hK hP hD hS 3 1 rfl rfl hi32_1 dX0_putGoing_32 (fun H locs hP hD hS => ?_)
    have hP : va_P D vwCl [(cd, .inr (0, [.ref cds, .ref cdg, .ref f0, .ref p0, .int y_cd_47_4])), (p0, .inr (7, [.ref p0r, .int x_p0_1])), (p0r, .inl (ct 2, 4000, .inr (.inl k_p0r7_5))), (cdg, .inl (ct 1, 4000, .inl (upd k_cdg7_6 z29_1.toNatClampNeg v4)))] _ := hP
    have hD : va_D A [(cd, .inr (0, [.ref cds, .ref cdg, .ref f0, .ref p0, .int y_cd_47_4])), (p0, .inr (7, [.ref p0r, .int x_p0_1])), (p0r, .inl (ct 2, 4000, .inr (.inl k_p0r7_5))), (cdg, .inl (ct 1, 4000, .inl (upd k_cdg7_6 z29_1.toNatClampNeg v4)))] := hD
    obtain ⟨f32_2, ef32_2⟩ : ∃ z, z = (upd k_cdg7_6 z29_1.toNatClampNeg v4) := ⟨_, rfl⟩
    rw [← ef32_2] at hP hD
    exact endq_v hQ hx hb hr hlocks dX0_putGoing_33 (y_cd_47_4, k_p0r7_5, f32_2) (rg_w r33_2 (by decide)) hP hD hS [0, 1, 2, 3] rfl (by decide) rfl (Nat.le_of_ble_eq_true rfl) (Nat.le_of_ble_eq_true rfl)
set_option maxHeartbeats 2000000 in
theorem c_X0_codeWithNumber (l : Launch) (D : va_G) (ct : Nat → ClassId) (cd : Nat) (v0 : Int32) (v1 : Int32) (cds : Nat) (cdg : Nat) (f0 : Nat) (p0 : Nat) (x_cd_4 : Int32) (f00 : Nat) (f01 : Nat) (f02 : Nat) (x_f0_3 : Int32) (f04 : Nat) (f05 : Nat) (f06 : Nat) (f07 : Nat) (f08 : Nat) (f09 : Nat) (f010 : Nat) (x_f0_11 : Int32) (x_f0_12 : Int32) (f013 : Nat) (x_f0_14 : Int32) (f015 : Nat) (x_f0_16 : Int32) (f017 : Nat) (p0r : Nat) (x_p0_1 : Int32) (g_p0r : Nat → Int64) (g_cdg : Nat → Int32) (h_x_cd_4 : rg x_cd_4 0 1073741824) (h_x_f0_3 : rg x_f0_3 0 7000) (h_x_f0_11 : rg x_f0_11 0 3000) (h_x_f0_12 : rg x_f0_12 0 3000) (h_x_f0_14 : rg x_f0_14 2 5000) (h_x_f0_16 : rg x_f0_16 0 6) (h_x_p0_1 : rg x_p0_1 0 4000) (h_g_cdg : Rg g_cdg 4000 (-1) 3001) : KV (S := Int32 × (Nat → Int64) × (Nat → Int32)) l yX0_codeWithNumber cX0_codeWithNumber 3 none 3 71 D ct [.ref cd, .int v0, .int v1] [(cd, .inr (0, [.ref cds, .ref cdg, .ref f0, .ref p0, .int x_cd_4])), (f0, .inr (2, [.ref f00, .ref f01, .ref f02, .int x_f0_3, .ref f04, .ref f05, .ref f06, .ref f07, .ref f08, .ref f09, .ref f010, .int x_f0_11, .int x_f0_12, .ref f013, .int x_f0_14, .ref f015, .int x_f0_16, .ref f017])), (p0, .inr (7, [.ref p0r, .int x_p0_1])), (p0r, .inl (ct 2, 4000, .inr (.inl g_p0r))), (cdg, .inl (ct 1, 4000, .inl g_cdg))] 0 0 (fun (u : Int32 × (Nat → Int64) × (Nat → Int32)) => match u with | (y_cd_4, k_p0r, k_cdg) => rg y_cd_4 1 1073741825) (fun (u : Int32 × (Nat → Int64) × (Nat → Int32)) => match u with | (y_cd_4, k_p0r, k_cdg) => [(cd, .inr (0, [.ref cds, .ref cdg, .ref f0, .ref p0, .int y_cd_4])), (f0, .inr (2, [.ref f00, .ref f01, .ref f02, .int x_f0_3, .ref f04, .ref f05, .ref f06, .ref f07, .ref f08, .ref f09, .ref f010, .int x_f0_11, .int x_f0_12, .ref f013, .int x_f0_14, .ref f015, .int x_f0_16, .ref f017])), (p0, .inr (7, [.ref p0r, .int x_p0_1])), (p0r, .inl (ct 2, 4000, .inr (.inl k_p0r))), (cdg, .inl (ct 1, 4000, .inl k_cdg))]) := by
  refine KVq_of (by decide) (Nat.le_of_ble_eq_true rfl) (fun p e s m below meth c A Q C0 hA hS hP hD hQ ls hl => ?_)
  obtain ⟨hx, hb, hr, hown, hin, hml, hlocks, hn, hK, hZ⟩ := C0
  have hl : lv_has ls 3 [(0, .ref cd), (1, .int v0), (2, .int v1)] := hl
  refine lv_iload_n hx hb dX0_codeWithNumber_0 rfl (lv_at hl 1 rfl) ?_
  refine lv_iconst (v := 3) hx hb dX0_codeWithNumber_1 (by decide) ?_
  have b35 : ∀  (H : Heap) (locs : List Loc) (ls : Array Slot), lv_has ls 3 [(0, .ref cd), (1, .int v0), (2, .int v1)] → va_P D vwCl [(cd, .inr (0, [.ref cds, .ref cdg, .ref f0, .ref p0, .int x_cd_4])), (f0, .inr (2, [.ref f00, .ref f01, .ref f02, .int x_f0_3, .ref f04, .ref f05, .ref f06, .ref f07, .ref f08, .ref f09, .ref f010, .int x_f0_11, .int x_f0_12, .ref f013, .int x_f0_14, .ref f015, .int x_f0_16, .ref f017])), (p0, .inr (7, [.ref p0r, .int x_p0_1])), (p0r, .inl (ct 2, 4000, .inr (.inl g_p0r))), (cdg, .inl (ct 1, 4000, .inl g_cdg))] H → va_D A [(cd, .inr (0, [.ref cds, .ref cdg, .ref f0, .ref p0, .int x_cd_4])), (f0, .inr (2, [.ref f00, .ref f01, .ref f02, .int x_f0_3, .ref f04, .ref f05, .ref f06, .ref f07, .ref f08, .ref f09, .ref f010, .int x_f0_11, .int x_f0_12, .ref f013, .int x_f0_14, .ref f015, .int x_f0_16, .ref f017])), (p0, .inr (7, [.ref p0r, .int x_p0_1])), (p0r, .inl (ct 2, 4000, .inr (.inl g_p0r))), (cdg, .inl (ct 1, 4000, .inl g_cdg))] → va_S A s.heap H locs → W p l e ({ frames := 3, cells := 0, slots := 0, locals := 71 }) s m [.ref cd, .int v0, .int v1].toArray below meth c H locs 0 0 Q (F0 m 35 ls []) := by
    intro  H locs ls  hl hP hD hS
    refine lv_aload_n hx hb dX0_codeWithNumber_35 rfl (lv_at hl 0 rfl) ?_
    refine lv_iload_n hx hb dX0_codeWithNumber_36 rfl (lv_at hl 1 rfl) ?_
    refine lv_iconst (v := 4) hx hb dX0_codeWithNumber_37 (by decide) ?_
    refine lv_ishl hx hb dX0_codeWithNumber_38 ?_
    refine lv_topi (fun z38_1 ez38_1 => ?_)
    refine lv_iconst (v := 4) hx hb dX0_codeWithNumber_39 (by decide) ?_
    refine lv_ior hx hb dX0_codeWithNumber_40 ?_
    refine lv_topi (fun z40_1 ez40_1 => ?_)
    refine lv_iconst (v := 0) hx hb dX0_codeWithNumber_41 (by decide) ?_
    refine lv_iconst (v := 0) hx hb dX0_codeWithNumber_42 (by decide) ?_
    refine lv_iconst (v := 0) hx hb dX0_codeWithNumber_43 (by decide) ?_
    refine lv_iload_n hx hb dX0_codeWithNumber_44 rfl (lv_at hl 2 rfl) ?_
    refine go_v (k1 := 0) (n1 := 0) (wr := [(f0, .inr (2, [.ref f00, .ref f01, .ref f02, .int x_f0_3, .ref f04, .ref f05, .ref f06, .ref f07, .ref f08, .ref f09, .ref f010, .int x_f0_11, .int x_f0_12, .ref f013, .int x_f0_14, .ref f015, .int x_f0_16, .ref f017]))]) [0, 2, 3, 4] [1] (rn_V (As := [.int z40_1, .int 0, .int 0, .int 0, .int v1]) (rest := []) (c_X0_put l D ct cd z40_1 (0 : Int32) (0 : Int32) (0 : Int32) v1 cds cdg f0 p0 x_cd_4 p0r x_p0_1 g_p0r g_cdg h_x_cd_4 h_x_p0_1 h_g_cdg _) (cb_of (n := 5) hn mw_848 mw_9 mw_845 mhX0_put ⟨(Nat.le_of_ble_eq_true rfl), (Nat.le_of_ble_eq_true rfl)⟩) hx hb hml hown hn hK hZ hS mw_847 mw_s75 (ci := 0) (q0 := 0) rfl rfl rfl rfl hl.1 (Nat.le_of_ble_eq_true rfl) dX0_codeWithNumber_45 ⟨(Nat.le_of_ble_eq_true rfl), (Nat.le_of_ble_eq_true rfl)⟩) hP hD hS hA rfl rfl (by decide) (by decide) (by decide) (Nat.le_of_ble_eq_true rfl) (Nat.le_of_ble_eq_true rfl) (fun u45_2 H locs hp45_3 hP hD hS => ?_)
    obtain ⟨y_cd_445_4, k_p0r45_5, k_cdg45_6⟩ := u45_2
    obtain ⟨hp45_7, hp45_8⟩ := hp45_3
    have hp45_7 : rg y_cd_445_4 1 1073741825 := hp45_7
    have hP : va_P D vwCl [(f0, .inr (2, [.ref f00, .ref f01, .ref f02, .int x_f0_3, .ref f04, .ref f05, .ref f06, .ref f07, .ref f08, .ref f09, .ref f010, .int x_f0_11, .int x_f0_12, .ref f013, .int x_f0_14, .ref f015, .int x_f0_16, .ref f017])), (cd, .inr (0, [.ref cds, .ref cdg, .ref f0, .ref p0, .int y_cd_445_4])), (p0, .inr (7, [.ref p0r, .int x_p0_1])), (p0r, .inl (ct 2, 4000, .inr (.inl k_p0r45_5))), (cdg, .inl (ct 1, 4000, .inl k_cdg45_6))] _ := hP
    have hD : va_D A [(f0, .inr (2, [.ref f00, .ref f01, .ref f02, .int x_f0_3, .ref f04, .ref f05, .ref f06, .ref f07, .ref f08, .ref f09, .ref f010, .int x_f0_11, .int x_f0_12, .ref f013, .int x_f0_14, .ref f015, .int x_f0_16, .ref f017])), (cd, .inr (0, [.ref cds, .ref cdg, .ref f0, .ref p0, .int y_cd_445_4])), (p0, .inr (7, [.ref p0r, .int x_p0_1])), (p0r, .inl (ct 2, 4000, .inr (.inl k_p0r45_5))), (cdg, .inl (ct 1, 4000, .inl k_cdg45_6))] := hD
    exact endq_v hQ hx hb hr hlocks dX0_codeWithNumber_48 (y_cd_445_4, k_p0r45_5, k_cdg45_6) hp45_7 hP hD hS [1, 0, 2, 3, 4] rfl (by decide) rfl (Nat.le_of_ble_eq_true rfl) (Nat.le_of_ble_eq_true rfl)
  have b11 : ∀  (H : Heap) (locs : List Loc) (ls : Array Slot), lv_has ls 3 [(0, .ref cd), (1, .int v0), (2, .int v1)] → va_P D vwCl [(cd, .inr (0, [.ref cds, .ref cdg, .ref f0, .ref p0, .int x_cd_4])), (f0, .inr (2, [.ref f00, .ref f01, .ref f02, .int x_f0_3, .ref f04, .ref f05, .ref f06, .ref f07, .ref f08, .ref f09, .ref f010, .int x_f0_11, .int x_f0_12, .ref f013, .int x_f0_14, .ref f015, .int x_f0_16, .ref f017])), (p0, .inr (7, [.ref p0r, .int x_p0_1])), (p0r, .inl (ct 2, 4000, .inr (.inl g_p0r))), (cdg, .inl (ct 1, 4000, .inl g_cdg))] H → va_D A [(cd, .inr (0, [.ref cds, .ref cdg, .ref f0, .ref p0, .int x_cd_4])), (f0, .inr (2, [.ref f00, .ref f01, .ref f02, .int x_f0_3, .ref f04, .ref f05, .ref f06, .ref f07, .ref f08, .ref f09, .ref f010, .int x_f0_11, .int x_f0_12, .ref f013, .int x_f0_14, .ref f015, .int x_f0_16, .ref f017])), (p0, .inr (7, [.ref p0r, .int x_p0_1])), (p0r, .inl (ct 2, 4000, .inr (.inl g_p0r))), (cdg, .inl (ct 1, 4000, .inl g_cdg))] → va_S A s.heap H locs → W p l e ({ frames := 3, cells := 0, slots := 0, locals := 71 }) s m [.ref cd, .int v0, .int v1].toArray below meth c H locs 0 0 Q (F0 m 11 ls []) := by
    intro  H locs ls  hl hP hD hS
    refine lv_iload_n hx hb dX0_codeWithNumber_11 rfl (lv_at hl 2 rfl) ?_
    refine lv_if_ne (tgt := 35) hx hb dX0_codeWithNumber_12 (by decide) (fun c12_1 => ?_) (fun c12_1 => ?_)
    · have t12_2 := (i_ne c12_1)
      exact b35  H locs ls  (lv_sub hl [0, 1, 2] rfl) hP hD hS
    · have t12_3 := (i_nne c12_1)
      have r12_4 : rg v1 0 0 := rg_eqA t12_3 (rg_any v1) (show rg (0 : Int32) 0 0 from (rg_l (by decide))) (by decide)
      refine lv_aload_n hx hb dX0_codeWithNumber_15 rfl (lv_at hl 0 rfl) ?_
      refine lv_iconst (v := 5) hx hb dX0_codeWithNumber_16 (by decide) ?_
      refine lv_iconst (v := 0) hx hb dX0_codeWithNumber_17 (by decide) ?_
      refine lv_iconst (v := 0) hx hb dX0_codeWithNumber_18 (by decide) ?_
      refine lv_iconst (v := 0) hx hb dX0_codeWithNumber_19 (by decide) ?_
      refine lv_aload_n hx hb dX0_codeWithNumber_20 rfl (lv_at hl 0 rfl) ?_
      refine va_get (D := D) (ci := 0) (v := .ref f0) (C := RX0) (T := TX0) (N := 5) hx hb (htX0 hn) (fun _ h => h) hown hK hP 0 rfl rfl 2 (by decide) (hn.get mw_268 rfl) (fun _ h9 => h9) rfl dX0_codeWithNumber_21 ?_
      refine va_getN (D := D) (ci := 2) (v := .int x_f0_11) (C := RX2) (T := TX2) (N := 18) hx hb (htX2 hn) (fun _ h => h) hown hK hP 1 rfl rfl 11 (by decide) (hn.get mw_170 rfl) (fun _ h9 => h9) rfl dX0_codeWithNumber_24 ?_
      refine lv_iconst (v := 1) hx hb dX0_codeWithNumber_27 (by decide) ?_
      refine lv_iadd hx hb dX0_codeWithNumber_28 ?_
      refine lv_topi (fun z28_1 ez28_1 => ?_)
      have r28_2 : rg z28_1 1 3001 := rg_add ez28_1 h_x_f0_11 (rg_l (by decide)) (by decide)
      refine go_v (k1 := 0) (n1 := 0) (wr := [(f0, .inr (2, [.ref f00, .ref f01, .ref f02, .int x_f0_3, .ref f04, .ref f05, .ref f06, .ref f07, .ref f08, .ref f09, .ref f010, .int x_f0_11, .int x_f0_12, .ref f013, .int x_f0_14, .ref f015, .int x_f0_16, .ref f017]))]) [0, 2, 3, 4] [1] (rn_V (As := [.int 5, .int 0, .int 0, .int 0, .int z28_1]) (rest := []) (c_X0_putGoing l D ct cd (5 : Int32) (0 : Int32) (0 : Int32) (0 : Int32) z28_1 cds cdg f0 p0 x_cd_4 p0r x_p0_1 g_p0r g_cdg h_x_cd_4 h_x_p0_1 h_g_cdg _) (cb_of (n := 5) hn mw_877 mw_9 mw_874 mhX0_putGoing ⟨(Nat.le_of_ble_eq_true rfl), (Nat.le_of_ble_eq_true rfl)⟩) hx hb hml hown hn hK hZ hS mw_876 mw_s81 (ci := 0) (q0 := 0) rfl rfl rfl rfl hl.1 (Nat.le_of_ble_eq_true rfl) dX0_codeWithNumber_29 ⟨(Nat.le_of_ble_eq_true rfl), (Nat.le_of_ble_eq_true rfl)⟩) hP hD hS hA rfl rfl (by decide) (by decide) (by decide) (Nat.le_of_ble_eq_true rfl) (Nat.le_of_ble_eq_true rfl) (fun u29_2 H locs hp29_3 hP hD hS => ?_)
      obtain ⟨y_cd_429_4, k_p0r29_5, k_cdg29_6⟩ := u29_2
      have hp29_7 := hp29_3
      have hp29_7 : rg y_cd_429_4 1 1073741825 := hp29_7
      have hP : va_P D vwCl [(f0, .inr (2, [.ref f00, .ref f01, .ref f02, .int x_f0_3, .ref f04, .ref f05, .ref f06, .ref f07, .ref f08, .ref f09, .ref f010, .int x_f0_11, .int x_f0_12, .ref f013, .int x_f0_14, .ref f015, .int x_f0_16, .ref f017])), (cd, .inr (0, [.ref cds, .ref cdg, .ref f0, .ref p0, .int y_cd_429_4])), (p0, .inr (7, [.ref p0r, .int x_p0_1])), (p0r, .inl (ct 2, 4000, .inr (.inl k_p0r29_5))), (cdg, .inl (ct 1, 4000, .inl k_cdg29_6))] _ := hP
      have hD : va_D A [(f0, .inr (2, [.ref f00, .ref f01, .ref f02, .int x_f0_3, .ref f04, .ref f05, .ref f06, .ref f07, .ref f08, .ref f09, .ref f010, .int x_f0_11, .int x_f0_12, .ref f013, .int x_f0_14, .ref f015, .int x_f0_16, .ref f017])), (cd, .inr (0, [.ref cds, .ref cdg, .ref f0, .ref p0, .int y_cd_429_4])), (p0, .inr (7, [.ref p0r, .int x_p0_1])), (p0r, .inl (ct 2, 4000, .inr (.inl k_p0r29_5))), (cdg, .inl (ct 1, 4000, .inl k_cdg29_6))] := hD
      refine lv_goto (tgt := 48) hx hb dX0_codeWithNumber_32 (by decide) ?_
      exact endq_v hQ hx hb hr hlocks dX0_codeWithNumber_48 (y_cd_429_4, k_p0r29_5, k_cdg29_6) hp29_7 hP hD hS [1, 0, 2, 3, 4] rfl (by decide) rfl (Nat.le_of_ble_eq_true rfl) (Nat.le_of_ble_eq_true rfl)
  refine lv_icmp_eq (tgt := 11) hx hb dX0_codeWithNumber_2 (by decide) (fun c2_1 => ?_) (fun c2_1 => ?_)
  · have t2_2 := (i_eq c2_1)
    have r2_3 : rg v0 3 3 := rg_eqA t2_2 (rg_any v0) (show rg (3 : Int32) 3 3 from (rg_l (by decide))) (by decide)
    exact b11  H locs ls  (lv_sub hl [0, 1, 2] rfl) hP hD hS
  · have t2_4 := (i_ne c2_1)
    refine lv_iload_n hx hb dX0_codeWithNumber_5 rfl (lv_at hl 1 rfl) ?_
    refine lv_bipush (v := 9) hx hb dX0_codeWithNumber_6 (by decide) ?_
    refine lv_icmp_ne (tgt := 35) hx hb dX0_codeWithNumber_8 (by decide) (fun c8_1 => ?_) (fun c8_1 => ?_)
    · have t8_2 := (i_ne c8_1)
      exact b35  H locs ls  (lv_sub hl [0, 1, 2] rfl) hP hD hS
    · have t8_3 := (i_nne c8_1)
      have r8_4 : rg v0 9 9 := rg_eqA t8_3 (rg_any v0) (show rg (9 : Int32) 9 9 from (rg_l (by decide))) (by decide)
      exact b11  H locs ls  (lv_sub hl [0, 1, 2] rfl) hP hD hS
set_option maxHeartbeats 2000000 in
theorem c_X0_codePull (l : Launch) (D : va_G) (ct : Nat → ClassId) (cd : Nat) (v0 : Int32) (cds : Nat) (cdg : Nat) (f0 : Nat) (p0 : Nat) (x_cd_4 : Int32) (p0r : Nat) (x_p0_1 : Int32) (g_p0r : Nat → Int64) (g_cdg : Nat → Int32) (h_x_cd_4 : rg x_cd_4 0 1073741824) (h_x_p0_1 : rg x_p0_1 0 4000) (h_g_cdg : Rg g_cdg 4000 (-1) 3001) : KV (S := Int32 × (Nat → Int64) × (Nat → Int32)) l yX0_codePull cX0_codePull 2 none 2 46 D ct [.ref cd, .int v0] [(cd, .inr (0, [.ref cds, .ref cdg, .ref f0, .ref p0, .int x_cd_4])), (p0, .inr (7, [.ref p0r, .int x_p0_1])), (p0r, .inl (ct 2, 4000, .inr (.inl g_p0r))), (cdg, .inl (ct 1, 4000, .inl g_cdg))] 0 0 (fun (u : Int32 × (Nat → Int64) × (Nat → Int32)) => match u with | (y_cd_4, k_p0r, k_cdg) => rg y_cd_4 1 1073741825 ∧ Rg k_cdg 4000 (-1) 3001) (fun (u : Int32 × (Nat → Int64) × (Nat → Int32)) => match u with | (y_cd_4, k_p0r, k_cdg) => [(cd, .inr (0, [.ref cds, .ref cdg, .ref f0, .ref p0, .int y_cd_4])), (p0, .inr (7, [.ref p0r, .int x_p0_1])), (p0r, .inl (ct 2, 4000, .inr (.inl k_p0r))), (cdg, .inl (ct 1, 4000, .inl k_cdg))]) := by
  refine KVq_of (by decide) (Nat.le_of_ble_eq_true rfl) (fun p e s m below meth c A Q C0 hA hS hP hD hQ ls hl => ?_)
  obtain ⟨hx, hb, hr, hown, hin, hml, hlocks, hn, hK, hZ⟩ := C0
  have hl : lv_has ls 2 [(0, .ref cd), (1, .int v0)] := hl
  refine lv_aload_n hx hb dX0_codePull_0 rfl (lv_at hl 0 rfl) ?_
  refine lv_sipush (v := 188) hx hb dX0_codePull_1 (by decide) ?_
  refine lv_bipush (v := 7) hx hb dX0_codePull_4 (by decide) ?_
  refine lv_iconst (v := 0) hx hb dX0_codePull_6 (by decide) ?_
  refine lv_iconst (v := 0) hx hb dX0_codePull_7 (by decide) ?_
  refine lv_iconst (v := 0) hx hb dX0_codePull_8 (by decide) ?_
  refine go_v (k1 := 0) (n1 := 0) (wr := []) [0, 1, 2, 3] [] (rn_V (As := [.int 188, .int 7, .int 0, .int 0, .int 0]) (rest := []) (c_X0_put l D ct cd (188 : Int32) (7 : Int32) (0 : Int32) (0 : Int32) (0 : Int32) cds cdg f0 p0 x_cd_4 p0r x_p0_1 g_p0r g_cdg h_x_cd_4 h_x_p0_1 h_g_cdg _) (cb_of (n := 5) hn mw_848 mw_9 mw_845 mhX0_put ⟨(Nat.le_of_ble_eq_true rfl), (Nat.le_of_ble_eq_true rfl)⟩) hx hb hml hown hn hK hZ hS mw_847 mw_s75 (ci := 0) (q0 := 0) rfl rfl rfl rfl hl.1 (Nat.le_of_ble_eq_true rfl) dX0_codePull_9 ⟨(Nat.le_of_ble_eq_true rfl), (Nat.le_of_ble_eq_true rfl)⟩) hP hD hS hA rfl rfl (by decide) (by decide) (by decide) (Nat.le_of_ble_eq_true rfl) (Nat.le_of_ble_eq_true rfl) (fun u9_2 H locs hp9_3 hP hD hS => ?_)
  obtain ⟨y_cd_49_4, k_p0r9_5, k_cdg9_6⟩ := u9_2
  obtain ⟨hp9_7, hp9_8⟩ := hp9_3
  have hp9_7 : rg y_cd_49_4 1 1073741825 := hp9_7
  have hP : va_P D vwCl [(cd, .inr (0, [.ref cds, .ref cdg, .ref f0, .ref p0, .int y_cd_49_4])), (p0, .inr (7, [.ref p0r, .int x_p0_1])), (p0r, .inl (ct 2, 4000, .inr (.inl k_p0r9_5))), (cdg, .inl (ct 1, 4000, .inl k_cdg9_6))] _ := hP
  have hD : va_D A [(cd, .inr (0, [.ref cds, .ref cdg, .ref f0, .ref p0, .int y_cd_49_4])), (p0, .inr (7, [.ref p0r, .int x_p0_1])), (p0r, .inl (ct 2, 4000, .inr (.inl k_p0r9_5))), (cdg, .inl (ct 1, 4000, .inl k_cdg9_6))] := hD
  refine lv_aload_n hx hb dX0_codePull_12 rfl (lv_at hl 0 rfl) ?_
  refine lv_bipush (v := 121) hx hb dX0_codePull_13 (by decide) ?_
  refine lv_iconst (v := 0) hx hb dX0_codePull_15 (by decide) ?_
  refine lv_bipush (v := 10) hx hb dX0_codePull_16 (by decide) ?_
  refine lv_iload_n hx hb dX0_codePull_18 rfl (lv_at hl 1 rfl) ?_
  refine go_i (k1 := 0) (n1 := 0) (wr := [(cd, .inr (0, [.ref cds, .ref cdg, .ref f0, .ref p0, .int y_cd_49_4])), (p0, .inr (7, [.ref p0r, .int x_p0_1])), (p0r, .inl (ct 2, 4000, .inr (.inl k_p0r9_5))), (cdg, .inl (ct 1, 4000, .inl k_cdg9_6))]) [] [0, 1, 2, 3] (rn_S (As := [.int v0]) (rest := [.int 10, .int 0, .int 121, .ref cd]) (c_X0_slot l D ct v0  _) (cb_of (n := 1) hn mw_869 mw_9 mw_867 mhX0_slot ⟨(Nat.le_of_ble_eq_true rfl), (Nat.le_of_ble_eq_true rfl)⟩) hx hb hml hown hn hK hZ hS mw_868 rfl hl.1 (Nat.le_of_ble_eq_true rfl) dX0_codePull_19 ⟨(Nat.le_of_ble_eq_true rfl), (Nat.le_of_ble_eq_true rfl)⟩) hP hD hS hA rfl rfl (by decide) (by decide) (by decide) (Nat.le_of_ble_eq_true rfl) (Nat.le_of_ble_eq_true rfl) (fun r19_1 u19_2 H locs hp19_3 hP hD hS => ?_)
  have hP : va_P D vwCl [(cd, .inr (0, [.ref cds, .ref cdg, .ref f0, .ref p0, .int y_cd_49_4])), (p0, .inr (7, [.ref p0r, .int x_p0_1])), (p0r, .inl (ct 2, 4000, .inr (.inl k_p0r9_5))), (cdg, .inl (ct 1, 4000, .inl k_cdg9_6))] _ := hP
  have hD : va_D A [(cd, .inr (0, [.ref cds, .ref cdg, .ref f0, .ref p0, .int y_cd_49_4])), (p0, .inr (7, [.ref p0r, .int x_p0_1])), (p0r, .inl (ct 2, 4000, .inr (.inl k_p0r9_5))), (cdg, .inl (ct 1, 4000, .inl k_cdg9_6))] := hD
  refine lv_iconst (v := 0) hx hb dX0_codePull_22 (by decide) ?_
  refine go_v (k1 := 0) (n1 := 0) (wr := []) [0, 1, 2, 3] [] (rn_V (As := [.int 121, .int 0, .int 10, .int r19_1, .int 0]) (rest := []) (c_X0_put l D ct cd (121 : Int32) (0 : Int32) (10 : Int32) r19_1 (0 : Int32) cds cdg f0 p0 y_cd_49_4 p0r x_p0_1 k_p0r9_5 k_cdg9_6 (rg_of (show 0 ≤ y_cd_49_4.toInt ∧ y_cd_49_4.toInt ≤ 1073741824 by have q0 := hp9_7.1; have q1 := hp9_7.2; omega)) h_x_p0_1 hp9_8 _) (cb_of (n := 5) hn mw_848 mw_9 mw_845 mhX0_put ⟨(Nat.le_of_ble_eq_true rfl), (Nat.le_of_ble_eq_true rfl)⟩) hx hb hml hown hn hK hZ hS mw_847 mw_s75 (ci := 0) (q0 := 0) rfl rfl rfl rfl hl.1 (Nat.le_of_ble_eq_true rfl) dX0_codePull_23 ⟨(Nat.le_of_ble_eq_true rfl), (Nat.le_of_ble_eq_true rfl)⟩) hP hD hS hA rfl rfl (by decide) (by decide) (by decide) (Nat.le_of_ble_eq_true rfl) (Nat.le_of_ble_eq_true rfl) (fun u23_2 H locs hp23_3 hP hD hS => ?_)
  obtain ⟨y_cd_423_4, k_p0r23_5, k_cdg23_6⟩ := u23_2
  obtain ⟨hp23_7, hp23_8⟩ := hp23_3
  have hp23_7 : rg y_cd_423_4 1 1073741825 := hp23_7
  have hP : va_P D vwCl [(cd, .inr (0, [.ref cds, .ref cdg, .ref f0, .ref p0, .int y_cd_423_4])), (p0, .inr (7, [.ref p0r, .int x_p0_1])), (p0r, .inl (ct 2, 4000, .inr (.inl k_p0r23_5))), (cdg, .inl (ct 1, 4000, .inl k_cdg23_6))] _ := hP
  have hD : va_D A [(cd, .inr (0, [.ref cds, .ref cdg, .ref f0, .ref p0, .int y_cd_423_4])), (p0, .inr (7, [.ref p0r, .int x_p0_1])), (p0r, .inl (ct 2, 4000, .inr (.inl k_p0r23_5))), (cdg, .inl (ct 1, 4000, .inl k_cdg23_6))] := hD
  exact endq_v hQ hx hb hr hlocks dX0_codePull_26 (y_cd_423_4, k_p0r23_5, k_cdg23_6) ⟨hp23_7, hp23_8⟩ hP hD hS [0, 1, 2, 3] rfl (by decide) rfl (Nat.le_of_ble_eq_true rfl) (Nat.le_of_ble_eq_true rfl)
set_option maxHeartbeats 2000000 in
theorem c_X0_rightIsNumber (l : Launch) (D : va_G) (ct : Nat → ClassId) (cd : Nat) (v0 : Int32) (cds : Nat) (cdg : Nat) (f0 : Nat) (p0 : Nat) (x_cd_4 : Int32) (f00 : Nat) (f01 : Nat) (f02 : Nat) (x_f0_3 : Int32) (f04 : Nat) (f05 : Nat) (f06 : Nat) (f07 : Nat) (f08 : Nat) (f09 : Nat) (f010 : Nat) (x_f0_11 : Int32) (x_f0_12 : Int32) (f013 : Nat) (x_f0_14 : Int32) (f015 : Nat) (x_f0_16 : Int32) (f017 : Nat) (g_f05 : Nat → Int32) (g_f06 : Nat → Int32) (g_f00 : Nat → Int32) (g_f01 : Nat → Int32) (h_x_cd_4 : rg x_cd_4 0 1073741824) (h_x_f0_3 : rg x_f0_3 0 7000) (h_x_f0_11 : rg x_f0_11 0 3000) (h_x_f0_12 : rg x_f0_12 0 3000) (h_x_f0_14 : rg x_f0_14 2 5000) (h_x_f0_16 : rg x_f0_16 0 6) (h_g_f05 : Rg g_f05 3000 0 7000) (h_g_f06 : Rg g_f06 3000 0 7000) (h_g_f00 : Rg g_f00 7000 0 8) : KI (S := Unit) l yX0_rightIsNumber cX0_rightIsNumber 3 (some .boolean) 1 20 D ct [.ref cd, .int v0] [(cd, .inr (0, [.ref cds, .ref cdg, .ref f0, .ref p0, .int x_cd_4])), (f0, .inr (2, [.ref f00, .ref f01, .ref f02, .int x_f0_3, .ref f04, .ref f05, .ref f06, .ref f07, .ref f08, .ref f09, .ref f010, .int x_f0_11, .int x_f0_12, .ref f013, .int x_f0_14, .ref f015, .int x_f0_16, .ref f017])), (f05, .inl (ct 1, 3000, .inl g_f05)), (f06, .inl (ct 1, 3000, .inl g_f06)), (f00, .inl (ct 1, 7000, .inl g_f00)), (f01, .inl (ct 1, 7000, .inl g_f01))] 0 0 (fun (r : Int32) (_ : Unit) => rg r 0 1) (fun (_ : Unit) => [(cd, .inr (0, [.ref cds, .ref cdg, .ref f0, .ref p0, .int x_cd_4])), (f0, .inr (2, [.ref f00, .ref f01, .ref f02, .int x_f0_3, .ref f04, .ref f05, .ref f06, .ref f07, .ref f08, .ref f09, .ref f010, .int x_f0_11, .int x_f0_12, .ref f013, .int x_f0_14, .ref f015, .int x_f0_16, .ref f017])), (f05, .inl (ct 1, 3000, .inl g_f05)), (f06, .inl (ct 1, 3000, .inl g_f06)), (f00, .inl (ct 1, 7000, .inl g_f00)), (f01, .inl (ct 1, 7000, .inl g_f01))]) := by
  refine KIq_of (by decide) (Nat.le_of_ble_eq_true rfl) (fun p e s m below meth c A Q C0 hA hS hP hD hQ ls hl => ?_)
  obtain ⟨hx, hb, hr, hown, hin, hml, hlocks, hn, hK, hZ⟩ := C0
  have hl : lv_has ls 3 [(0, .ref cd), (1, .int v0)] := hl
  refine lv_aload_n hx hb dX0_rightIsNumber_0 rfl (lv_at hl 0 rfl) ?_
  refine va_get (D := D) (ci := 0) (v := .ref f0) (C := RX0) (T := TX0) (N := 5) hx hb (htX0 hn) (fun _ h => h) hown hK hP 0 rfl rfl 2 (by decide) (hn.get mw_268 rfl) (fun _ h9 => h9) rfl dX0_rightIsNumber_1 ?_
  refine va_getN (D := D) (ci := 2) (v := .ref f05) (C := RX2) (T := TX2) (N := 18) hx hb (htX2 hn) (fun _ h => h) hown hK hP 1 rfl rfl 5 (by decide) (hn.get mw_158 rfl) (fun _ h9 => h9) rfl dX0_rightIsNumber_4 ?_
  refine lv_iload_n hx hb dX0_rightIsNumber_7 rfl (lv_at hl 1 rfl) ?_
  have hi8_1 : vp_in v0 3000 := (in_of (show 0 ≤ v0.toInt ∧ v0.toInt < 3000 by have q0 := (rg_any v0).1; have q1 := (rg_any v0).2; omega))
  refine va_iald hx hb hK hP 2 1 rfl rfl hi8_1 dX0_rightIsNumber_8 ?_
  refine lv_topi (fun z8_2 ez8_2 => ?_)
  have r8_3 : rg z8_2 0 7000 := Rg_at h_g_f05 hi8_1 ez8_2
  refine lv_istore_n (lv' := [(2, .int z8_2), (0, .ref cd), (1, .int v0)]) hx hb dX0_rightIsNumber_9 rfl hl (by decide) rfl (fun ls hl => ?_)
  refine lv_aload_n hx hb dX0_rightIsNumber_10 rfl (lv_at hl 1 rfl) ?_
  refine va_get (D := D) (ci := 0) (v := .ref f0) (C := RX0) (T := TX0) (N := 5) hx hb (htX0 hn) (fun _ h => h) hown hK hP 0 rfl rfl 2 (by decide) (hn.get mw_268 rfl) (fun _ h9 => h9) rfl dX0_rightIsNumber_11 ?_
  refine va_getN (D := D) (ci := 2) (v := .ref f06) (C := RX2) (T := TX2) (N := 18) hx hb (htX2 hn) (fun _ h => h) hown hK hP 1 rfl rfl 6 (by decide) (hn.get mw_160 rfl) (fun _ h9 => h9) rfl dX0_rightIsNumber_14 ?_
  refine lv_iload_n hx hb dX0_rightIsNumber_17 rfl (lv_at hl 2 rfl) ?_
  have hi18_1 : vp_in v0 3000 := (in_of (show 0 ≤ v0.toInt ∧ v0.toInt < 3000 by have q0 := (rg_any v0).1; have q1 := (rg_any v0).2; omega))
  refine va_iald hx hb hK hP 3 1 rfl rfl hi18_1 dX0_rightIsNumber_18 ?_
  refine lv_topi (fun z18_2 ez18_2 => ?_)
  have r18_3 : rg z18_2 0 7000 := Rg_at h_g_f06 hi18_1 ez18_2
  refine lv_iload_n hx hb dX0_rightIsNumber_19 rfl (lv_at hl 0 rfl) ?_
  refine lv_isub hx hb dX0_rightIsNumber_20 ?_
  refine lv_topi (fun z20_1 ez20_1 => ?_)
  have r20_2 : rg z20_1 (-7000) 7000 := rg_sub ez20_1 r18_3 r8_3 (by decide)
  refine lv_iconst (v := 1) hx hb dX0_rightIsNumber_21 (by decide) ?_
  have b54 : ∀  (H : Heap) (locs : List Loc) (ls : Array Slot), lv_has ls 3 [] → va_P D vwCl [(cd, .inr (0, [.ref cds, .ref cdg, .ref f0, .ref p0, .int x_cd_4])), (f0, .inr (2, [.ref f00, .ref f01, .ref f02, .int x_f0_3, .ref f04, .ref f05, .ref f06, .ref f07, .ref f08, .ref f09, .ref f010, .int x_f0_11, .int x_f0_12, .ref f013, .int x_f0_14, .ref f015, .int x_f0_16, .ref f017])), (f05, .inl (ct 1, 3000, .inl g_f05)), (f06, .inl (ct 1, 3000, .inl g_f06)), (f00, .inl (ct 1, 7000, .inl g_f00)), (f01, .inl (ct 1, 7000, .inl g_f01))] H → va_D A [(cd, .inr (0, [.ref cds, .ref cdg, .ref f0, .ref p0, .int x_cd_4])), (f0, .inr (2, [.ref f00, .ref f01, .ref f02, .int x_f0_3, .ref f04, .ref f05, .ref f06, .ref f07, .ref f08, .ref f09, .ref f010, .int x_f0_11, .int x_f0_12, .ref f013, .int x_f0_14, .ref f015, .int x_f0_16, .ref f017])), (f05, .inl (ct 1, 3000, .inl g_f05)), (f06, .inl (ct 1, 3000, .inl g_f06)), (f00, .inl (ct 1, 7000, .inl g_f00)), (f01, .inl (ct 1, 7000, .inl g_f01))] → va_S A s.heap H locs → W p l e ({ frames := 1, cells := 0, slots := 0, locals := 20 }) s m [.ref cd, .int v0].toArray below meth c H locs 0 0 Q (F0 m 54 ls []) := by
    intro  H locs ls  hl hP hD hS
    refine lv_iconst (v := 0) hx hb dX0_rightIsNumber_54 (by decide) ?_
    exact endq_i hQ hx hb hr hlocks dX0_rightIsNumber_55 (by decide) () (rg_w (rg_l (by decide)) (by decide)) hP hD hS [0, 1, 2, 3, 4, 5] rfl (by decide) rfl (Nat.le_of_ble_eq_true rfl) (Nat.le_of_ble_eq_true rfl)
  refine lv_icmp_ne (tgt := 54) hx hb dX0_rightIsNumber_22 (by decide) (fun c22_1 => ?_) (fun c22_1 => ?_)
  · have t22_2 := (i_ne c22_1)
    exact b54  H locs ls  (lv_sub hl [] rfl) hP hD hS
  · have t22_3 := (i_nne c22_1)
    have r22_4 : rg z20_1 1 1 := rg_eqA t22_3 r20_2 (show rg (1 : Int32) 1 1 from (rg_l (by decide))) (by decide)
    refine lv_aload_n hx hb dX0_rightIsNumber_25 rfl (lv_at hl 1 rfl) ?_
    refine va_get (D := D) (ci := 0) (v := .ref f0) (C := RX0) (T := TX0) (N := 5) hx hb (htX0 hn) (fun _ h => h) hown hK hP 0 rfl rfl 2 (by decide) (hn.get mw_268 rfl) (fun _ h9 => h9) rfl dX0_rightIsNumber_26 ?_
    refine va_getN (D := D) (ci := 2) (v := .ref f00) (C := RX2) (T := TX2) (N := 18) hx hb (htX2 hn) (fun _ h => h) hown hK hP 1 rfl rfl 0 (by decide) (hn.get mw_148 rfl) (fun _ h9 => h9) rfl dX0_rightIsNumber_29 ?_
    refine lv_iload_n hx hb dX0_rightIsNumber_32 rfl (lv_at hl 0 rfl) ?_
    have hi33_1 : vp_in z8_2 7000 := (in_of (show 0 ≤ z8_2.toInt ∧ z8_2.toInt < 7000 by have q0 := r8_3.1; have q1 := r8_3.2; omega))
    refine va_iald hx hb hK hP 4 1 rfl rfl hi33_1 dX0_rightIsNumber_33 ?_
    refine lv_topi (fun z33_2 ez33_2 => ?_)
    have r33_3 : rg z33_2 0 8 := Rg_at h_g_f00 hi33_1 ez33_2
    refine lv_if_ne (tgt := 54) hx hb dX0_rightIsNumber_34 (by decide) (fun c34_1 => ?_) (fun c34_1 => ?_)
    · have t34_2 := (i_ne c34_1)
      have r34_3 : rg z33_2 1 8 := rg_neAl t34_2 r33_3 (show rg (0 : Int32) 0 0 from (rg_l (by decide))) (by decide)
      exact b54  H locs ls  (lv_sub hl [] rfl) hP hD hS
    · have t34_4 := (i_nne c34_1)
      have r34_5 : rg z33_2 0 0 := rg_eqA t34_4 r33_3 (show rg (0 : Int32) 0 0 from (rg_l (by decide))) (by decide)
      refine lv_aload_n hx hb dX0_rightIsNumber_37 rfl (lv_at hl 1 rfl) ?_
      refine va_get (D := D) (ci := 0) (v := .ref f0) (C := RX0) (T := TX0) (N := 5) hx hb (htX0 hn) (fun _ h => h) hown hK hP 0 rfl rfl 2 (by decide) (hn.get mw_268 rfl) (fun _ h9 => h9) rfl dX0_rightIsNumber_38 ?_
      refine va_getN (D := D) (ci := 2) (v := .ref f01) (C := RX2) (T := TX2) (N := 18) hx hb (htX2 hn) (fun _ h => h) hown hK hP 1 rfl rfl 1 (by decide) (hn.get mw_150 rfl) (fun _ h9 => h9) rfl dX0_rightIsNumber_41 ?_
      refine lv_iload_n hx hb dX0_rightIsNumber_44 rfl (lv_at hl 0 rfl) ?_
      have hi45_1 : vp_in z8_2 7000 := (in_of (show 0 ≤ z8_2.toInt ∧ z8_2.toInt < 7000 by have q0 := r8_3.1; have q1 := r8_3.2; omega))
      refine va_iald hx hb hK hP 5 1 rfl rfl hi45_1 dX0_rightIsNumber_45 ?_
      refine lv_topi (fun z45_2 ez45_2 => ?_)
      refine lv_iconst (v := 1) hx hb dX0_rightIsNumber_46 (by decide) ?_
      refine lv_icmp_ne (tgt := 54) hx hb dX0_rightIsNumber_47 (by decide) (fun c47_1 => ?_) (fun c47_1 => ?_)
      · have t47_2 := (i_ne c47_1)
        exact b54  H locs ls  (lv_sub hl [] rfl) hP hD hS
      · have t47_3 := (i_nne c47_1)
        have r47_4 : rg z45_2 1 1 := rg_eqA t47_3 (rg_any z45_2) (show rg (1 : Int32) 1 1 from (rg_l (by decide))) (by decide)
        refine lv_iconst (v := 1) hx hb dX0_rightIsNumber_50 (by decide) ?_
        refine lv_goto (tgt := 55) hx hb dX0_rightIsNumber_51 (by decide) ?_
        exact endq_i hQ hx hb hr hlocks dX0_rightIsNumber_55 (by decide) () (rg_w (rg_l (by decide)) (by decide)) hP hD hS [0, 1, 2, 3, 4, 5] rfl (by decide) rfl (Nat.le_of_ble_eq_true rfl) (Nat.le_of_ble_eq_true rfl)
set_option maxHeartbeats 2000000 in
theorem c_X0_nextKept (l : Launch) (D : va_G) (ct : Nat → ClassId) (cd : Nat) (v0 : Int32) (cds : Nat) (cdg : Nat) (f0 : Nat) (p0 : Nat) (x_cd_4 : Int32) (f00 : Nat) (f01 : Nat) (f02 : Nat) (x_f0_3 : Int32) (f04 : Nat) (f05 : Nat) (f06 : Nat) (f07 : Nat) (f08 : Nat) (f09 : Nat) (f010 : Nat) (x_f0_11 : Int32) (x_f0_12 : Int32) (f013 : Nat) (x_f0_14 : Int32) (f015 : Nat) (x_f0_16 : Int32) (f017 : Nat) (g_f010 : Nat → Int32) (h_x_cd_4 : rg x_cd_4 0 1073741824) (h_x_f0_3 : rg x_f0_3 0 7000) (h_x_f0_11 : rg x_f0_11 0 3000) (h_x_f0_12 : rg x_f0_12 0 3000) (h_x_f0_14 : rg x_f0_14 2 5000) (h_x_f0_16 : rg x_f0_16 0 6) (h_g_f010 : Rg g_f010 3000 0 1) : KI (S := Unit) l yX0_nextKept cX0_nextKept 3 (some .int) 1 20 D ct [.ref cd, .int v0] [(cd, .inr (0, [.ref cds, .ref cdg, .ref f0, .ref p0, .int x_cd_4])), (f0, .inr (2, [.ref f00, .ref f01, .ref f02, .int x_f0_3, .ref f04, .ref f05, .ref f06, .ref f07, .ref f08, .ref f09, .ref f010, .int x_f0_11, .int x_f0_12, .ref f013, .int x_f0_14, .ref f015, .int x_f0_16, .ref f017])), (f010, .inl (ct 3, 3000, .inl g_f010))] 0 0 (fun (r : Int32) (_ : Unit) => True) (fun (_ : Unit) => [(cd, .inr (0, [.ref cds, .ref cdg, .ref f0, .ref p0, .int x_cd_4])), (f0, .inr (2, [.ref f00, .ref f01, .ref f02, .int x_f0_3, .ref f04, .ref f05, .ref f06, .ref f07, .ref f08, .ref f09, .ref f010, .int x_f0_11, .int x_f0_12, .ref f013, .int x_f0_14, .ref f015, .int x_f0_16, .ref f017])), (f010, .inl (ct 3, 3000, .inl g_f010))]) := by
  refine KIq_of (by decide) (Nat.le_of_ble_eq_true rfl) (fun p e s m below meth c A Q C0 hA hS hP hD hQ ls hl => ?_)
  obtain ⟨hx, hb, hr, hown, hin, hml, hlocks, hn, hK, hZ⟩ := C0
  have hl : lv_has ls 3 [(0, .ref cd), (1, .int v0)] := hl
  refine lv_iload_n hx hb dX0_nextKept_0 rfl (lv_at hl 1 rfl) ?_
  refine lv_iconst (v := 1) hx hb dX0_nextKept_1 (by decide) ?_
  refine lv_iadd hx hb dX0_nextKept_2 ?_
  refine lv_topi (fun z2_1 ez2_1 => ?_)
  refine lv_istore_n (lv' := [(2, .int z2_1), (0, .ref cd), (1, .int v0)]) hx hb dX0_nextKept_3 rfl hl (by decide) rfl (fun ls hl => ?_)
  have b4 : ∀ (n : Nat) (j4_l2 : Int32) (H : Heap) (locs : List Loc) (ls : Array Slot), ((2147483647 : Int) - j4_l2.toInt).toNat < n → lv_has ls 3 [(0, .ref cd), (2, .int j4_l2)] → va_P D vwCl [(cd, .inr (0, [.ref cds, .ref cdg, .ref f0, .ref p0, .int x_cd_4])), (f0, .inr (2, [.ref f00, .ref f01, .ref f02, .int x_f0_3, .ref f04, .ref f05, .ref f06, .ref f07, .ref f08, .ref f09, .ref f010, .int x_f0_11, .int x_f0_12, .ref f013, .int x_f0_14, .ref f015, .int x_f0_16, .ref f017])), (f010, .inl (ct 3, 3000, .inl g_f010))] H → va_D A [(cd, .inr (0, [.ref cds, .ref cdg, .ref f0, .ref p0, .int x_cd_4])), (f0, .inr (2, [.ref f00, .ref f01, .ref f02, .int x_f0_3, .ref f04, .ref f05, .ref f06, .ref f07, .ref f08, .ref f09, .ref f010, .int x_f0_11, .int x_f0_12, .ref f013, .int x_f0_14, .ref f015, .int x_f0_16, .ref f017])), (f010, .inl (ct 3, 3000, .inl g_f010))] → va_S A s.heap H locs → W p l e ({ frames := 1, cells := 0, slots := 0, locals := 20 }) s m [.ref cd, .int v0].toArray below meth c H locs 0 0 Q (F0 m 4 ls []) := by
    intro n
    induction n with
    | zero => intros; rename_i hn _ _ _ _; exact absurd hn (Nat.not_lt_zero _)
    | succ n ih =>
      intro j4_l2 H locs ls  hn hl hP hD hS
      refine lv_iload_n hx hb dX0_nextKept_4 rfl (lv_at hl 1 rfl) ?_
      refine lv_aload_n hx hb dX0_nextKept_5 rfl (lv_at hl 0 rfl) ?_
      refine va_get (D := D) (ci := 0) (v := .ref f0) (C := RX0) (T := TX0) (N := 5) hx hb (htX0 hn) (fun _ h => h) hown hK hP 0 rfl rfl 2 (by decide) (hn.get mw_268 rfl) (fun _ h9 => h9) rfl dX0_nextKept_6 ?_
      refine va_getN (D := D) (ci := 2) (v := .int x_f0_11) (C := RX2) (T := TX2) (N := 18) hx hb (htX2 hn) (fun _ h => h) hown hK hP 1 rfl rfl 11 (by decide) (hn.get mw_170 rfl) (fun _ h9 => h9) rfl dX0_nextKept_9 ?_
      have b33 : ∀ (j33_l2 : Int32) (H : Heap) (locs : List Loc) (ls : Array Slot), lv_has ls 3 [(2, .int j33_l2)] → va_P D vwCl [(cd, .inr (0, [.ref cds, .ref cdg, .ref f0, .ref p0, .int x_cd_4])), (f0, .inr (2, [.ref f00, .ref f01, .ref f02, .int x_f0_3, .ref f04, .ref f05, .ref f06, .ref f07, .ref f08, .ref f09, .ref f010, .int x_f0_11, .int x_f0_12, .ref f013, .int x_f0_14, .ref f015, .int x_f0_16, .ref f017])), (f010, .inl (ct 3, 3000, .inl g_f010))] H → va_D A [(cd, .inr (0, [.ref cds, .ref cdg, .ref f0, .ref p0, .int x_cd_4])), (f0, .inr (2, [.ref f00, .ref f01, .ref f02, .int x_f0_3, .ref f04, .ref f05, .ref f06, .ref f07, .ref f08, .ref f09, .ref f010, .int x_f0_11, .int x_f0_12, .ref f013, .int x_f0_14, .ref f015, .int x_f0_16, .ref f017])), (f010, .inl (ct 3, 3000, .inl g_f010))] → va_S A s.heap H locs → W p l e ({ frames := 1, cells := 0, slots := 0, locals := 20 }) s m [.ref cd, .int v0].toArray below meth c H locs 0 0 Q (F0 m 33 ls []) := by
        intro j33_l2 H locs ls  hl hP hD hS
        refine lv_iload_n hx hb dX0_nextKept_33 rfl (lv_at hl 0 rfl) ?_
        exact endq_i hQ hx hb hr hlocks dX0_nextKept_34 rfl () trivial hP hD hS [0, 1, 2] rfl (by decide) rfl (Nat.le_of_ble_eq_true rfl) (Nat.le_of_ble_eq_true rfl)
      refine lv_icmp_ge (tgt := 33) hx hb dX0_nextKept_12 (by decide) (fun c12_1 => ?_) (fun c12_1 => ?_)
      · have t12_2 := (i_le c12_1)
        have r12_3 : rg j4_l2 0 2147483647 := rg_leB t12_2 h_x_f0_11 (rg_any j4_l2) (by decide)
        exact b33 j4_l2 H locs ls  (lv_sub hl [1] rfl) hP hD hS
      · have t12_4 := (i_nle c12_1)
        have r12_5 : rg j4_l2 (-2147483648) 2999 := rg_ltA t12_4 (rg_any j4_l2) h_x_f0_11 (by decide)
        refine lv_aload_n hx hb dX0_nextKept_15 rfl (lv_at hl 0 rfl) ?_
        refine va_get (D := D) (ci := 0) (v := .ref f0) (C := RX0) (T := TX0) (N := 5) hx hb (htX0 hn) (fun _ h => h) hown hK hP 0 rfl rfl 2 (by decide) (hn.get mw_268 rfl) (fun _ h9 => h9) rfl dX0_nextKept_16 ?_
        refine va_getN (D := D) (ci := 2) (v := .ref f010) (C := RX2) (T := TX2) (N := 18) hx hb (htX2 hn) (fun _ h => h) hown hK hP 1 rfl rfl 10 (by decide) (hn.get mw_168 rfl) (fun _ h9 => h9) rfl dX0_nextKept_19 ?_
        refine lv_iload_n hx hb dX0_nextKept_22 rfl (lv_at hl 1 rfl) ?_
        have hi23_1 : vp_in j4_l2 3000 := (in_of (show 0 ≤ j4_l2.toInt ∧ j4_l2.toInt < 3000 by have q0 := r12_5.1; have q1 := r12_5.2; have q2 := t12_4; have q4 := h_x_f0_11.1; have q5 := h_x_f0_11.2; omega))
        refine va_zald hx hb hK hP 2 3 rfl rfl hi23_1 dX0_nextKept_23 ?_
        refine lv_topi (fun z23_2 ez23_2 => ?_)
        have r23_3 : rg z23_2 0 1 := Rg_at h_g_f010 hi23_1 ez23_2
        refine lv_if_ne (tgt := 33) hx hb dX0_nextKept_24 (by decide) (fun c24_1 => ?_) (fun c24_1 => ?_)
        · have t24_2 := (i_ne c24_1)
          have r24_3 : rg z23_2 1 1 := rg_neAl t24_2 r23_3 (show rg (0 : Int32) 0 0 from (rg_l (by decide))) (by decide)
          exact b33 j4_l2 H locs ls  (lv_sub hl [1] rfl) hP hD hS
        · have t24_4 := (i_nne c24_1)
          have r24_5 : rg z23_2 0 0 := rg_eqA t24_4 r23_3 (show rg (0 : Int32) 0 0 from (rg_l (by decide))) (by decide)
          obtain ⟨x27_1, ex27_1⟩ : ∃ z : Int32, z = j4_l2 + 1 := ⟨_, rfl⟩
          have r27_2 : rg x27_1 (-2147483647) 3000 := rg_add ex27_1 r12_5 (rg_l (by decide)) (by decide)
          refine lv_iinc (v := x27_1) (lv' := [(2, .int x27_1), (0, .ref cd)]) hx hb dX0_nextKept_27 hl (k := 1) rfl (by rw [ex27_1]; rfl) (by decide) rfl (fun ls hl => ?_)
          refine lv_goto (tgt := 4) hx hb dX0_nextKept_30 (by decide) ?_
          exact ih x27_1 H locs ls  (show ((2147483647 : Int) - x27_1.toInt).toNat < n by have q0 := r27_2.1; have q1 := r27_2.2; have q2 := (eq_add ex27_1 r12_5 (show rg (1 : Int32) 1 1 from (rg_l (by decide))) (by decide)); have q4 := r12_5.1; have q5 := r12_5.2; have q6 := t12_4; have q8 := (show rg (1 : Int32) 1 1 from (rg_l (by decide))).1; have q9 := (show rg (1 : Int32) 1 1 from (rg_l (by decide))).2; have q10 := h_x_f0_11.1; have q11 := h_x_f0_11.2; have q12 := hn; omega) (lv_sub hl [1, 0] rfl) hP hD hS
  exact b4 _ z2_1 H locs ls  (Nat.lt_succ_self _) (lv_sub hl [1, 0] rfl) hP hD hS
set_option maxHeartbeats 2000000 in
theorem c_X11_otherOp (l : Launch) (D : va_G) (ct : Nat → ClassId) (v0 : Int32)  : KI (S := Unit) l yX11_otherOp cX11_otherOp 1 (some .int) 1 20 D ct [.int v0] [] 0 0 (fun (r : Int32) (_ : Unit) => rg r 1 11) (fun (_ : Unit) => []) := by
  refine KIq_of (by decide) (Nat.le_of_ble_eq_true rfl) (fun p e s m below meth c A Q C0 hA hS hP hD hQ ls hl => ?_)
  obtain ⟨hx, hb, hr, hown, hin, hml, hlocks, hn, hK, hZ⟩ := C0
  have hl : lv_has ls 1 [(0, .int v0)] := hl
  refine lv_iload_n hx hb dX11_otherOp_0 rfl (lv_at hl 0 rfl) ?_
  have b68 : ∀  (H : Heap) (locs : List Loc) (ls : Array Slot), lv_has ls 1 [] → va_P D vwCl [] H → va_D A [] → va_S A s.heap H locs → W p l e ({ frames := 1, cells := 0, slots := 0, locals := 20 }) s m [.int v0].toArray below meth c H locs 0 0 Q (F0 m 68 ls []) := by
    intro  H locs ls  hl hP hD hS
    refine lv_iconst (v := 2) hx hb dX11_otherOp_68 (by decide) ?_
    exact endq_i hQ hx hb hr hlocks dX11_otherOp_69 rfl () (rg_w (rg_l (by decide)) (by decide)) hP hD hS [] rfl (by decide) rfl (Nat.le_of_ble_eq_true rfl) (Nat.le_of_ble_eq_true rfl)
  by_cases h1_1 : v0.toInt = 1
  · have r1_2 : rg v0 1 1 := rg_at h1_1
    refine lv_tableIn (off := 55) (tgt := 56) hx hb dX11_otherOp_1 (by rw [h1_1]; decide) (by rw [h1_1]; decide) (by rw [h1_1]; rfl) (by decide) ?_
    refine lv_iconst (v := 5) hx hb dX11_otherOp_56 (by decide) ?_
    exact endq_i hQ hx hb hr hlocks dX11_otherOp_57 rfl () (rg_w (rg_l (by decide)) (by decide)) hP hD hS [] rfl (by decide) rfl (Nat.le_of_ble_eq_true rfl) (Nat.le_of_ble_eq_true rfl)
  by_cases h57_1 : v0.toInt = 2
  · have r57_2 : rg v0 2 2 := rg_at h57_1
    refine lv_tableIn (off := 64) (tgt := 65) hx hb dX11_otherOp_1 (by rw [h57_1]; decide) (by rw [h57_1]; decide) (by rw [h57_1]; rfl) (by decide) ?_
    refine lv_bipush (v := 11) hx hb dX11_otherOp_65 (by decide) ?_
    exact endq_i hQ hx hb hr hlocks dX11_otherOp_67 rfl () (rg_w (rg_l (by decide)) (by decide)) hP hD hS [] rfl (by decide) rfl (Nat.le_of_ble_eq_true rfl) (Nat.le_of_ble_eq_true rfl)
  by_cases h67_1 : v0.toInt = 3
  · have r67_2 : rg v0 3 3 := rg_at h67_1
    refine lv_tableIn (off := 61) (tgt := 62) hx hb dX11_otherOp_1 (by rw [h67_1]; decide) (by rw [h67_1]; decide) (by rw [h67_1]; rfl) (by decide) ?_
    refine lv_bipush (v := 10) hx hb dX11_otherOp_62 (by decide) ?_
    exact endq_i hQ hx hb hr hlocks dX11_otherOp_64 rfl () (rg_w (rg_l (by decide)) (by decide)) hP hD hS [] rfl (by decide) rfl (Nat.le_of_ble_eq_true rfl) (Nat.le_of_ble_eq_true rfl)
  by_cases h64_1 : v0.toInt = 4
  · have r64_2 : rg v0 4 4 := rg_at h64_1
    refine lv_tableIn (off := 67) (tgt := 68) hx hb dX11_otherOp_1 (by rw [h64_1]; decide) (by rw [h64_1]; decide) (by rw [h64_1]; rfl) (by decide) ?_
    exact b68  H locs ls  (lv_sub hl [] rfl) hP hD hS
  by_cases h64_3 : v0.toInt = 5
  · have r64_4 : rg v0 5 5 := rg_at h64_3
    refine lv_tableIn (off := 57) (tgt := 58) hx hb dX11_otherOp_1 (by rw [h64_3]; decide) (by rw [h64_3]; decide) (by rw [h64_3]; rfl) (by decide) ?_
    refine lv_iconst (v := 1) hx hb dX11_otherOp_58 (by decide) ?_
    exact endq_i hQ hx hb hr hlocks dX11_otherOp_59 rfl () (rg_w (rg_l (by decide)) (by decide)) hP hD hS [] rfl (by decide) rfl (Nat.le_of_ble_eq_true rfl) (Nat.le_of_ble_eq_true rfl)
  by_cases h59_1 : v0.toInt = 6
  · have r59_2 : rg v0 6 6 := rg_at h59_1
    refine lv_tableIn (off := 67) (tgt := 68) hx hb dX11_otherOp_1 (by rw [h59_1]; decide) (by rw [h59_1]; decide) (by rw [h59_1]; rfl) (by decide) ?_
    exact b68  H locs ls  (lv_sub hl [] rfl) hP hD hS
  by_cases h59_3 : v0.toInt = 7
  · have r59_4 : rg v0 7 7 := rg_at h59_3
    refine lv_tableIn (off := 67) (tgt := 68) hx hb dX11_otherOp_1 (by rw [h59_3]; decide) (by rw [h59_3]; decide) (by rw [h59_3]; rfl) (by decide) ?_
    exact b68  H locs ls  (lv_sub hl [] rfl) hP hD hS
  by_cases h59_5 : v0.toInt = 8
  · have r59_6 : rg v0 8 8 := rg_at h59_5
    refine lv_tableIn (off := 67) (tgt := 68) hx hb dX11_otherOp_1 (by rw [h59_5]; decide) (by rw [h59_5]; decide) (by rw [h59_5]; rfl) (by decide) ?_
    exact b68  H locs ls  (lv_sub hl [] rfl) hP hD hS
  by_cases h59_7 : v0.toInt = 9
  · have r59_8 : rg v0 9 9 := rg_at h59_7
    refine lv_tableIn (off := 67) (tgt := 68) hx hb dX11_otherOp_1 (by rw [h59_7]; decide) (by rw [h59_7]; decide) (by rw [h59_7]; rfl) (by decide) ?_
    exact b68  H locs ls  (lv_sub hl [] rfl) hP hD hS
  by_cases h59_9 : v0.toInt = 10
  · have r59_10 : rg v0 10 10 := rg_at h59_9
    refine lv_tableIn (off := 59) (tgt := 60) hx hb dX11_otherOp_1 (by rw [h59_9]; decide) (by rw [h59_9]; decide) (by rw [h59_9]; rfl) (by decide) ?_
    refine lv_iconst (v := 3) hx hb dX11_otherOp_60 (by decide) ?_
    exact endq_i hQ hx hb hr hlocks dX11_otherOp_61 rfl () (rg_w (rg_l (by decide)) (by decide)) hP hD hS [] rfl (by decide) rfl (Nat.le_of_ble_eq_true rfl) (Nat.le_of_ble_eq_true rfl)
  refine lv_tableOut (tgt := 68) hx hb dX11_otherOp_1 (by have q0 := (rg_any v0); have q1 := q0.1; have q2 := q0.2; omega) (by decide) ?_
  exact b68  H locs ls  (lv_sub hl [] rfl) hP hD hS
set_option maxHeartbeats 2000000 in
theorem c_X0_placeGoals (l : Launch) (D : va_G) (ct : Nat → ClassId) (cd : Nat) (cds : Nat) (cdg : Nat) (f0 : Nat) (p0 : Nat) (x_cd_4 : Int32) (g_cdg : Nat → Int32) (p0r : Nat) (x_p0_1 : Int32) (g_p0r : Nat → Int64) (g_cds : Nat → Int32) (h_x_cd_4 : rg x_cd_4 0 1073741824) (h_g_cdg : Rg g_cdg 4000 (-1) 3001) (h_x_p0_1 : rg x_p0_1 0 4000) : KV (S := (Nat → Int64)) l yX0_placeGoals cX0_placeGoals 2 none 1 20 D ct [.ref cd] [(cd, .inr (0, [.ref cds, .ref cdg, .ref f0, .ref p0, .int x_cd_4])), (cdg, .inl (ct 1, 4000, .inl g_cdg)), (p0, .inr (7, [.ref p0r, .int x_p0_1])), (p0r, .inl (ct 2, 4000, .inr (.inl g_p0r))), (cds, .inl (ct 1, 3002, .inl g_cds))] 0 0 (fun (k_p0r : (Nat → Int64)) => True) (fun (k_p0r : (Nat → Int64)) => [(cd, .inr (0, [.ref cds, .ref cdg, .ref f0, .ref p0, .int x_cd_4])), (cdg, .inl (ct 1, 4000, .inl g_cdg)), (p0, .inr (7, [.ref p0r, .int x_p0_1])), (p0r, .inl (ct 2, 4000, .inr (.inl k_p0r))), (cds, .inl (ct 1, 3002, .inl g_cds))]) := by
  refine KVq_of (by decide) (Nat.le_of_ble_eq_true rfl) (fun p e s m below meth c A Q C0 hA hS hP hD hQ ls hl => ?_)
  obtain ⟨hx, hb, hr, hown, hin, hml, hlocks, hn, hK, hZ⟩ := C0
  have hl : lv_has ls 2 [(0, .ref cd)] := hl
  refine lv_iconst (v := 0) hx hb dX0_placeGoals_0 (by decide) ?_
  refine lv_istore_n (lv' := [(1, .int 0), (0, .ref cd)]) hx hb dX0_placeGoals_1 rfl hl (by decide) rfl (fun ls hl => ?_)
  have b2 : ∀ (n : Nat) (j2_l1 : Int32) (j2_cp0r : Nat → Int64) (H : Heap) (locs : List Loc) (ls : Array Slot), ((2147483647 : Int) - j2_l1.toInt).toNat < n → lv_has ls 2 [(0, .ref cd), (1, .int j2_l1)] → va_P D vwCl [(cd, .inr (0, [.ref cds, .ref cdg, .ref f0, .ref p0, .int x_cd_4])), (cdg, .inl (ct 1, 4000, .inl g_cdg)), (p0, .inr (7, [.ref p0r, .int x_p0_1])), (p0r, .inl (ct 2, 4000, .inr (.inl j2_cp0r))), (cds, .inl (ct 1, 3002, .inl g_cds))] H → va_D A [(cd, .inr (0, [.ref cds, .ref cdg, .ref f0, .ref p0, .int x_cd_4])), (cdg, .inl (ct 1, 4000, .inl g_cdg)), (p0, .inr (7, [.ref p0r, .int x_p0_1])), (p0r, .inl (ct 2, 4000, .inr (.inl j2_cp0r))), (cds, .inl (ct 1, 3002, .inl g_cds))] → va_S A s.heap H locs → W p l e ({ frames := 1, cells := 0, slots := 0, locals := 20 }) s m [.ref cd].toArray below meth c H locs 0 0 Q (F0 m 2 ls []) := by
    intro n
    induction n with
    | zero => intros; rename_i hn _ _ _ _; exact absurd hn (Nat.not_lt_zero _)
    | succ n ih =>
      intro j2_l1 j2_cp0r H locs ls  hn hl hP hD hS
      refine lv_iload_n hx hb dX0_placeGoals_2 rfl (lv_at hl 1 rfl) ?_
      refine lv_aload_n hx hb dX0_placeGoals_3 rfl (lv_at hl 0 rfl) ?_
      refine va_get (D := D) (ci := 0) (v := .int x_cd_4) (C := RX0) (T := TX0) (N := 5) hx hb (htX0 hn) (fun _ h => h) hown hK hP 0 rfl rfl 4 (by decide) (hn.get mw_270 rfl) (fun _ h9 => h9) rfl dX0_placeGoals_4 ?_
      refine lv_icmp_ge (tgt := 60) hx hb dX0_placeGoals_7 (by decide) (fun c7_1 => ?_) (fun c7_1 => ?_)
      · have t7_2 := (i_le c7_1)
        have r7_3 : rg j2_l1 0 2147483647 := rg_leB t7_2 h_x_cd_4 (rg_any j2_l1) (by decide)
        exact endq_v hQ hx hb hr hlocks dX0_placeGoals_60 j2_cp0r trivial hP hD hS [0, 1, 2, 3, 4] rfl (by decide) rfl (Nat.le_of_ble_eq_true rfl) (Nat.le_of_ble_eq_true rfl)
      · have t60_1 := (i_nle c7_1)
        have r60_2 : rg j2_l1 (-2147483648) 1073741823 := rg_ltA t60_1 (rg_any j2_l1) h_x_cd_4 (by decide)
        refine lv_aload_n hx hb dX0_placeGoals_10 rfl (lv_at hl 0 rfl) ?_
        refine va_get (D := D) (ci := 0) (v := .ref cdg) (C := RX0) (T := TX0) (N := 5) hx hb (htX0 hn) (fun _ h => h) hown hK hP 0 rfl rfl 1 (by decide) (hn.get mw_267 rfl) (fun _ h9 => h9) rfl dX0_placeGoals_11 ?_
        refine lv_iload_n hx hb dX0_placeGoals_14 rfl (lv_at hl 1 rfl) ?_
        have hi15_1 : vp_in j2_l1 4000 := (in_of (show 0 ≤ j2_l1.toInt ∧ j2_l1.toInt < 4000 by have q0 := r60_2.1; have q1 := r60_2.2; have q2 := t60_1; have q4 := h_x_cd_4.1; have q5 := h_x_cd_4.2; omega))
        refine va_iald hx hb hK hP 1 1 rfl rfl hi15_1 dX0_placeGoals_15 ?_
        refine lv_topi (fun z15_2 ez15_2 => ?_)
        have r15_3 : rg z15_2 (-1) 3001 := Rg_at h_g_cdg hi15_1 ez15_2
        have b54 : ∀ (j54_l1 : Int32) (j54_cp0r : Nat → Int64) (H : Heap) (locs : List Loc) (ls : Array Slot), lv_has ls 2 [(0, .ref cd), (1, .int j54_l1)] → va_P D vwCl [(cd, .inr (0, [.ref cds, .ref cdg, .ref f0, .ref p0, .int x_cd_4])), (cdg, .inl (ct 1, 4000, .inl g_cdg)), (p0, .inr (7, [.ref p0r, .int x_p0_1])), (p0r, .inl (ct 2, 4000, .inr (.inl j54_cp0r))), (cds, .inl (ct 1, 3002, .inl g_cds))] H → va_D A [(cd, .inr (0, [.ref cds, .ref cdg, .ref f0, .ref p0, .int x_cd_4])), (cdg, .inl (ct 1, 4000, .inl g_cdg)), (p0, .inr (7, [.ref p0r, .int x_p0_1])), (p0r, .inl (ct 2, 4000, .inr (.inl j54_cp0r))), (cds, .inl (ct 1, 3002, .inl g_cds))] → va_S A s.heap H locs → W p l e ({ frames := 1, cells := 0, slots := 0, locals := 20 }) s m [.ref cd].toArray below meth c H locs 0 0 Q (F0 m 54 ls []) := by
          intro j54_l1 j54_cp0r H locs ls  hl hP hD hS
          obtain ⟨x54_1, ex54_1⟩ : ∃ z : Int32, z = j54_l1 + 1 := ⟨_, rfl⟩
          refine lv_iinc (v := x54_1) (lv' := [(1, .int x54_1), (0, .ref cd)]) hx hb dX0_placeGoals_54 hl (k := 1) rfl (by rw [ex54_1]; rfl) (by decide) rfl (fun ls hl => ?_)
          refine lv_goto (tgt := 2) hx hb dX0_placeGoals_57 (by decide) ?_
          exact ih x54_1 j54_cp0r H locs ls  (show ((2147483647 : Int) - x54_1.toInt).toNat < n by have q0 := (rg_any x54_1).1; have q1 := (rg_any x54_1).2; have q2 := r60_2.1; have q3 := r60_2.2; have q4 := t60_1; have q6 := h_x_cd_4.1; have q7 := h_x_cd_4.2; have q8 := hn; omega) (lv_sub hl [1, 0] rfl) hP hD hS
        refine lv_if_lt (tgt := 54) hx hb dX0_placeGoals_16 (by decide) (fun c16_1 => ?_) (fun c16_1 => ?_)
        · have t16_2 := (i_lt c16_1)
          have r16_3 : rg z15_2 (-1) (-1) := rg_ltA t16_2 r15_3 (show rg (0 : Int32) 0 0 from (rg_l (by decide))) (by decide)
          exact b54 j2_l1 j2_cp0r H locs ls  (lv_sub hl [0, 1] rfl) hP hD hS
        · have t16_4 := (i_nlt c16_1)
          have r16_5 : rg z15_2 0 3001 := rg_leB t16_4 (show rg (0 : Int32) 0 0 from (rg_l (by decide))) r15_3 (by decide)
          refine lv_aload_n hx hb dX0_placeGoals_19 rfl (lv_at hl 0 rfl) ?_
          refine va_get (D := D) (ci := 0) (v := .ref p0) (C := RX0) (T := TX0) (N := 5) hx hb (htX0 hn) (fun _ h => h) hown hK hP 0 rfl rfl 3 (by decide) (hn.get mw_269 rfl) (fun _ h9 => h9) rfl dX0_placeGoals_20 ?_
          refine va_getN (D := D) (ci := 7) (v := .ref p0r) (C := RX7) (T := TX7) (N := 2) hx hb (htX7 hn) (fun _ h => h) hown hK hP 2 rfl rfl 0 (by decide) (hn.get mw_224 rfl) (fun _ h9 => h9) rfl dX0_placeGoals_23 ?_
          refine lv_iload_n hx hb dX0_placeGoals_26 rfl (lv_at hl 1 rfl) ?_
          refine lv_dup2_11 hx hb dX0_placeGoals_27 rfl rfl ?_
          have hi28_1 : vp_in j2_l1 4000 := (in_of (show 0 ≤ j2_l1.toInt ∧ j2_l1.toInt < 4000 by have q0 := r60_2.1; have q1 := r60_2.2; have q2 := t60_1; have q4 := h_x_cd_4.1; have q5 := h_x_cd_4.2; omega))
          refine va_lald hx hb hK hP 3 2 rfl rfl hi28_1 dX0_placeGoals_28 ?_
          refine lv_topl (fun z28_2 ez28_2 => ?_)
          refine lv_aload_n hx hb dX0_placeGoals_29 rfl (lv_at hl 0 rfl) ?_
          refine va_get (D := D) (ci := 0) (v := .ref cds) (C := RX0) (T := TX0) (N := 5) hx hb (htX0 hn) (fun _ h => h) hown hK hP 0 rfl rfl 0 (by decide) (hn.get mw_266 rfl) (fun _ h9 => h9) rfl dX0_placeGoals_30 ?_
          refine lv_aload_n hx hb dX0_placeGoals_33 rfl (lv_at hl 0 rfl) ?_
          refine va_get (D := D) (ci := 0) (v := .ref cdg) (C := RX0) (T := TX0) (N := 5) hx hb (htX0 hn) (fun _ h => h) hown hK hP 0 rfl rfl 1 (by decide) (hn.get mw_267 rfl) (fun _ h9 => h9) rfl dX0_placeGoals_34 ?_
          refine lv_iload_n hx hb dX0_placeGoals_37 rfl (lv_at hl 1 rfl) ?_
          have hi38_1 : vp_in j2_l1 4000 := (in_of (show 0 ≤ j2_l1.toInt ∧ j2_l1.toInt < 4000 by have q0 := r60_2.1; have q1 := r60_2.2; have q2 := t60_1; have q4 := h_x_cd_4.1; have q5 := h_x_cd_4.2; omega))
          refine va_iald hx hb hK hP 1 1 rfl rfl hi38_1 dX0_placeGoals_38 ?_
          refine lv_topi (fun z38_2 ez38_2 => ?_)
          have r38_3 : rg z38_2 (-1) 3001 := Rg_at h_g_cdg hi38_1 ez38_2
          have hi39_1 : vp_in z38_2 3002 := (in_of (show 0 ≤ z38_2.toInt ∧ z38_2.toInt < 3002 by have q0 := r38_3.1; have q1 := r38_3.2; omega))
          refine va_iald hx hb hK hP 4 1 rfl rfl hi39_1 dX0_placeGoals_39 ?_
          refine lv_topi (fun z39_2 ez39_2 => ?_)
          refine lv_iload_n hx hb dX0_placeGoals_40 rfl (lv_at hl 1 rfl) ?_
          refine lv_isub hx hb dX0_placeGoals_41 ?_
          refine lv_topi (fun z41_1 ez41_1 => ?_)
          refine lv_iconst (v := 1) hx hb dX0_placeGoals_42 (by decide) ?_
          refine lv_isub hx hb dX0_placeGoals_43 ?_
          refine lv_topi (fun z43_1 ez43_1 => ?_)
          refine lv_i2l hx hb dX0_placeGoals_44 rfl ?_
          refine lv_topl (fun z44_1 ez44_1 => ?_)
          have r44_2 : rl z44_1 (-2147483648) 2147483647 := rl_i2l ez44_1 (rg_any z43_1)
          refine lv_ldc2 (v := 65535) hx hb hown (hn.get mw_912 rfl) dX0_placeGoals_45 ?_
          refine lv_land hx hb dX0_placeGoals_48 ?_
          refine lv_topl (fun z48_1 ez48_1 => ?_)
          have r48_2 : rl z48_1 0 65535 := rgL_andr ez48_1 (rl_l (by decide)) (by decide)
          refine lv_bipush (v := 16) hx hb dX0_placeGoals_49 (by decide) ?_
          refine lv_lshl hx hb dX0_placeGoals_51 rfl ?_
          refine lv_topl (fun z51_1 ez51_1 => ?_)
          refine lv_lor hx hb dX0_placeGoals_52 ?_
          refine lv_topl (fun z52_1 ez52_1 => ?_)
          have hi53_1 : vp_in j2_l1 4000 := (in_of (show 0 ≤ j2_l1.toInt ∧ j2_l1.toInt < 4000 by have q0 := r60_2.1; have q1 := r60_2.2; have q2 := t60_1; have q4 := h_x_cd_4.1; have q5 := h_x_cd_4.2; omega))
          refine va_last hx hb hK hP hD hS 3 2 rfl rfl hi53_1 dX0_placeGoals_53 (fun H locs hP hD hS => ?_)
          have hP : va_P D vwCl [(cd, .inr (0, [.ref cds, .ref cdg, .ref f0, .ref p0, .int x_cd_4])), (cdg, .inl (ct 1, 4000, .inl g_cdg)), (p0, .inr (7, [.ref p0r, .int x_p0_1])), (p0r, .inl (ct 2, 4000, .inr (.inl (vp_updL j2_cp0r j2_l1.toNatClampNeg z52_1)))), (cds, .inl (ct 1, 3002, .inl g_cds))] _ := hP
          have hD : va_D A [(cd, .inr (0, [.ref cds, .ref cdg, .ref f0, .ref p0, .int x_cd_4])), (cdg, .inl (ct 1, 4000, .inl g_cdg)), (p0, .inr (7, [.ref p0r, .int x_p0_1])), (p0r, .inl (ct 2, 4000, .inr (.inl (vp_updL j2_cp0r j2_l1.toNatClampNeg z52_1)))), (cds, .inl (ct 1, 3002, .inl g_cds))] := hD
          obtain ⟨f53_2, ef53_2⟩ : ∃ z, z = (vp_updL j2_cp0r j2_l1.toNatClampNeg z52_1) := ⟨_, rfl⟩
          rw [← ef53_2] at hP hD
          exact b54 j2_l1 f53_2 H locs ls  (lv_sub hl [0, 1] rfl) hP hD hS
  exact b2 _ (0 : Int32) g_p0r H locs ls  (Nat.lt_succ_self _) (lv_sub hl [1, 0] rfl) hP hD hS
set_option maxHeartbeats 2000000 in
theorem c_X1_addBits (l : Launch) (D : va_G) (ct : Nat → ClassId) (fa : Nat) (fb : Nat) (x_fa_0 : Int32) (x_fa_1 : Int64) (x_fa_2 : Int64) (x_fa_3 : Int64) (x_fa_4 : Int64) (x_fb_0 : Int32) (x_fb_1 : Int64) (x_fb_2 : Int64) (x_fb_3 : Int64) (x_fb_4 : Int64)  : KV (S := Int64 × Int64) l yX1_addBits cX1_addBits 6 none 1 20 D ct [.ref fa, .ref fb] [(fa, .inr (1, [.int x_fa_0, .long x_fa_1, .long x_fa_2, .long x_fa_3, .long x_fa_4])), (fb, .inr (1, [.int x_fb_0, .long x_fb_1, .long x_fb_2, .long x_fb_3, .long x_fb_4]))] 0 0 (fun (u : Int64 × Int64) => match u with | (y_fa_3, y_fa_4) => True) (fun (u : Int64 × Int64) => match u with | (y_fa_3, y_fa_4) => [(fa, .inr (1, [.int x_fa_0, .long x_fa_1, .long x_fa_2, .long y_fa_3, .long y_fa_4])), (fb, .inr (1, [.int x_fb_0, .long x_fb_1, .long x_fb_2, .long x_fb_3, .long x_fb_4]))]) := by
  refine KVq_of (by decide) (Nat.le_of_ble_eq_true rfl) (fun p e s m below meth c A Q C0 hA hS hP hD hQ ls hl => ?_)
  obtain ⟨hx, hb, hr, hown, hin, hml, hlocks, hn, hK, hZ⟩ := C0
  have hl : lv_has ls 6 [(0, .ref fa), (1, .ref fb)] := hl
  refine lv_aload_n hx hb dX1_addBits_0 rfl (lv_at hl 0 rfl) ?_
  refine va_get (D := D) (ci := 1) (v := .long x_fa_4) (C := RX1) (T := TX1) (N := 5) hx hb (htX1 hn) (fun _ h => h) hown hK hP 0 rfl rfl 4 (by decide) (hn.get mw_325 rfl) (fun _ h9 => h9) rfl dX1_addBits_1 ?_
  refine lv_aload_n hx hb dX1_addBits_4 rfl (lv_at hl 1 rfl) ?_
  refine va_get (D := D) (ci := 1) (v := .long x_fb_4) (C := RX1) (T := TX1) (N := 5) hx hb (htX1 hn) (fun _ h => h) hown hK hP 1 rfl rfl 4 (by decide) (hn.get mw_325 rfl) (fun _ h9 => h9) rfl dX1_addBits_5 ?_
  refine lv_ladd hx hb dX1_addBits_8 ?_
  refine lv_topl (fun z8_1 ez8_1 => ?_)
  refine lv_lstore_n (lv' := [(2, .long z8_1), (0, .ref fa), (1, .ref fb)]) hx hb dX1_addBits_9 rfl hl (by decide) rfl (fun ls hl => ?_)
  refine lv_lload_n hx hb dX1_addBits_10 rfl (lv_at hl 0 rfl) ?_
  refine lv_aload_n hx hb dX1_addBits_11 rfl (lv_at hl 1 rfl) ?_
  refine va_get (D := D) (ci := 1) (v := .long x_fa_3) (C := RX1) (T := TX1) (N := 5) hx hb (htX1 hn) (fun _ h => h) hown hK hP 0 rfl rfl 3 (by decide) (hn.get mw_323 rfl) (fun _ h9 => h9) rfl dX1_addBits_12 ?_
  refine lv_ldc2 (v := (-1)) hx hb hown (hn.get mw_1025 rfl) dX1_addBits_15 ?_
  refine lv_lxor hx hb dX1_addBits_18 ?_
  refine lv_topl (fun z18_1 ez18_1 => ?_)
  refine lv_ladd hx hb dX1_addBits_19 ?_
  refine lv_topl (fun z19_1 ez19_1 => ?_)
  refine lv_aload_n hx hb dX1_addBits_20 rfl (lv_at hl 2 rfl) ?_
  refine va_get (D := D) (ci := 1) (v := .long x_fb_3) (C := RX1) (T := TX1) (N := 5) hx hb (htX1 hn) (fun _ h => h) hown hK hP 1 rfl rfl 3 (by decide) (hn.get mw_323 rfl) (fun _ h9 => h9) rfl dX1_addBits_21 ?_
  refine lv_ldc2 (v := (-1)) hx hb hown (hn.get mw_1025 rfl) dX1_addBits_24 ?_
  refine lv_lxor hx hb dX1_addBits_27 ?_
  refine lv_topl (fun z27_1 ez27_1 => ?_)
  refine lv_ladd hx hb dX1_addBits_28 ?_
  refine lv_topl (fun z28_1 ez28_1 => ?_)
  refine lv_lstore (lv' := [(4, .long z28_1), (2, .long z8_1), (0, .ref fa), (1, .ref fb)]) hx hb dX1_addBits_29 hl (by decide) rfl (fun ls hl => ?_)
  refine lv_aload_n hx hb dX1_addBits_31 rfl (lv_at hl 2 rfl) ?_
  refine lv_lload_n hx hb dX1_addBits_32 rfl (lv_at hl 1 rfl) ?_
  refine lv_lload hx hb dX1_addBits_33 (lv_at hl 0 rfl) ?_
  refine lv_lxor hx hb dX1_addBits_35 ?_
  refine lv_topl (fun z35_1 ez35_1 => ?_)
  refine lv_aload_n hx hb dX1_addBits_36 rfl (lv_at hl 2 rfl) ?_
  refine va_get (D := D) (ci := 1) (v := .long x_fa_3) (C := RX1) (T := TX1) (N := 5) hx hb (htX1 hn) (fun _ h => h) hown hK hP 0 rfl rfl 3 (by decide) (hn.get mw_323 rfl) (fun _ h9 => h9) rfl dX1_addBits_37 ?_
  refine lv_ldc2 (v := (-1)) hx hb hown (hn.get mw_1025 rfl) dX1_addBits_40 ?_
  refine lv_lxor hx hb dX1_addBits_43 ?_
  refine lv_topl (fun z43_1 ez43_1 => ?_)
  refine lv_lor hx hb dX1_addBits_44 ?_
  refine lv_topl (fun z44_1 ez44_1 => ?_)
  refine lv_aload_n hx hb dX1_addBits_45 rfl (lv_at hl 3 rfl) ?_
  refine va_get (D := D) (ci := 1) (v := .long x_fb_3) (C := RX1) (T := TX1) (N := 5) hx hb (htX1 hn) (fun _ h => h) hown hK hP 1 rfl rfl 3 (by decide) (hn.get mw_323 rfl) (fun _ h9 => h9) rfl dX1_addBits_46 ?_
  refine lv_ldc2 (v := (-1)) hx hb hown (hn.get mw_1025 rfl) dX1_addBits_49 ?_
  refine lv_lxor hx hb dX1_addBits_52 ?_
  refine lv_topl (fun z52_1 ez52_1 => ?_)
  refine lv_lor hx hb dX1_addBits_53 ?_
  refine lv_topl (fun z53_1 ez53_1 => ?_)
  refine lv_ldc2 (v := (-1)) hx hb hown (hn.get mw_1025 rfl) dX1_addBits_54 ?_
  refine lv_lxor hx hb dX1_addBits_57 ?_
  refine lv_topl (fun z57_1 ez57_1 => ?_)
  refine va_put (D := D) (ci := 1) (v := .long z57_1) (ty := .long) (C := RX1) (T := TX1) (N := 5) hx hb (htX1 hn) (fun _ h => h) tyX1 tyX1_ok nmX1 hown hK hP hD hS 0 rfl rfl 3 (by decide) (hn.get mw_323 rfl) (fun _ h9 => h9) rfl (by decide +kernel) rfl rfl (Nat.le_of_ble_eq_true rfl) dX1_addBits_58 (fun H locs hP hD hS => ?_)
  have hP : va_P D vwCl [(fa, .inr (1, [.int x_fa_0, .long x_fa_1, .long x_fa_2, .long z57_1, .long x_fa_4])), (fb, .inr (1, [.int x_fb_0, .long x_fb_1, .long x_fb_2, .long x_fb_3, .long x_fb_4]))] _ := hP
  have hD : va_D A [(fa, .inr (1, [.int x_fa_0, .long x_fa_1, .long x_fa_2, .long z57_1, .long x_fa_4])), (fb, .inr (1, [.int x_fb_0, .long x_fb_1, .long x_fb_2, .long x_fb_3, .long x_fb_4]))] := hD
  refine lv_aload_n hx hb dX1_addBits_61 rfl (lv_at hl 2 rfl) ?_
  refine lv_lload_n hx hb dX1_addBits_62 rfl (lv_at hl 1 rfl) ?_
  refine lv_aload_n hx hb dX1_addBits_63 rfl (lv_at hl 2 rfl) ?_
  refine va_get (D := D) (ci := 1) (v := .long z57_1) (C := RX1) (T := TX1) (N := 5) hx hb (htX1 hn) (fun _ h => h) hown hK hP 0 rfl rfl 3 (by decide) (hn.get mw_323 rfl) (fun _ h9 => h9) rfl dX1_addBits_64 ?_
  refine lv_land hx hb dX1_addBits_67 ?_
  refine lv_topl (fun z67_1 ez67_1 => ?_)
  refine va_put (D := D) (ci := 1) (v := .long z67_1) (ty := .long) (C := RX1) (T := TX1) (N := 5) hx hb (htX1 hn) (fun _ h => h) tyX1 tyX1_ok nmX1 hown hK hP hD hS 0 rfl rfl 4 (by decide) (hn.get mw_325 rfl) (fun _ h9 => h9) rfl (by decide +kernel) rfl rfl (Nat.le_of_ble_eq_true rfl) dX1_addBits_68 (fun H locs hP hD hS => ?_)
  have hP : va_P D vwCl [(fa, .inr (1, [.int x_fa_0, .long x_fa_1, .long x_fa_2, .long z57_1, .long z67_1])), (fb, .inr (1, [.int x_fb_0, .long x_fb_1, .long x_fb_2, .long x_fb_3, .long x_fb_4]))] _ := hP
  have hD : va_D A [(fa, .inr (1, [.int x_fa_0, .long x_fa_1, .long x_fa_2, .long z57_1, .long z67_1])), (fb, .inr (1, [.int x_fb_0, .long x_fb_1, .long x_fb_2, .long x_fb_3, .long x_fb_4]))] := hD
  exact endq_v hQ hx hb hr hlocks dX1_addBits_71 (z57_1, z67_1) trivial hP hD hS [0, 1] rfl (by decide) rfl (Nat.le_of_ble_eq_true rfl) (Nat.le_of_ble_eq_true rfl)
set_option maxHeartbeats 2000000 in
theorem c_X1_copy (l : Launch) (D : va_G) (ct : Nat → ClassId) (fa : Nat) (fb : Nat) (x_fa_0 : Int32) (x_fa_1 : Int64) (x_fa_2 : Int64) (x_fa_3 : Int64) (x_fa_4 : Int64) (x_fb_0 : Int32) (x_fb_1 : Int64) (x_fb_2 : Int64) (x_fb_3 : Int64) (x_fb_4 : Int64)  : KV (S := Int32 × Int64 × Int64 × Int64 × Int64) l yX1_copy cX1_copy 2 none 1 20 D ct [.ref fa, .ref fb] [(fa, .inr (1, [.int x_fa_0, .long x_fa_1, .long x_fa_2, .long x_fa_3, .long x_fa_4])), (fb, .inr (1, [.int x_fb_0, .long x_fb_1, .long x_fb_2, .long x_fb_3, .long x_fb_4]))] 0 0 (fun (u : Int32 × Int64 × Int64 × Int64 × Int64) => match u with | (y_fa_0, y_fa_1, y_fa_2, y_fa_3, y_fa_4) => True) (fun (u : Int32 × Int64 × Int64 × Int64 × Int64) => match u with | (y_fa_0, y_fa_1, y_fa_2, y_fa_3, y_fa_4) => [(fa, .inr (1, [.int y_fa_0, .long y_fa_1, .long y_fa_2, .long y_fa_3, .long y_fa_4])), (fb, .inr (1, [.int x_fb_0, .long x_fb_1, .long x_fb_2, .long x_fb_3, .long x_fb_4]))]) := by
  refine KVq_of (by decide) (Nat.le_of_ble_eq_true rfl) (fun p e s m below meth c A Q C0 hA hS hP hD hQ ls hl => ?_)
  obtain ⟨hx, hb, hr, hown, hin, hml, hlocks, hn, hK, hZ⟩ := C0
  have hl : lv_has ls 2 [(0, .ref fa), (1, .ref fb)] := hl
  refine lv_aload_n hx hb dX1_copy_0 rfl (lv_at hl 0 rfl) ?_
  refine lv_aload_n hx hb dX1_copy_1 rfl (lv_at hl 1 rfl) ?_
  refine va_get (D := D) (ci := 1) (v := .int x_fb_0) (C := RX1) (T := TX1) (N := 5) hx hb (htX1 hn) (fun _ h => h) hown hK hP 1 rfl rfl 0 (by decide) (hn.get mw_317 rfl) (fun _ h9 => h9) rfl dX1_copy_2 ?_
  refine va_put (D := D) (ci := 1) (v := .int x_fb_0) (ty := .int) (C := RX1) (T := TX1) (N := 5) hx hb (htX1 hn) (fun _ h => h) tyX1 tyX1_ok nmX1 hown hK hP hD hS 0 rfl rfl 0 (by decide) (hn.get mw_317 rfl) (fun _ h9 => h9) rfl (by decide +kernel) rfl rfl (Nat.le_of_ble_eq_true rfl) dX1_copy_5 (fun H locs hP hD hS => ?_)
  have hP : va_P D vwCl [(fa, .inr (1, [.int x_fb_0, .long x_fa_1, .long x_fa_2, .long x_fa_3, .long x_fa_4])), (fb, .inr (1, [.int x_fb_0, .long x_fb_1, .long x_fb_2, .long x_fb_3, .long x_fb_4]))] _ := hP
  have hD : va_D A [(fa, .inr (1, [.int x_fb_0, .long x_fa_1, .long x_fa_2, .long x_fa_3, .long x_fa_4])), (fb, .inr (1, [.int x_fb_0, .long x_fb_1, .long x_fb_2, .long x_fb_3, .long x_fb_4]))] := hD
  refine lv_aload_n hx hb dX1_copy_8 rfl (lv_at hl 0 rfl) ?_
  refine lv_aload_n hx hb dX1_copy_9 rfl (lv_at hl 1 rfl) ?_
  refine va_get (D := D) (ci := 1) (v := .long x_fb_1) (C := RX1) (T := TX1) (N := 5) hx hb (htX1 hn) (fun _ h => h) hown hK hP 1 rfl rfl 1 (by decide) (hn.get mw_319 rfl) (fun _ h9 => h9) rfl dX1_copy_10 ?_
  refine va_put (D := D) (ci := 1) (v := .long x_fb_1) (ty := .long) (C := RX1) (T := TX1) (N := 5) hx hb (htX1 hn) (fun _ h => h) tyX1 tyX1_ok nmX1 hown hK hP hD hS 0 rfl rfl 1 (by decide) (hn.get mw_319 rfl) (fun _ h9 => h9) rfl (by decide +kernel) rfl rfl (Nat.le_of_ble_eq_true rfl) dX1_copy_13 (fun H locs hP hD hS => ?_)
  have hP : va_P D vwCl [(fa, .inr (1, [.int x_fb_0, .long x_fb_1, .long x_fa_2, .long x_fa_3, .long x_fa_4])), (fb, .inr (1, [.int x_fb_0, .long x_fb_1, .long x_fb_2, .long x_fb_3, .long x_fb_4]))] _ := hP
  have hD : va_D A [(fa, .inr (1, [.int x_fb_0, .long x_fb_1, .long x_fa_2, .long x_fa_3, .long x_fa_4])), (fb, .inr (1, [.int x_fb_0, .long x_fb_1, .long x_fb_2, .long x_fb_3, .long x_fb_4]))] := hD
  refine lv_aload_n hx hb dX1_copy_16 rfl (lv_at hl 0 rfl) ?_
  refine lv_aload_n hx hb dX1_copy_17 rfl (lv_at hl 1 rfl) ?_
  refine va_get (D := D) (ci := 1) (v := .long x_fb_2) (C := RX1) (T := TX1) (N := 5) hx hb (htX1 hn) (fun _ h => h) hown hK hP 1 rfl rfl 2 (by decide) (hn.get mw_321 rfl) (fun _ h9 => h9) rfl dX1_copy_18 ?_
  refine va_put (D := D) (ci := 1) (v := .long x_fb_2) (ty := .long) (C := RX1) (T := TX1) (N := 5) hx hb (htX1 hn) (fun _ h => h) tyX1 tyX1_ok nmX1 hown hK hP hD hS 0 rfl rfl 2 (by decide) (hn.get mw_321 rfl) (fun _ h9 => h9) rfl (by decide +kernel) rfl rfl (Nat.le_of_ble_eq_true rfl) dX1_copy_21 (fun H locs hP hD hS => ?_)
  have hP : va_P D vwCl [(fa, .inr (1, [.int x_fb_0, .long x_fb_1, .long x_fb_2, .long x_fa_3, .long x_fa_4])), (fb, .inr (1, [.int x_fb_0, .long x_fb_1, .long x_fb_2, .long x_fb_3, .long x_fb_4]))] _ := hP
  have hD : va_D A [(fa, .inr (1, [.int x_fb_0, .long x_fb_1, .long x_fb_2, .long x_fa_3, .long x_fa_4])), (fb, .inr (1, [.int x_fb_0, .long x_fb_1, .long x_fb_2, .long x_fb_3, .long x_fb_4]))] := hD
  refine lv_aload_n hx hb dX1_copy_24 rfl (lv_at hl 0 rfl) ?_
  refine lv_aload_n hx hb dX1_copy_25 rfl (lv_at hl 1 rfl) ?_
  refine va_get (D := D) (ci := 1) (v := .long x_fb_3) (C := RX1) (T := TX1) (N := 5) hx hb (htX1 hn) (fun _ h => h) hown hK hP 1 rfl rfl 3 (by decide) (hn.get mw_323 rfl) (fun _ h9 => h9) rfl dX1_copy_26 ?_
  refine va_put (D := D) (ci := 1) (v := .long x_fb_3) (ty := .long) (C := RX1) (T := TX1) (N := 5) hx hb (htX1 hn) (fun _ h => h) tyX1 tyX1_ok nmX1 hown hK hP hD hS 0 rfl rfl 3 (by decide) (hn.get mw_323 rfl) (fun _ h9 => h9) rfl (by decide +kernel) rfl rfl (Nat.le_of_ble_eq_true rfl) dX1_copy_29 (fun H locs hP hD hS => ?_)
  have hP : va_P D vwCl [(fa, .inr (1, [.int x_fb_0, .long x_fb_1, .long x_fb_2, .long x_fb_3, .long x_fa_4])), (fb, .inr (1, [.int x_fb_0, .long x_fb_1, .long x_fb_2, .long x_fb_3, .long x_fb_4]))] _ := hP
  have hD : va_D A [(fa, .inr (1, [.int x_fb_0, .long x_fb_1, .long x_fb_2, .long x_fb_3, .long x_fa_4])), (fb, .inr (1, [.int x_fb_0, .long x_fb_1, .long x_fb_2, .long x_fb_3, .long x_fb_4]))] := hD
  refine lv_aload_n hx hb dX1_copy_32 rfl (lv_at hl 0 rfl) ?_
  refine lv_aload_n hx hb dX1_copy_33 rfl (lv_at hl 1 rfl) ?_
  refine va_get (D := D) (ci := 1) (v := .long x_fb_4) (C := RX1) (T := TX1) (N := 5) hx hb (htX1 hn) (fun _ h => h) hown hK hP 1 rfl rfl 4 (by decide) (hn.get mw_325 rfl) (fun _ h9 => h9) rfl dX1_copy_34 ?_
  refine va_put (D := D) (ci := 1) (v := .long x_fb_4) (ty := .long) (C := RX1) (T := TX1) (N := 5) hx hb (htX1 hn) (fun _ h => h) tyX1 tyX1_ok nmX1 hown hK hP hD hS 0 rfl rfl 4 (by decide) (hn.get mw_325 rfl) (fun _ h9 => h9) rfl (by decide +kernel) rfl rfl (Nat.le_of_ble_eq_true rfl) dX1_copy_37 (fun H locs hP hD hS => ?_)
  have hP : va_P D vwCl [(fa, .inr (1, [.int x_fb_0, .long x_fb_1, .long x_fb_2, .long x_fb_3, .long x_fb_4])), (fb, .inr (1, [.int x_fb_0, .long x_fb_1, .long x_fb_2, .long x_fb_3, .long x_fb_4]))] _ := hP
  have hD : va_D A [(fa, .inr (1, [.int x_fb_0, .long x_fb_1, .long x_fb_2, .long x_fb_3, .long x_fb_4])), (fb, .inr (1, [.int x_fb_0, .long x_fb_1, .long x_fb_2, .long x_fb_3, .long x_fb_4]))] := hD
  exact endq_v hQ hx hb hr hlocks dX1_copy_40 (x_fb_0, x_fb_1, x_fb_2, x_fb_3, x_fb_4) trivial hP hD hS [0, 1] rfl (by decide) rfl (Nat.le_of_ble_eq_true rfl) (Nat.le_of_ble_eq_true rfl)
set_option maxHeartbeats 2000000 in
theorem c_X1_settle (l : Launch) (D : va_G) (ct : Nat → ClassId) (fa : Nat) (x_fa_0 : Int32) (x_fa_1 : Int64) (x_fa_2 : Int64) (x_fa_3 : Int64) (x_fa_4 : Int64)  : KV (S := Int64 × Int64 × Int64 × Int64) l yX1_settle cX1_settle 1 none 1 20 D ct [.ref fa] [(fa, .inr (1, [.int x_fa_0, .long x_fa_1, .long x_fa_2, .long x_fa_3, .long x_fa_4]))] 0 0 (fun (u : Int64 × Int64 × Int64 × Int64) => match u with | (y_fa_1, y_fa_2, y_fa_3, y_fa_4) => True) (fun (u : Int64 × Int64 × Int64 × Int64) => match u with | (y_fa_1, y_fa_2, y_fa_3, y_fa_4) => [(fa, .inr (1, [.int x_fa_0, .long y_fa_1, .long y_fa_2, .long y_fa_3, .long y_fa_4]))]) := by
  refine KVq_of (by decide) (Nat.le_of_ble_eq_true rfl) (fun p e s m below meth c A Q C0 hA hS hP hD hQ ls hl => ?_)
  obtain ⟨hx, hb, hr, hown, hin, hml, hlocks, hn, hK, hZ⟩ := C0
  have hl : lv_has ls 1 [(0, .ref fa)] := hl
  refine lv_aload_n hx hb dX1_settle_0 rfl (lv_at hl 0 rfl) ?_
  refine va_get (D := D) (ci := 1) (v := .long x_fa_1) (C := RX1) (T := TX1) (N := 5) hx hb (htX1 hn) (fun _ h => h) hown hK hP 0 rfl rfl 1 (by decide) (hn.get mw_319 rfl) (fun _ h9 => h9) rfl dX1_settle_1 ?_
  refine lv_aload_n hx hb dX1_settle_4 rfl (lv_at hl 0 rfl) ?_
  refine va_get (D := D) (ci := 1) (v := .long x_fa_2) (C := RX1) (T := TX1) (N := 5) hx hb (htX1 hn) (fun _ h => h) hown hK hP 0 rfl rfl 2 (by decide) (hn.get mw_321 rfl) (fun _ h9 => h9) rfl dX1_settle_5 ?_
  refine W.lcmp hx hb dX1_settle_8 ?_
  refine lv_topi (fun z8_1 ez8_1 => ?_)
  refine lv_if_ne (tgt := 30) hx hb dX1_settle_9 (by decide) (fun c9_1 => ?_) (fun c9_1 => ?_)
  · have t9_2 := (l_ne ez8_1 c9_1)
    refine lv_aload_n hx hb dX1_settle_30 rfl (lv_at hl 0 rfl) ?_
    refine va_get (D := D) (ci := 1) (v := .long x_fa_3) (C := RX1) (T := TX1) (N := 5) hx hb (htX1 hn) (fun _ h => h) hown hK hP 0 rfl rfl 3 (by decide) (hn.get mw_323 rfl) (fun _ h9 => h9) rfl dX1_settle_31 ?_
    refine lv_ldc2 (v := (-1)) hx hb hown (hn.get mw_1025 rfl) dX1_settle_34 ?_
    refine W.lcmp hx hb dX1_settle_37 ?_
    refine lv_topi (fun z37_1 ez37_1 => ?_)
    refine lv_if_ne (tgt := 57) hx hb dX1_settle_38 (by decide) (fun c38_1 => ?_) (fun c38_1 => ?_)
    · have t38_2 := (l_ne ez37_1 c38_1)
      exact endq_v hQ hx hb hr hlocks dX1_settle_57 (x_fa_1, x_fa_2, x_fa_3, x_fa_4) trivial hP hD hS [0] rfl (by decide) rfl (Nat.le_of_ble_eq_true rfl) (Nat.le_of_ble_eq_true rfl)
    · have t57_1 := (l_nne ez37_1 c38_1)
      have r57_2 : rl x_fa_3 (-1) (-1) := rl_eqA t57_1 (rl_any x_fa_3) (show rl (-1 : Int64) (-1) (-1) from (rl_l (by decide))) (by decide)
      refine lv_aload_n hx hb dX1_settle_41 rfl (lv_at hl 0 rfl) ?_
      refine lv_aload_n hx hb dX1_settle_42 rfl (lv_at hl 0 rfl) ?_
      refine va_get (D := D) (ci := 1) (v := .long x_fa_4) (C := RX1) (T := TX1) (N := 5) hx hb (htX1 hn) (fun _ h => h) hown hK hP 0 rfl rfl 4 (by decide) (hn.get mw_325 rfl) (fun _ h9 => h9) rfl dX1_settle_43 ?_
      refine va_put (D := D) (ci := 1) (v := .long x_fa_4) (ty := .long) (C := RX1) (T := TX1) (N := 5) hx hb (htX1 hn) (fun _ h => h) tyX1 tyX1_ok nmX1 hown hK hP hD hS 0 rfl rfl 1 (by decide) (hn.get mw_319 rfl) (fun _ h9 => h9) rfl (by decide +kernel) rfl rfl (Nat.le_of_ble_eq_true rfl) dX1_settle_46 (fun H locs hP hD hS => ?_)
      have hP : va_P D vwCl [(fa, .inr (1, [.int x_fa_0, .long x_fa_4, .long x_fa_2, .long x_fa_3, .long x_fa_4]))] _ := hP
      have hD : va_D A [(fa, .inr (1, [.int x_fa_0, .long x_fa_4, .long x_fa_2, .long x_fa_3, .long x_fa_4]))] := hD
      refine lv_aload_n hx hb dX1_settle_49 rfl (lv_at hl 0 rfl) ?_
      refine lv_aload_n hx hb dX1_settle_50 rfl (lv_at hl 0 rfl) ?_
      refine va_get (D := D) (ci := 1) (v := .long x_fa_4) (C := RX1) (T := TX1) (N := 5) hx hb (htX1 hn) (fun _ h => h) hown hK hP 0 rfl rfl 4 (by decide) (hn.get mw_325 rfl) (fun _ h9 => h9) rfl dX1_settle_51 ?_
      refine va_put (D := D) (ci := 1) (v := .long x_fa_4) (ty := .long) (C := RX1) (T := TX1) (N := 5) hx hb (htX1 hn) (fun _ h => h) tyX1 tyX1_ok nmX1 hown hK hP hD hS 0 rfl rfl 2 (by decide) (hn.get mw_321 rfl) (fun _ h9 => h9) rfl (by decide +kernel) rfl rfl (Nat.le_of_ble_eq_true rfl) dX1_settle_54 (fun H locs hP hD hS => ?_)
      have hP : va_P D vwCl [(fa, .inr (1, [.int x_fa_0, .long x_fa_4, .long x_fa_4, .long x_fa_3, .long x_fa_4]))] _ := hP
      have hD : va_D A [(fa, .inr (1, [.int x_fa_0, .long x_fa_4, .long x_fa_4, .long x_fa_3, .long x_fa_4]))] := hD
      exact endq_v hQ hx hb hr hlocks dX1_settle_57 (x_fa_4, x_fa_4, x_fa_3, x_fa_4) trivial hP hD hS [0] rfl (by decide) rfl (Nat.le_of_ble_eq_true rfl) (Nat.le_of_ble_eq_true rfl)
  · have t57_1 := (l_nne ez8_1 c9_1)
    refine lv_aload_n hx hb dX1_settle_12 rfl (lv_at hl 0 rfl) ?_
    refine lv_ldc2 (v := (-1)) hx hb hown (hn.get mw_1025 rfl) dX1_settle_13 ?_
    refine va_put (D := D) (ci := 1) (v := .long (-1)) (ty := .long) (C := RX1) (T := TX1) (N := 5) hx hb (htX1 hn) (fun _ h => h) tyX1 tyX1_ok nmX1 hown hK hP hD hS 0 rfl rfl 3 (by decide) (hn.get mw_323 rfl) (fun _ h9 => h9) rfl (by decide +kernel) rfl rfl (Nat.le_of_ble_eq_true rfl) dX1_settle_16 (fun H locs hP hD hS => ?_)
    have hP : va_P D vwCl [(fa, .inr (1, [.int x_fa_0, .long x_fa_1, .long x_fa_2, .long (-1), .long x_fa_4]))] _ := hP
    have hD : va_D A [(fa, .inr (1, [.int x_fa_0, .long x_fa_1, .long x_fa_2, .long (-1), .long x_fa_4]))] := hD
    refine lv_aload_n hx hb dX1_settle_19 rfl (lv_at hl 0 rfl) ?_
    refine lv_aload_n hx hb dX1_settle_20 rfl (lv_at hl 0 rfl) ?_
    refine va_get (D := D) (ci := 1) (v := .long x_fa_1) (C := RX1) (T := TX1) (N := 5) hx hb (htX1 hn) (fun _ h => h) hown hK hP 0 rfl rfl 1 (by decide) (hn.get mw_319 rfl) (fun _ h9 => h9) rfl dX1_settle_21 ?_
    refine va_put (D := D) (ci := 1) (v := .long x_fa_1) (ty := .long) (C := RX1) (T := TX1) (N := 5) hx hb (htX1 hn) (fun _ h => h) tyX1 tyX1_ok nmX1 hown hK hP hD hS 0 rfl rfl 4 (by decide) (hn.get mw_325 rfl) (fun _ h9 => h9) rfl (by decide +kernel) rfl rfl (Nat.le_of_ble_eq_true rfl) dX1_settle_24 (fun H locs hP hD hS => ?_)
    have hP : va_P D vwCl [(fa, .inr (1, [.int x_fa_0, .long x_fa_1, .long x_fa_2, .long (-1), .long x_fa_1]))] _ := hP
    have hD : va_D A [(fa, .inr (1, [.int x_fa_0, .long x_fa_1, .long x_fa_2, .long (-1), .long x_fa_1]))] := hD
    refine lv_goto (tgt := 57) hx hb dX1_settle_27 (by decide) ?_
    exact endq_v hQ hx hb hr hlocks dX1_settle_57 (x_fa_1, x_fa_2, ((-1) : Int64), x_fa_1) trivial hP hD hS [0] rfl (by decide) rfl (Nat.le_of_ble_eq_true rfl) (Nat.le_of_ble_eq_true rfl)
set_option maxHeartbeats 2000000 in
theorem c_X11_below (l : Launch) (D : va_G) (ct : Nat → ClassId) (v0 : Int64) (v1 : Int64)  : KI (S := Unit) l yX11_below cX11_below 4 (some .boolean) 1 20 D ct [.long v0, .long v1] [] 0 0 (fun (r : Int32) (_ : Unit) => rg r 0 1) (fun (_ : Unit) => []) := by
  refine KIq_of (by decide) (Nat.le_of_ble_eq_true rfl) (fun p e s m below meth c A Q C0 hA hS hP hD hQ ls hl => ?_)
  obtain ⟨hx, hb, hr, hown, hin, hml, hlocks, hn, hK, hZ⟩ := C0
  have hl : lv_has ls 4 [(0, .long v0), (2, .long v1)] := hl
  refine lv_lload_n hx hb dX11_below_0 rfl (lv_at hl 0 rfl) ?_
  refine lv_ldc2 (v := (-9223372036854775808)) hx hb hown (hn.get mw_1041 rfl) dX11_below_1 ?_
  refine lv_ladd hx hb dX11_below_4 ?_
  refine lv_topl (fun z4_1 ez4_1 => ?_)
  refine lv_lload_n hx hb dX11_below_5 rfl (lv_at hl 1 rfl) ?_
  refine lv_ldc2 (v := (-9223372036854775808)) hx hb hown (hn.get mw_1041 rfl) dX11_below_6 ?_
  refine lv_ladd hx hb dX11_below_9 ?_
  refine lv_topl (fun z9_1 ez9_1 => ?_)
  refine W.lcmp hx hb dX11_below_10 ?_
  refine lv_topi (fun z10_1 ez10_1 => ?_)
  refine lv_if_ge (tgt := 18) hx hb dX11_below_11 (by decide) (fun c11_1 => ?_) (fun c11_1 => ?_)
  · have t11_2 := (l_ge ez10_1 c11_1)
    refine lv_iconst (v := 0) hx hb dX11_below_18 (by decide) ?_
    exact endq_i hQ hx hb hr hlocks dX11_below_19 (by decide) () (rg_w (rg_l (by decide)) (by decide)) hP hD hS [] rfl (by decide) rfl (Nat.le_of_ble_eq_true rfl) (Nat.le_of_ble_eq_true rfl)
  · have t19_1 := (l_nge ez10_1 c11_1)
    have r19_2 : rl z4_1 (-9223372036854775808) 9223372036854775806 := rl_ltA t19_1 (rl_any z4_1) (rl_any z9_1) (by decide)
    have r19_3 : rl z9_1 (-9223372036854775807) 9223372036854775807 := rl_ltB t19_1 (rl_any z4_1) (rl_any z9_1) (by decide)
    refine lv_iconst (v := 1) hx hb dX11_below_14 (by decide) ?_
    refine lv_goto (tgt := 19) hx hb dX11_below_15 (by decide) ?_
    exact endq_i hQ hx hb hr hlocks dX11_below_19 (by decide) () (rg_w (rg_l (by decide)) (by decide)) hP hD hS [] rfl (by decide) rfl (Nat.le_of_ble_eq_true rfl) (Nat.le_of_ble_eq_true rfl)
set_option maxHeartbeats 2000000 in
theorem c_X1_cut (l : Launch) (D : va_G) (ct : Nat → ClassId) (fa : Nat) (x_fa_0 : Int32) (x_fa_1 : Int64) (x_fa_2 : Int64) (x_fa_3 : Int64) (x_fa_4 : Int64)  : KV (S := Int64 × Int64 × Int64 × Int64) l yX1_cut cX1_cut 1 none 2 43 D ct [.ref fa] [(fa, .inr (1, [.int x_fa_0, .long x_fa_1, .long x_fa_2, .long x_fa_3, .long x_fa_4]))] 0 0 (fun (u : Int64 × Int64 × Int64 × Int64) => match u with | (y_fa_1, y_fa_2, y_fa_3, y_fa_4) => True) (fun (u : Int64 × Int64 × Int64 × Int64) => match u with | (y_fa_1, y_fa_2, y_fa_3, y_fa_4) => [(fa, .inr (1, [.int x_fa_0, .long y_fa_1, .long y_fa_2, .long y_fa_3, .long y_fa_4]))]) := by
  refine KVq_of (by decide) (Nat.le_of_ble_eq_true rfl) (fun p e s m below meth c A Q C0 hA hS hP hD hQ ls hl => ?_)
  obtain ⟨hx, hb, hr, hown, hin, hml, hlocks, hn, hK, hZ⟩ := C0
  have hl : lv_has ls 1 [(0, .ref fa)] := hl
  refine lv_ldc2 (v := 4294967295) hx hb hown (hn.get mw_1094 rfl) dX1_cut_0 ?_
  refine lv_aload_n hx hb dX1_cut_3 rfl (lv_at hl 0 rfl) ?_
  refine va_get (D := D) (ci := 1) (v := .long x_fa_2) (C := RX1) (T := TX1) (N := 5) hx hb (htX1 hn) (fun _ h => h) hown hK hP 0 rfl rfl 2 (by decide) (hn.get mw_321 rfl) (fun _ h9 => h9) rfl dX1_cut_4 ?_
  refine go_i (k1 := 0) (n1 := 0) (wr := [(fa, .inr (1, [.int x_fa_0, .long x_fa_1, .long x_fa_2, .long x_fa_3, .long x_fa_4]))]) [] [0] (rn_SN (As := [.long 4294967295, .long x_fa_2]) (rest := []) (c_X11_below l D ct (4294967295 : Int64) x_fa_2  _) (cn_of (n := 2) hn mw_1040 mw_1 mw_1095 mhX11_below ⟨(Nat.le_of_ble_eq_true rfl), (Nat.le_of_ble_eq_true rfl)⟩) hx hb hml hown hn hK hZ hS mw_1039 rfl hl.1 (Nat.le_of_ble_eq_true rfl) dX1_cut_7 ⟨(Nat.le_of_ble_eq_true rfl), (Nat.le_of_ble_eq_true rfl)⟩) hP hD hS hA rfl rfl (by decide) (by decide) (by decide) (Nat.le_of_ble_eq_true rfl) (Nat.le_of_ble_eq_true rfl) (fun r7_1 u7_2 H locs hp7_3 hP hD hS => ?_)
  have hp7_4 := hp7_3
  have hp7_4 : rg r7_1 0 1 := hp7_4
  have hP : va_P D vwCl [(fa, .inr (1, [.int x_fa_0, .long x_fa_1, .long x_fa_2, .long x_fa_3, .long x_fa_4]))] _ := hP
  have hD : va_D A [(fa, .inr (1, [.int x_fa_0, .long x_fa_1, .long x_fa_2, .long x_fa_3, .long x_fa_4]))] := hD
  have b25 : ∀ (j25_ffa_1 : Int64) (j25_ffa_2 : Int64) (H : Heap) (locs : List Loc) (ls : Array Slot), lv_has ls 1 [(0, .ref fa)] → va_P D vwCl [(fa, .inr (1, [.int x_fa_0, .long j25_ffa_1, .long j25_ffa_2, .long x_fa_3, .long x_fa_4]))] H → va_D A [(fa, .inr (1, [.int x_fa_0, .long j25_ffa_1, .long j25_ffa_2, .long x_fa_3, .long x_fa_4]))] → va_S A s.heap H locs → W p l e ({ frames := 2, cells := 0, slots := 0, locals := 43 }) s m [.ref fa].toArray below meth c H locs 0 0 Q (F0 m 25 ls []) := by
    intro j25_ffa_1 j25_ffa_2 H locs ls  hl hP hD hS
    refine lv_aload_n hx hb dX1_cut_25 rfl (lv_at hl 0 rfl) ?_
    refine lv_dup hx hb dX1_cut_26 rfl ?_
    refine va_get (D := D) (ci := 1) (v := .long x_fa_3) (C := RX1) (T := TX1) (N := 5) hx hb (htX1 hn) (fun _ h => h) hown hK hP 0 rfl rfl 3 (by decide) (hn.get mw_323 rfl) (fun _ h9 => h9) rfl dX1_cut_27 ?_
    refine lv_ldc2 (v := (-4294967296)) hx hb hown (hn.get mw_1096 rfl) dX1_cut_30 ?_
    refine lv_lor hx hb dX1_cut_33 ?_
    refine lv_topl (fun z33_1 ez33_1 => ?_)
    refine va_put (D := D) (ci := 1) (v := .long z33_1) (ty := .long) (C := RX1) (T := TX1) (N := 5) hx hb (htX1 hn) (fun _ h => h) tyX1 tyX1_ok nmX1 hown hK hP hD hS 0 rfl rfl 3 (by decide) (hn.get mw_323 rfl) (fun _ h9 => h9) rfl (by decide +kernel) rfl rfl (Nat.le_of_ble_eq_true rfl) dX1_cut_34 (fun H locs hP hD hS => ?_)
    have hP : va_P D vwCl [(fa, .inr (1, [.int x_fa_0, .long j25_ffa_1, .long j25_ffa_2, .long z33_1, .long x_fa_4]))] _ := hP
    have hD : va_D A [(fa, .inr (1, [.int x_fa_0, .long j25_ffa_1, .long j25_ffa_2, .long z33_1, .long x_fa_4]))] := hD
    refine lv_aload_n hx hb dX1_cut_37 rfl (lv_at hl 0 rfl) ?_
    refine lv_dup hx hb dX1_cut_38 rfl ?_
    refine va_get (D := D) (ci := 1) (v := .long x_fa_4) (C := RX1) (T := TX1) (N := 5) hx hb (htX1 hn) (fun _ h => h) hown hK hP 0 rfl rfl 4 (by decide) (hn.get mw_325 rfl) (fun _ h9 => h9) rfl dX1_cut_39 ?_
    refine lv_ldc2 (v := 4294967295) hx hb hown (hn.get mw_1094 rfl) dX1_cut_42 ?_
    refine lv_land hx hb dX1_cut_45 ?_
    refine lv_topl (fun z45_1 ez45_1 => ?_)
    have r45_2 : rl z45_1 0 4294967295 := rgL_andr ez45_1 (rl_l (by decide)) (by decide)
    refine va_put (D := D) (ci := 1) (v := .long z45_1) (ty := .long) (C := RX1) (T := TX1) (N := 5) hx hb (htX1 hn) (fun _ h => h) tyX1 tyX1_ok nmX1 hown hK hP hD hS 0 rfl rfl 4 (by decide) (hn.get mw_325 rfl) (fun _ h9 => h9) rfl (by decide +kernel) rfl rfl (Nat.le_of_ble_eq_true rfl) dX1_cut_46 (fun H locs hP hD hS => ?_)
    have hP : va_P D vwCl [(fa, .inr (1, [.int x_fa_0, .long j25_ffa_1, .long j25_ffa_2, .long z33_1, .long z45_1]))] _ := hP
    have hD : va_D A [(fa, .inr (1, [.int x_fa_0, .long j25_ffa_1, .long j25_ffa_2, .long z33_1, .long z45_1]))] := hD
    refine lv_aload_n hx hb dX1_cut_49 rfl (lv_at hl 0 rfl) ?_
    refine go_v (k1 := 0) (n1 := 0) (wr := []) [0] [] (rn_V (As := []) (rest := []) (c_X1_settle l D ct fa x_fa_0 j25_ffa_1 j25_ffa_2 z33_1 z45_1  _) (cb_of (n := 0) hn mw_1100 mw_12 mw_1097 mhX1_settle ⟨(Nat.le_of_ble_eq_true rfl), (Nat.le_of_ble_eq_true rfl)⟩) hx hb hml hown hn hK hZ hS mw_1099 mw_s113 (ci := 1) (q0 := 0) rfl rfl rfl rfl hl.1 (Nat.le_of_ble_eq_true rfl) dX1_cut_50 ⟨(Nat.le_of_ble_eq_true rfl), (Nat.le_of_ble_eq_true rfl)⟩) hP hD hS hA rfl rfl (by decide) (by decide) (by decide) (Nat.le_of_ble_eq_true rfl) (Nat.le_of_ble_eq_true rfl) (fun u50_2 H locs hp50_3 hP hD hS => ?_)
    obtain ⟨y_fa_150_4, y_fa_250_5, y_fa_350_6, y_fa_450_7⟩ := u50_2
    have hP : va_P D vwCl [(fa, .inr (1, [.int x_fa_0, .long y_fa_150_4, .long y_fa_250_5, .long y_fa_350_6, .long y_fa_450_7]))] _ := hP
    have hD : va_D A [(fa, .inr (1, [.int x_fa_0, .long y_fa_150_4, .long y_fa_250_5, .long y_fa_350_6, .long y_fa_450_7]))] := hD
    exact endq_v hQ hx hb hr hlocks dX1_cut_53 (y_fa_150_4, y_fa_250_5, y_fa_350_6, y_fa_450_7) trivial hP hD hS [0] rfl (by decide) rfl (Nat.le_of_ble_eq_true rfl) (Nat.le_of_ble_eq_true rfl)
  refine lv_if_eq (tgt := 25) hx hb dX1_cut_10 (by decide) (fun c10_1 => ?_) (fun c10_1 => ?_)
  · have t10_2 := (i_eq c10_1)
    have r10_3 : rg r7_1 0 0 := rg_eqA t10_2 hp7_4 (show rg (0 : Int32) 0 0 from (rg_l (by decide))) (by decide)
    exact b25 x_fa_1 x_fa_2 H locs ls  (lv_sub hl [0] rfl) hP hD hS
  · have t10_4 := (i_ne c10_1)
    have r10_5 : rg r7_1 1 1 := rg_neAl t10_4 hp7_4 (show rg (0 : Int32) 0 0 from (rg_l (by decide))) (by decide)
    refine lv_aload_n hx hb dX1_cut_13 rfl (lv_at hl 0 rfl) ?_
    refine lv_lconst (v := 0) hx hb dX1_cut_14 (by decide) ?_
    refine va_put (D := D) (ci := 1) (v := .long 0) (ty := .long) (C := RX1) (T := TX1) (N := 5) hx hb (htX1 hn) (fun _ h => h) tyX1 tyX1_ok nmX1 hown hK hP hD hS 0 rfl rfl 1 (by decide) (hn.get mw_319 rfl) (fun _ h9 => h9) rfl (by decide +kernel) rfl rfl (Nat.le_of_ble_eq_true rfl) dX1_cut_15 (fun H locs hP hD hS => ?_)
    have hP : va_P D vwCl [(fa, .inr (1, [.int x_fa_0, .long 0, .long x_fa_2, .long x_fa_3, .long x_fa_4]))] _ := hP
    have hD : va_D A [(fa, .inr (1, [.int x_fa_0, .long 0, .long x_fa_2, .long x_fa_3, .long x_fa_4]))] := hD
    refine lv_aload_n hx hb dX1_cut_18 rfl (lv_at hl 0 rfl) ?_
    refine lv_ldc2 (v := 4294967295) hx hb hown (hn.get mw_1094 rfl) dX1_cut_19 ?_
    refine va_put (D := D) (ci := 1) (v := .long 4294967295) (ty := .long) (C := RX1) (T := TX1) (N := 5) hx hb (htX1 hn) (fun _ h => h) tyX1 tyX1_ok nmX1 hown hK hP hD hS 0 rfl rfl 2 (by decide) (hn.get mw_321 rfl) (fun _ h9 => h9) rfl (by decide +kernel) rfl rfl (Nat.le_of_ble_eq_true rfl) dX1_cut_22 (fun H locs hP hD hS => ?_)
    have hP : va_P D vwCl [(fa, .inr (1, [.int x_fa_0, .long 0, .long 4294967295, .long x_fa_3, .long x_fa_4]))] _ := hP
    have hD : va_D A [(fa, .inr (1, [.int x_fa_0, .long 0, .long 4294967295, .long x_fa_3, .long x_fa_4]))] := hD
    exact b25 (0 : Int64) (4294967295 : Int64) H locs ls  (lv_sub hl [0] rfl) hP hD hS
set_option maxHeartbeats 2000000 in
theorem c_X1_isExact (l : Launch) (D : va_G) (ct : Nat → ClassId) (fa : Nat) (x_fa_0 : Int32) (x_fa_1 : Int64) (x_fa_2 : Int64) (x_fa_3 : Int64) (x_fa_4 : Int64)  : KI (S := Unit) l yX1_isExact cX1_isExact 1 (some .boolean) 1 20 D ct [.ref fa] [(fa, .inr (1, [.int x_fa_0, .long x_fa_1, .long x_fa_2, .long x_fa_3, .long x_fa_4]))] 0 0 (fun (r : Int32) (_ : Unit) => rg r 0 1) (fun (_ : Unit) => [(fa, .inr (1, [.int x_fa_0, .long x_fa_1, .long x_fa_2, .long x_fa_3, .long x_fa_4]))]) := by
  refine KIq_of (by decide) (Nat.le_of_ble_eq_true rfl) (fun p e s m below meth c A Q C0 hA hS hP hD hQ ls hl => ?_)
  obtain ⟨hx, hb, hr, hown, hin, hml, hlocks, hn, hK, hZ⟩ := C0
  have hl : lv_has ls 1 [(0, .ref fa)] := hl
  refine lv_aload_n hx hb dX1_isExact_0 rfl (lv_at hl 0 rfl) ?_
  refine va_get (D := D) (ci := 1) (v := .long x_fa_1) (C := RX1) (T := TX1) (N := 5) hx hb (htX1 hn) (fun _ h => h) hown hK hP 0 rfl rfl 1 (by decide) (hn.get mw_319 rfl) (fun _ h9 => h9) rfl dX1_isExact_1 ?_
  refine lv_aload_n hx hb dX1_isExact_4 rfl (lv_at hl 0 rfl) ?_
  refine va_get (D := D) (ci := 1) (v := .long x_fa_2) (C := RX1) (T := TX1) (N := 5) hx hb (htX1 hn) (fun _ h => h) hown hK hP 0 rfl rfl 2 (by decide) (hn.get mw_321 rfl) (fun _ h9 => h9) rfl dX1_isExact_5 ?_
  refine W.lcmp hx hb dX1_isExact_8 ?_
  refine lv_topi (fun z8_1 ez8_1 => ?_)
  refine lv_if_ne (tgt := 16) hx hb dX1_isExact_9 (by decide) (fun c9_1 => ?_) (fun c9_1 => ?_)
  · have t9_2 := (l_ne ez8_1 c9_1)
    refine lv_iconst (v := 0) hx hb dX1_isExact_16 (by decide) ?_
    exact endq_i hQ hx hb hr hlocks dX1_isExact_17 (by decide) () (rg_w (rg_l (by decide)) (by decide)) hP hD hS [0] rfl (by decide) rfl (Nat.le_of_ble_eq_true rfl) (Nat.le_of_ble_eq_true rfl)
  · have t17_1 := (l_nne ez8_1 c9_1)
    refine lv_iconst (v := 1) hx hb dX1_isExact_12 (by decide) ?_
    refine lv_goto (tgt := 17) hx hb dX1_isExact_13 (by decide) ?_
    exact endq_i hQ hx hb hr hlocks dX1_isExact_17 (by decide) () (rg_w (rg_l (by decide)) (by decide)) hP hD hS [0] rfl (by decide) rfl (Nat.le_of_ble_eq_true rfl) (Nat.le_of_ble_eq_true rfl)
set_option maxHeartbeats 2000000 in
theorem c_X1_isUnsigned (l : Launch) (D : va_G) (ct : Nat → ClassId) (fa : Nat) (v0 : Int32) (x_fa_0 : Int32) (x_fa_1 : Int64) (x_fa_2 : Int64) (x_fa_3 : Int64) (x_fa_4 : Int64) (h_v0 : rg v0 0 1) : KI (S := Unit) l yX1_isUnsigned cX1_isUnsigned 2 (some .boolean) 1 20 D ct [.ref fa, .int v0] [(fa, .inr (1, [.int x_fa_0, .long x_fa_1, .long x_fa_2, .long x_fa_3, .long x_fa_4]))] 0 0 (fun (r : Int32) (_ : Unit) => rg r 0 1) (fun (_ : Unit) => [(fa, .inr (1, [.int x_fa_0, .long x_fa_1, .long x_fa_2, .long x_fa_3, .long x_fa_4]))]) := by
  refine KIq_of (by decide) (Nat.le_of_ble_eq_true rfl) (fun p e s m below meth c A Q C0 hA hS hP hD hQ ls hl => ?_)
  obtain ⟨hx, hb, hr, hown, hin, hml, hlocks, hn, hK, hZ⟩ := C0
  have hl : lv_has ls 2 [(0, .ref fa), (1, .int v0)] := hl
  refine lv_iload_n hx hb dX1_isUnsigned_0 rfl (lv_at hl 1 rfl) ?_
  refine lv_if_eq (tgt := 21) hx hb dX1_isUnsigned_1 (by decide) (fun c1_1 => ?_) (fun c1_1 => ?_)
  · have t1_2 := (i_eq c1_1)
    have r1_3 : rg v0 0 0 := rg_eqA t1_2 h_v0 (show rg (0 : Int32) 0 0 from (rg_l (by decide))) (by decide)
    refine lv_aload_n hx hb dX1_isUnsigned_21 rfl (lv_at hl 0 rfl) ?_
    refine va_get (D := D) (ci := 1) (v := .long x_fa_2) (C := RX1) (T := TX1) (N := 5) hx hb (htX1 hn) (fun _ h => h) hown hK hP 0 rfl rfl 2 (by decide) (hn.get mw_321 rfl) (fun _ h9 => h9) rfl dX1_isUnsigned_22 ?_
    refine lv_lconst (v := 0) hx hb dX1_isUnsigned_25 (by decide) ?_
    refine W.lcmp hx hb dX1_isUnsigned_26 ?_
    refine lv_topi (fun z26_1 ez26_1 => ?_)
    have b45 : ∀  (H : Heap) (locs : List Loc) (ls : Array Slot), lv_has ls 2 [] → va_P D vwCl [(fa, .inr (1, [.int x_fa_0, .long x_fa_1, .long x_fa_2, .long x_fa_3, .long x_fa_4]))] H → va_D A [(fa, .inr (1, [.int x_fa_0, .long x_fa_1, .long x_fa_2, .long x_fa_3, .long x_fa_4]))] → va_S A s.heap H locs → W p l e ({ frames := 1, cells := 0, slots := 0, locals := 20 }) s m [.ref fa, .int v0].toArray below meth c H locs 0 0 Q (F0 m 45 ls []) := by
      intro  H locs ls  hl hP hD hS
      refine lv_iconst (v := 0) hx hb dX1_isUnsigned_45 (by decide) ?_
      exact endq_i hQ hx hb hr hlocks dX1_isUnsigned_46 (by decide) () (rg_w (rg_l (by decide)) (by decide)) hP hD hS [0] rfl (by decide) rfl (Nat.le_of_ble_eq_true rfl) (Nat.le_of_ble_eq_true rfl)
    refine lv_if_lt (tgt := 45) hx hb dX1_isUnsigned_27 (by decide) (fun c27_1 => ?_) (fun c27_1 => ?_)
    · have t27_2 := (l_lt ez26_1 c27_1)
      have r27_3 : rl x_fa_2 (-9223372036854775808) (-1) := rl_ltA t27_2 (rl_any x_fa_2) (show rl (0 : Int64) 0 0 from (rl_l (by decide))) (by decide)
      exact b45  H locs ls  (lv_sub hl [] rfl) hP hD hS
    · have t27_4 := (l_nlt ez26_1 c27_1)
      have r27_5 : rl x_fa_2 0 9223372036854775807 := rl_leB t27_4 (show rl (0 : Int64) 0 0 from (rl_l (by decide))) (rl_any x_fa_2) (by decide)
      refine lv_aload_n hx hb dX1_isUnsigned_30 rfl (lv_at hl 0 rfl) ?_
      refine va_get (D := D) (ci := 1) (v := .long x_fa_2) (C := RX1) (T := TX1) (N := 5) hx hb (htX1 hn) (fun _ h => h) hown hK hP 0 rfl rfl 2 (by decide) (hn.get mw_321 rfl) (fun _ h9 => h9) rfl dX1_isUnsigned_31 ?_
      refine lv_ldc2 (v := 2147483647) hx hb hown (hn.get mw_1129 rfl) dX1_isUnsigned_34 ?_
      refine W.lcmp hx hb dX1_isUnsigned_37 ?_
      refine lv_topi (fun z37_1 ez37_1 => ?_)
      refine lv_if_gt (tgt := 45) hx hb dX1_isUnsigned_38 (by decide) (fun c38_1 => ?_) (fun c38_1 => ?_)
      · have t38_2 := (l_gt ez37_1 c38_1)
        have r38_3 : rl x_fa_2 2147483648 9223372036854775807 := rl_ltB t38_2 (show rl (2147483647 : Int64) 2147483647 2147483647 from (rl_l (by decide))) r27_5 (by decide)
        exact b45  H locs ls  (lv_sub hl [] rfl) hP hD hS
      · have t38_4 := (l_ngt ez37_1 c38_1)
        have r38_5 : rl x_fa_2 0 2147483647 := rl_leA t38_4 r27_5 (show rl (2147483647 : Int64) 2147483647 2147483647 from (rl_l (by decide))) (by decide)
        refine lv_iconst (v := 1) hx hb dX1_isUnsigned_41 (by decide) ?_
        refine lv_goto (tgt := 46) hx hb dX1_isUnsigned_42 (by decide) ?_
        exact endq_i hQ hx hb hr hlocks dX1_isUnsigned_46 (by decide) () (rg_w (rg_l (by decide)) (by decide)) hP hD hS [0] rfl (by decide) rfl (Nat.le_of_ble_eq_true rfl) (Nat.le_of_ble_eq_true rfl)
  · have t46_1 := (i_ne c1_1)
    have r46_2 : rg v0 1 1 := rg_neAl t46_1 h_v0 (show rg (0 : Int32) 0 0 from (rg_l (by decide))) (by decide)
    refine lv_aload_n hx hb dX1_isUnsigned_4 rfl (lv_at hl 0 rfl) ?_
    refine va_get (D := D) (ci := 1) (v := .long x_fa_2) (C := RX1) (T := TX1) (N := 5) hx hb (htX1 hn) (fun _ h => h) hown hK hP 0 rfl rfl 2 (by decide) (hn.get mw_321 rfl) (fun _ h9 => h9) rfl dX1_isUnsigned_5 ?_
    refine lv_lconst (v := 0) hx hb dX1_isUnsigned_8 (by decide) ?_
    refine W.lcmp hx hb dX1_isUnsigned_9 ?_
    refine lv_topi (fun z9_1 ez9_1 => ?_)
    refine lv_if_lt (tgt := 17) hx hb dX1_isUnsigned_10 (by decide) (fun c10_1 => ?_) (fun c10_1 => ?_)
    · have t10_2 := (l_lt ez9_1 c10_1)
      have r10_3 : rl x_fa_2 (-9223372036854775808) (-1) := rl_ltA t10_2 (rl_any x_fa_2) (show rl (0 : Int64) 0 0 from (rl_l (by decide))) (by decide)
      refine lv_iconst (v := 0) hx hb dX1_isUnsigned_17 (by decide) ?_
      refine lv_goto (tgt := 46) hx hb dX1_isUnsigned_18 (by decide) ?_
      exact endq_i hQ hx hb hr hlocks dX1_isUnsigned_46 (by decide) () (rg_w (rg_l (by decide)) (by decide)) hP hD hS [0] rfl (by decide) rfl (Nat.le_of_ble_eq_true rfl) (Nat.le_of_ble_eq_true rfl)
    · have t46_1 := (l_nlt ez9_1 c10_1)
      have r46_2 : rl x_fa_2 0 9223372036854775807 := rl_leB t46_1 (show rl (0 : Int64) 0 0 from (rl_l (by decide))) (rl_any x_fa_2) (by decide)
      refine lv_iconst (v := 1) hx hb dX1_isUnsigned_13 (by decide) ?_
      refine lv_goto (tgt := 46) hx hb dX1_isUnsigned_14 (by decide) ?_
      exact endq_i hQ hx hb hr hlocks dX1_isUnsigned_46 (by decide) () (rg_w (rg_l (by decide)) (by decide)) hP hD hS [0] rfl (by decide) rfl (Nat.le_of_ble_eq_true rfl) (Nat.le_of_ble_eq_true rfl)
set_option maxHeartbeats 2000000 in
theorem c_X1_keepRange (l : Launch) (D : va_G) (ct : Nat → ClassId) (fa : Nat) (v0 : Int64) (v1 : Int64) (v2 : Int32) (x_fa_0 : Int32) (x_fa_1 : Int64) (x_fa_2 : Int64) (x_fa_3 : Int64) (x_fa_4 : Int64) (h_v2 : rg v2 0 1) : KV (S := Int64 × Int64) l yX1_keepRange cX1_keepRange 6 none 1 20 D ct [.ref fa, .long v0, .long v1, .int v2] [(fa, .inr (1, [.int x_fa_0, .long x_fa_1, .long x_fa_2, .long x_fa_3, .long x_fa_4]))] 0 0 (fun (u : Int64 × Int64) => match u with | (y_fa_1, y_fa_2) => True) (fun (u : Int64 × Int64) => match u with | (y_fa_1, y_fa_2) => [(fa, .inr (1, [.int x_fa_0, .long y_fa_1, .long y_fa_2, .long x_fa_3, .long x_fa_4]))]) := by
  refine KVq_of (by decide) (Nat.le_of_ble_eq_true rfl) (fun p e s m below meth c A Q C0 hA hS hP hD hQ ls hl => ?_)
  obtain ⟨hx, hb, hr, hown, hin, hml, hlocks, hn, hK, hZ⟩ := C0
  have hl : lv_has ls 6 [(0, .ref fa), (1, .long v0), (3, .long v1), (5, .int v2)] := hl
  refine lv_aload_n hx hb dX1_keepRange_0 rfl (lv_at hl 0 rfl) ?_
  refine lv_iload hx hb dX1_keepRange_1 (lv_at hl 3 rfl) ?_
  have b11 : ∀ (j11_s0 : Int64) (H : Heap) (locs : List Loc) (ls : Array Slot), lv_has ls 6 [(0, .ref fa), (3, .long v1), (5, .int v2)] → va_P D vwCl [(fa, .inr (1, [.int x_fa_0, .long x_fa_1, .long x_fa_2, .long x_fa_3, .long x_fa_4]))] H → va_D A [(fa, .inr (1, [.int x_fa_0, .long x_fa_1, .long x_fa_2, .long x_fa_3, .long x_fa_4]))] → va_S A s.heap H locs → W p l e ({ frames := 1, cells := 0, slots := 0, locals := 20 }) s m [.ref fa, .long v0, .long v1, .int v2].toArray below meth c H locs 0 0 Q (F0 m 11 ls [.long j11_s0, .ref fa]) := by
    intro j11_s0 H locs ls  hl hP hD hS
    refine va_put (D := D) (ci := 1) (v := .long j11_s0) (ty := .long) (C := RX1) (T := TX1) (N := 5) hx hb (htX1 hn) (fun _ h => h) tyX1 tyX1_ok nmX1 hown hK hP hD hS 0 rfl rfl 1 (by decide) (hn.get mw_319 rfl) (fun _ h9 => h9) rfl (by decide +kernel) rfl rfl (Nat.le_of_ble_eq_true rfl) dX1_keepRange_11 (fun H locs hP hD hS => ?_)
    have hP : va_P D vwCl [(fa, .inr (1, [.int x_fa_0, .long j11_s0, .long x_fa_2, .long x_fa_3, .long x_fa_4]))] _ := hP
    have hD : va_D A [(fa, .inr (1, [.int x_fa_0, .long j11_s0, .long x_fa_2, .long x_fa_3, .long x_fa_4]))] := hD
    refine lv_aload_n hx hb dX1_keepRange_14 rfl (lv_at hl 0 rfl) ?_
    refine lv_iload hx hb dX1_keepRange_15 (lv_at hl 2 rfl) ?_
    have b27 : ∀ (j27_s0 : Int64) (H : Heap) (locs : List Loc) (ls : Array Slot), lv_has ls 6 [] → va_P D vwCl [(fa, .inr (1, [.int x_fa_0, .long j11_s0, .long x_fa_2, .long x_fa_3, .long x_fa_4]))] H → va_D A [(fa, .inr (1, [.int x_fa_0, .long j11_s0, .long x_fa_2, .long x_fa_3, .long x_fa_4]))] → va_S A s.heap H locs → W p l e ({ frames := 1, cells := 0, slots := 0, locals := 20 }) s m [.ref fa, .long v0, .long v1, .int v2].toArray below meth c H locs 0 0 Q (F0 m 27 ls [.long j27_s0, .ref fa]) := by
      intro j27_s0 H locs ls  hl hP hD hS
      refine va_put (D := D) (ci := 1) (v := .long j27_s0) (ty := .long) (C := RX1) (T := TX1) (N := 5) hx hb (htX1 hn) (fun _ h => h) tyX1 tyX1_ok nmX1 hown hK hP hD hS 0 rfl rfl 2 (by decide) (hn.get mw_321 rfl) (fun _ h9 => h9) rfl (by decide +kernel) rfl rfl (Nat.le_of_ble_eq_true rfl) dX1_keepRange_27 (fun H locs hP hD hS => ?_)
      have hP : va_P D vwCl [(fa, .inr (1, [.int x_fa_0, .long j11_s0, .long j27_s0, .long x_fa_3, .long x_fa_4]))] _ := hP
      have hD : va_D A [(fa, .inr (1, [.int x_fa_0, .long j11_s0, .long j27_s0, .long x_fa_3, .long x_fa_4]))] := hD
      exact endq_v hQ hx hb hr hlocks dX1_keepRange_30 (j11_s0, j27_s0) trivial hP hD hS [0] rfl (by decide) rfl (Nat.le_of_ble_eq_true rfl) (Nat.le_of_ble_eq_true rfl)
    refine lv_if_eq (tgt := 24) hx hb dX1_keepRange_17 (by decide) (fun c17_1 => ?_) (fun c17_1 => ?_)
    · have t17_2 := (i_eq c17_1)
      have r17_3 : rg v2 0 0 := rg_eqA t17_2 h_v2 (show rg (0 : Int32) 0 0 from (rg_l (by decide))) (by decide)
      refine lv_ldc2 (v := (-1)) hx hb hown (hn.get mw_1025 rfl) dX1_keepRange_24 ?_
      exact b27 ((-1) : Int64) H locs ls  (lv_sub hl [] rfl) hP hD hS
    · have t24_1 := (i_ne c17_1)
      have r24_2 : rg v2 1 1 := rg_neAl t24_1 h_v2 (show rg (0 : Int32) 0 0 from (rg_l (by decide))) (by decide)
      refine lv_lload_n hx hb dX1_keepRange_20 rfl (lv_at hl 1 rfl) ?_
      refine lv_goto (tgt := 27) hx hb dX1_keepRange_21 (by decide) ?_
      exact b27 v1 H locs ls  (lv_sub hl [] rfl) hP hD hS
  refine lv_if_eq (tgt := 10) hx hb dX1_keepRange_3 (by decide) (fun c3_1 => ?_) (fun c3_1 => ?_)
  · have t3_2 := (i_eq c3_1)
    have r3_3 : rg v2 0 0 := rg_eqA t3_2 h_v2 (show rg (0 : Int32) 0 0 from (rg_l (by decide))) (by decide)
    refine lv_lconst (v := 0) hx hb dX1_keepRange_10 (by decide) ?_
    exact b11 (0 : Int64) H locs ls  (lv_sub hl [0, 2, 3] rfl) hP hD hS
  · have t10_1 := (i_ne c3_1)
    have r10_2 : rg v2 1 1 := rg_neAl t10_1 h_v2 (show rg (0 : Int32) 0 0 from (rg_l (by decide))) (by decide)
    refine lv_lload_n hx hb dX1_keepRange_6 rfl (lv_at hl 1 rfl) ?_
    refine lv_goto (tgt := 11) hx hb dX1_keepRange_7 (by decide) ?_
    exact b11 v0 H locs ls  (lv_sub hl [0, 2, 3] rfl) hP hD hS
set_option maxHeartbeats 2000000 in
theorem c_X1_lose (l : Launch) (D : va_G) (ct : Nat → ClassId) (fa : Nat) (x_fa_0 : Int32) (x_fa_1 : Int64) (x_fa_2 : Int64) (x_fa_3 : Int64) (x_fa_4 : Int64)  : KV (S := Unit) l yX1_lose cX1_lose 1 none 1 20 D ct [.ref fa] [(fa, .inr (1, [.int x_fa_0, .long x_fa_1, .long x_fa_2, .long x_fa_3, .long x_fa_4]))] 0 0 (fun (_ : Unit) => True) (fun (_ : Unit) => [(fa, .inr (1, [.int 0, .long 0, .long 0, .long 0, .long 0]))]) := by
  refine KVq_of (by decide) (Nat.le_of_ble_eq_true rfl) (fun p e s m below meth c A Q C0 hA hS hP hD hQ ls hl => ?_)
  obtain ⟨hx, hb, hr, hown, hin, hml, hlocks, hn, hK, hZ⟩ := C0
  have hl : lv_has ls 1 [(0, .ref fa)] := hl
  refine lv_aload_n hx hb dX1_lose_0 rfl (lv_at hl 0 rfl) ?_
  refine lv_iconst (v := 0) hx hb dX1_lose_1 (by decide) ?_
  refine va_put (D := D) (ci := 1) (v := .int 0) (ty := .int) (C := RX1) (T := TX1) (N := 5) hx hb (htX1 hn) (fun _ h => h) tyX1 tyX1_ok nmX1 hown hK hP hD hS 0 rfl rfl 0 (by decide) (hn.get mw_317 rfl) (fun _ h9 => h9) rfl (by decide +kernel) rfl rfl (Nat.le_of_ble_eq_true rfl) dX1_lose_2 (fun H locs hP hD hS => ?_)
  have hP : va_P D vwCl [(fa, .inr (1, [.int 0, .long x_fa_1, .long x_fa_2, .long x_fa_3, .long x_fa_4]))] _ := hP
  have hD : va_D A [(fa, .inr (1, [.int 0, .long x_fa_1, .long x_fa_2, .long x_fa_3, .long x_fa_4]))] := hD
  refine lv_aload_n hx hb dX1_lose_5 rfl (lv_at hl 0 rfl) ?_
  refine lv_lconst (v := 0) hx hb dX1_lose_6 (by decide) ?_
  refine va_put (D := D) (ci := 1) (v := .long 0) (ty := .long) (C := RX1) (T := TX1) (N := 5) hx hb (htX1 hn) (fun _ h => h) tyX1 tyX1_ok nmX1 hown hK hP hD hS 0 rfl rfl 1 (by decide) (hn.get mw_319 rfl) (fun _ h9 => h9) rfl (by decide +kernel) rfl rfl (Nat.le_of_ble_eq_true rfl) dX1_lose_7 (fun H locs hP hD hS => ?_)
  have hP : va_P D vwCl [(fa, .inr (1, [.int 0, .long 0, .long x_fa_2, .long x_fa_3, .long x_fa_4]))] _ := hP
  have hD : va_D A [(fa, .inr (1, [.int 0, .long 0, .long x_fa_2, .long x_fa_3, .long x_fa_4]))] := hD
  refine lv_aload_n hx hb dX1_lose_10 rfl (lv_at hl 0 rfl) ?_
  refine lv_lconst (v := 0) hx hb dX1_lose_11 (by decide) ?_
  refine va_put (D := D) (ci := 1) (v := .long 0) (ty := .long) (C := RX1) (T := TX1) (N := 5) hx hb (htX1 hn) (fun _ h => h) tyX1 tyX1_ok nmX1 hown hK hP hD hS 0 rfl rfl 2 (by decide) (hn.get mw_321 rfl) (fun _ h9 => h9) rfl (by decide +kernel) rfl rfl (Nat.le_of_ble_eq_true rfl) dX1_lose_12 (fun H locs hP hD hS => ?_)
  have hP : va_P D vwCl [(fa, .inr (1, [.int 0, .long 0, .long 0, .long x_fa_3, .long x_fa_4]))] _ := hP
  have hD : va_D A [(fa, .inr (1, [.int 0, .long 0, .long 0, .long x_fa_3, .long x_fa_4]))] := hD
  refine lv_aload_n hx hb dX1_lose_15 rfl (lv_at hl 0 rfl) ?_
  refine lv_lconst (v := 0) hx hb dX1_lose_16 (by decide) ?_
  refine va_put (D := D) (ci := 1) (v := .long 0) (ty := .long) (C := RX1) (T := TX1) (N := 5) hx hb (htX1 hn) (fun _ h => h) tyX1 tyX1_ok nmX1 hown hK hP hD hS 0 rfl rfl 3 (by decide) (hn.get mw_323 rfl) (fun _ h9 => h9) rfl (by decide +kernel) rfl rfl (Nat.le_of_ble_eq_true rfl) dX1_lose_17 (fun H locs hP hD hS => ?_)
  have hP : va_P D vwCl [(fa, .inr (1, [.int 0, .long 0, .long 0, .long 0, .long x_fa_4]))] _ := hP
  have hD : va_D A [(fa, .inr (1, [.int 0, .long 0, .long 0, .long 0, .long x_fa_4]))] := hD
  refine lv_aload_n hx hb dX1_lose_20 rfl (lv_at hl 0 rfl) ?_
  refine lv_lconst (v := 0) hx hb dX1_lose_21 (by decide) ?_
  refine va_put (D := D) (ci := 1) (v := .long 0) (ty := .long) (C := RX1) (T := TX1) (N := 5) hx hb (htX1 hn) (fun _ h => h) tyX1 tyX1_ok nmX1 hown hK hP hD hS 0 rfl rfl 4 (by decide) (hn.get mw_325 rfl) (fun _ h9 => h9) rfl (by decide +kernel) rfl rfl (Nat.le_of_ble_eq_true rfl) dX1_lose_22 (fun H locs hP hD hS => ?_)
  have hP : va_P D vwCl [(fa, .inr (1, [.int 0, .long 0, .long 0, .long 0, .long 0]))] _ := hP
  have hD : va_D A [(fa, .inr (1, [.int 0, .long 0, .long 0, .long 0, .long 0]))] := hD
  exact endq_v hQ hx hb hr hlocks dX1_lose_25 () trivial hP hD hS [0] rfl (by decide) rfl (Nat.le_of_ble_eq_true rfl) (Nat.le_of_ble_eq_true rfl)
set_option maxHeartbeats 2000000 in
theorem c_X1_narrowUnequal (l : Launch) (D : va_G) (ct : Nat → ClassId) (fa : Nat) (v0 : Int64) (x_fa_0 : Int32) (x_fa_1 : Int64) (x_fa_2 : Int64) (x_fa_3 : Int64) (x_fa_4 : Int64)  : KI (S := Int64 × Int64) l yX1_narrowUnequal cX1_narrowUnequal 3 (some .boolean) 1 20 D ct [.ref fa, .long v0] [(fa, .inr (1, [.int x_fa_0, .long x_fa_1, .long x_fa_2, .long x_fa_3, .long x_fa_4]))] 0 0 (fun (r : Int32) (u : Int64 × Int64) => match u with | (y_fa_1, y_fa_2) => rg r 0 1) (fun (u : Int64 × Int64) => match u with | (y_fa_1, y_fa_2) => [(fa, .inr (1, [.int x_fa_0, .long y_fa_1, .long y_fa_2, .long x_fa_3, .long x_fa_4]))]) := by
  refine KIq_of (by decide) (Nat.le_of_ble_eq_true rfl) (fun p e s m below meth c A Q C0 hA hS hP hD hQ ls hl => ?_)
  obtain ⟨hx, hb, hr, hown, hin, hml, hlocks, hn, hK, hZ⟩ := C0
  have hl : lv_has ls 3 [(0, .ref fa), (1, .long v0)] := hl
  refine lv_aload_n hx hb dX1_narrowUnequal_0 rfl (lv_at hl 0 rfl) ?_
  refine va_get (D := D) (ci := 1) (v := .long x_fa_1) (C := RX1) (T := TX1) (N := 5) hx hb (htX1 hn) (fun _ h => h) hown hK hP 0 rfl rfl 1 (by decide) (hn.get mw_319 rfl) (fun _ h9 => h9) rfl dX1_narrowUnequal_1 ?_
  refine lv_lload_n hx hb dX1_narrowUnequal_4 rfl (lv_at hl 1 rfl) ?_
  refine W.lcmp hx hb dX1_narrowUnequal_5 ?_
  refine lv_topi (fun z5_1 ez5_1 => ?_)
  have b20 : ∀  (H : Heap) (locs : List Loc) (ls : Array Slot), lv_has ls 3 [(0, .ref fa), (1, .long v0)] → va_P D vwCl [(fa, .inr (1, [.int x_fa_0, .long x_fa_1, .long x_fa_2, .long x_fa_3, .long x_fa_4]))] H → va_D A [(fa, .inr (1, [.int x_fa_0, .long x_fa_1, .long x_fa_2, .long x_fa_3, .long x_fa_4]))] → va_S A s.heap H locs → W p l e ({ frames := 1, cells := 0, slots := 0, locals := 20 }) s m [.ref fa, .long v0].toArray below meth c H locs 0 0 Q (F0 m 20 ls []) := by
    intro  H locs ls  hl hP hD hS
    refine lv_aload_n hx hb dX1_narrowUnequal_20 rfl (lv_at hl 0 rfl) ?_
    refine va_get (D := D) (ci := 1) (v := .long x_fa_1) (C := RX1) (T := TX1) (N := 5) hx hb (htX1 hn) (fun _ h => h) hown hK hP 0 rfl rfl 1 (by decide) (hn.get mw_319 rfl) (fun _ h9 => h9) rfl dX1_narrowUnequal_21 ?_
    refine lv_lload_n hx hb dX1_narrowUnequal_24 rfl (lv_at hl 1 rfl) ?_
    refine W.lcmp hx hb dX1_narrowUnequal_25 ?_
    refine lv_topi (fun z25_1 ez25_1 => ?_)
    have b61 : ∀ (j61_ffa_1 : Int64) (j61_ffa_2 : Int64) (H : Heap) (locs : List Loc) (ls : Array Slot), lv_has ls 3 [] → va_P D vwCl [(fa, .inr (1, [.int x_fa_0, .long j61_ffa_1, .long j61_ffa_2, .long x_fa_3, .long x_fa_4]))] H → va_D A [(fa, .inr (1, [.int x_fa_0, .long j61_ffa_1, .long j61_ffa_2, .long x_fa_3, .long x_fa_4]))] → va_S A s.heap H locs → W p l e ({ frames := 1, cells := 0, slots := 0, locals := 20 }) s m [.ref fa, .long v0].toArray below meth c H locs 0 0 Q (F0 m 61 ls []) := by
      intro j61_ffa_1 j61_ffa_2 H locs ls  hl hP hD hS
      refine lv_iconst (v := 1) hx hb dX1_narrowUnequal_61 (by decide) ?_
      exact endq_i hQ hx hb hr hlocks dX1_narrowUnequal_62 (by decide) (j61_ffa_1, j61_ffa_2) (rg_w (rg_l (by decide)) (by decide)) hP hD hS [0] rfl (by decide) rfl (Nat.le_of_ble_eq_true rfl) (Nat.le_of_ble_eq_true rfl)
    refine lv_if_ne (tgt := 42) hx hb dX1_narrowUnequal_26 (by decide) (fun c26_1 => ?_) (fun c26_1 => ?_)
    · have t26_2 := (l_ne ez25_1 c26_1)
      refine lv_aload_n hx hb dX1_narrowUnequal_42 rfl (lv_at hl 0 rfl) ?_
      refine va_get (D := D) (ci := 1) (v := .long x_fa_2) (C := RX1) (T := TX1) (N := 5) hx hb (htX1 hn) (fun _ h => h) hown hK hP 0 rfl rfl 2 (by decide) (hn.get mw_321 rfl) (fun _ h9 => h9) rfl dX1_narrowUnequal_43 ?_
      refine lv_lload_n hx hb dX1_narrowUnequal_46 rfl (lv_at hl 1 rfl) ?_
      refine W.lcmp hx hb dX1_narrowUnequal_47 ?_
      refine lv_topi (fun z47_1 ez47_1 => ?_)
      refine lv_if_ne (tgt := 61) hx hb dX1_narrowUnequal_48 (by decide) (fun c48_1 => ?_) (fun c48_1 => ?_)
      · have t48_2 := (l_ne ez47_1 c48_1)
        exact b61 x_fa_1 x_fa_2 H locs ls  (lv_sub hl [] rfl) hP hD hS
      · have t48_3 := (l_nne ez47_1 c48_1)
        refine lv_aload_n hx hb dX1_narrowUnequal_51 rfl (lv_at hl 0 rfl) ?_
        refine lv_dup hx hb dX1_narrowUnequal_52 rfl ?_
        refine va_get (D := D) (ci := 1) (v := .long x_fa_2) (C := RX1) (T := TX1) (N := 5) hx hb (htX1 hn) (fun _ h => h) hown hK hP 0 rfl rfl 2 (by decide) (hn.get mw_321 rfl) (fun _ h9 => h9) rfl dX1_narrowUnequal_53 ?_
        refine lv_lconst (v := 1) hx hb dX1_narrowUnequal_56 (by decide) ?_
        refine lv_lsub hx hb dX1_narrowUnequal_57 ?_
        refine lv_topl (fun z57_1 ez57_1 => ?_)
        refine va_put (D := D) (ci := 1) (v := .long z57_1) (ty := .long) (C := RX1) (T := TX1) (N := 5) hx hb (htX1 hn) (fun _ h => h) tyX1 tyX1_ok nmX1 hown hK hP hD hS 0 rfl rfl 2 (by decide) (hn.get mw_321 rfl) (fun _ h9 => h9) rfl (by decide +kernel) rfl rfl (Nat.le_of_ble_eq_true rfl) dX1_narrowUnequal_58 (fun H locs hP hD hS => ?_)
        have hP : va_P D vwCl [(fa, .inr (1, [.int x_fa_0, .long x_fa_1, .long z57_1, .long x_fa_3, .long x_fa_4]))] _ := hP
        have hD : va_D A [(fa, .inr (1, [.int x_fa_0, .long x_fa_1, .long z57_1, .long x_fa_3, .long x_fa_4]))] := hD
        exact b61 x_fa_1 z57_1 H locs ls  (lv_sub hl [] rfl) hP hD hS
    · have t58_1 := (l_nne ez25_1 c26_1)
      refine lv_aload_n hx hb dX1_narrowUnequal_29 rfl (lv_at hl 0 rfl) ?_
      refine lv_dup hx hb dX1_narrowUnequal_30 rfl ?_
      refine va_get (D := D) (ci := 1) (v := .long x_fa_1) (C := RX1) (T := TX1) (N := 5) hx hb (htX1 hn) (fun _ h => h) hown hK hP 0 rfl rfl 1 (by decide) (hn.get mw_319 rfl) (fun _ h9 => h9) rfl dX1_narrowUnequal_31 ?_
      refine lv_lconst (v := 1) hx hb dX1_narrowUnequal_34 (by decide) ?_
      refine lv_ladd hx hb dX1_narrowUnequal_35 ?_
      refine lv_topl (fun z35_1 ez35_1 => ?_)
      refine va_put (D := D) (ci := 1) (v := .long z35_1) (ty := .long) (C := RX1) (T := TX1) (N := 5) hx hb (htX1 hn) (fun _ h => h) tyX1 tyX1_ok nmX1 hown hK hP hD hS 0 rfl rfl 1 (by decide) (hn.get mw_319 rfl) (fun _ h9 => h9) rfl (by decide +kernel) rfl rfl (Nat.le_of_ble_eq_true rfl) dX1_narrowUnequal_36 (fun H locs hP hD hS => ?_)
      have hP : va_P D vwCl [(fa, .inr (1, [.int x_fa_0, .long z35_1, .long x_fa_2, .long x_fa_3, .long x_fa_4]))] _ := hP
      have hD : va_D A [(fa, .inr (1, [.int x_fa_0, .long z35_1, .long x_fa_2, .long x_fa_3, .long x_fa_4]))] := hD
      refine lv_goto (tgt := 61) hx hb dX1_narrowUnequal_39 (by decide) ?_
      exact b61 z35_1 x_fa_2 H locs ls  (lv_sub hl [] rfl) hP hD hS
  refine lv_if_ne (tgt := 20) hx hb dX1_narrowUnequal_6 (by decide) (fun c6_1 => ?_) (fun c6_1 => ?_)
  · have t6_2 := (l_ne ez5_1 c6_1)
    exact b20  H locs ls  (lv_sub hl [0, 1] rfl) hP hD hS
  · have t6_3 := (l_nne ez5_1 c6_1)
    refine lv_aload_n hx hb dX1_narrowUnequal_9 rfl (lv_at hl 0 rfl) ?_
    refine va_get (D := D) (ci := 1) (v := .long x_fa_2) (C := RX1) (T := TX1) (N := 5) hx hb (htX1 hn) (fun _ h => h) hown hK hP 0 rfl rfl 2 (by decide) (hn.get mw_321 rfl) (fun _ h9 => h9) rfl dX1_narrowUnequal_10 ?_
    refine lv_lload_n hx hb dX1_narrowUnequal_13 rfl (lv_at hl 1 rfl) ?_
    refine W.lcmp hx hb dX1_narrowUnequal_14 ?_
    refine lv_topi (fun z14_1 ez14_1 => ?_)
    refine lv_if_ne (tgt := 20) hx hb dX1_narrowUnequal_15 (by decide) (fun c15_1 => ?_) (fun c15_1 => ?_)
    · have t15_2 := (l_ne ez14_1 c15_1)
      exact b20  H locs ls  (lv_sub hl [0, 1] rfl) hP hD hS
    · have t15_3 := (l_nne ez14_1 c15_1)
      refine lv_iconst (v := 0) hx hb dX1_narrowUnequal_18 (by decide) ?_
      exact endq_i hQ hx hb hr hlocks dX1_narrowUnequal_19 (by decide) (x_fa_1, x_fa_2) (rg_w (rg_l (by decide)) (by decide)) hP hD hS [0] rfl (by decide) rfl (Nat.le_of_ble_eq_true rfl) (Nat.le_of_ble_eq_true rfl)
set_option maxHeartbeats 2000000 in
theorem c_X11_greater (l : Launch) (D : va_G) (ct : Nat → ClassId) (v0 : Int64) (v1 : Int64)  : KL (S := Unit) l yX11_greater cX11_greater 4 (some .long) 2 43 D ct [.long v0, .long v1] [] 0 0 (fun (r : Int64) (_ : Unit) => True) (fun (_ : Unit) => []) := by
  refine KLq_of (by decide) (Nat.le_of_ble_eq_true rfl) (fun p e s m below meth c A Q C0 hA hS hP hD hQ ls hl => ?_)
  obtain ⟨hx, hb, hr, hown, hin, hml, hlocks, hn, hK, hZ⟩ := C0
  have hl : lv_has ls 4 [(0, .long v0), (2, .long v1)] := hl
  refine lv_lload_n hx hb dX11_greater_0 rfl (lv_at hl 0 rfl) ?_
  refine lv_lload_n hx hb dX11_greater_1 rfl (lv_at hl 1 rfl) ?_
  refine go_i (k1 := 0) (n1 := 0) (wr := []) [] [] (rn_S (As := [.long v0, .long v1]) (rest := []) (c_X11_below l D ct v0 v1  _) (cb_of (n := 2) hn mw_1040 mw_1 mw_1038 mhX11_below ⟨(Nat.le_of_ble_eq_true rfl), (Nat.le_of_ble_eq_true rfl)⟩) hx hb hml hown hn hK hZ hS mw_1039 rfl hl.1 (Nat.le_of_ble_eq_true rfl) dX11_greater_2 ⟨(Nat.le_of_ble_eq_true rfl), (Nat.le_of_ble_eq_true rfl)⟩) hP hD hS hA rfl rfl (by decide) (by decide) (by decide) (Nat.le_of_ble_eq_true rfl) (Nat.le_of_ble_eq_true rfl) (fun r2_1 u2_2 H locs hp2_3 hP hD hS => ?_)
  have hp2_4 := hp2_3
  have hp2_4 : rg r2_1 0 1 := hp2_4
  have hP : va_P D vwCl [] _ := hP
  have hD : va_D A [] := hD
  refine lv_if_eq (tgt := 12) hx hb dX11_greater_5 (by decide) (fun c5_1 => ?_) (fun c5_1 => ?_)
  · have t5_2 := (i_eq c5_1)
    have r5_3 : rg r2_1 0 0 := rg_eqA t5_2 hp2_4 (show rg (0 : Int32) 0 0 from (rg_l (by decide))) (by decide)
    refine lv_lload_n hx hb dX11_greater_12 rfl (lv_at hl 0 rfl) ?_
    exact endq_l hQ hx hb hr hlocks dX11_greater_13 () trivial hP hD hS [] rfl (by decide) rfl (Nat.le_of_ble_eq_true rfl) (Nat.le_of_ble_eq_true rfl)
  · have t13_1 := (i_ne c5_1)
    have r13_2 : rg r2_1 1 1 := rg_neAl t13_1 hp2_4 (show rg (0 : Int32) 0 0 from (rg_l (by decide))) (by decide)
    refine lv_lload_n hx hb dX11_greater_8 rfl (lv_at hl 1 rfl) ?_
    refine lv_goto (tgt := 13) hx hb dX11_greater_9 (by decide) ?_
    exact endq_l hQ hx hb hr hlocks dX11_greater_13 () trivial hP hD hS [] rfl (by decide) rfl (Nat.le_of_ble_eq_true rfl) (Nat.le_of_ble_eq_true rfl)
set_option maxHeartbeats 2000000 in
theorem c_X11_lesser (l : Launch) (D : va_G) (ct : Nat → ClassId) (v0 : Int64) (v1 : Int64)  : KL (S := Unit) l yX11_lesser cX11_lesser 4 (some .long) 2 43 D ct [.long v0, .long v1] [] 0 0 (fun (r : Int64) (_ : Unit) => True) (fun (_ : Unit) => []) := by
  refine KLq_of (by decide) (Nat.le_of_ble_eq_true rfl) (fun p e s m below meth c A Q C0 hA hS hP hD hQ ls hl => ?_)
  obtain ⟨hx, hb, hr, hown, hin, hml, hlocks, hn, hK, hZ⟩ := C0
  have hl : lv_has ls 4 [(0, .long v0), (2, .long v1)] := hl
  refine lv_lload_n hx hb dX11_lesser_0 rfl (lv_at hl 0 rfl) ?_
  refine lv_lload_n hx hb dX11_lesser_1 rfl (lv_at hl 1 rfl) ?_
  refine go_i (k1 := 0) (n1 := 0) (wr := []) [] [] (rn_S (As := [.long v0, .long v1]) (rest := []) (c_X11_below l D ct v0 v1  _) (cb_of (n := 2) hn mw_1040 mw_1 mw_1038 mhX11_below ⟨(Nat.le_of_ble_eq_true rfl), (Nat.le_of_ble_eq_true rfl)⟩) hx hb hml hown hn hK hZ hS mw_1039 rfl hl.1 (Nat.le_of_ble_eq_true rfl) dX11_lesser_2 ⟨(Nat.le_of_ble_eq_true rfl), (Nat.le_of_ble_eq_true rfl)⟩) hP hD hS hA rfl rfl (by decide) (by decide) (by decide) (Nat.le_of_ble_eq_true rfl) (Nat.le_of_ble_eq_true rfl) (fun r2_1 u2_2 H locs hp2_3 hP hD hS => ?_)
  have hp2_4 := hp2_3
  have hp2_4 : rg r2_1 0 1 := hp2_4
  have hP : va_P D vwCl [] _ := hP
  have hD : va_D A [] := hD
  refine lv_if_eq (tgt := 12) hx hb dX11_lesser_5 (by decide) (fun c5_1 => ?_) (fun c5_1 => ?_)
  · have t5_2 := (i_eq c5_1)
    have r5_3 : rg r2_1 0 0 := rg_eqA t5_2 hp2_4 (show rg (0 : Int32) 0 0 from (rg_l (by decide))) (by decide)
    refine lv_lload_n hx hb dX11_lesser_12 rfl (lv_at hl 1 rfl) ?_
    exact endq_l hQ hx hb hr hlocks dX11_lesser_13 () trivial hP hD hS [] rfl (by decide) rfl (Nat.le_of_ble_eq_true rfl) (Nat.le_of_ble_eq_true rfl)
  · have t13_1 := (i_ne c5_1)
    have r13_2 : rg r2_1 1 1 := rg_neAl t13_1 hp2_4 (show rg (0 : Int32) 0 0 from (rg_l (by decide))) (by decide)
    refine lv_lload_n hx hb dX11_lesser_8 rfl (lv_at hl 0 rfl) ?_
    refine lv_goto (tgt := 13) hx hb dX11_lesser_9 (by decide) ?_
    exact endq_l hQ hx hb hr hlocks dX11_lesser_13 () trivial hP hD hS [] rfl (by decide) rfl (Nat.le_of_ble_eq_true rfl) (Nat.le_of_ble_eq_true rfl)
set_option maxHeartbeats 2000000 in
theorem c_X1_narrow (l : Launch) (D : va_G) (ct : Nat → ClassId) (fa : Nat) (v0 : Int32) (v1 : Int64) (x_fa_0 : Int32) (x_fa_1 : Int64) (x_fa_2 : Int64) (x_fa_3 : Int64) (x_fa_4 : Int64)  : KI (S := Int64 × Int64 × Int64 × Int64) l yX1_narrow cX1_narrow 5 (some .boolean) 3 66 D ct [.ref fa, .int v0, .long v1] [(fa, .inr (1, [.int x_fa_0, .long x_fa_1, .long x_fa_2, .long x_fa_3, .long x_fa_4]))] 0 0 (fun (r : Int32) (u : Int64 × Int64 × Int64 × Int64) => match u with | (y_fa_1, y_fa_2, y_fa_3, y_fa_4) => rg r 0 1) (fun (u : Int64 × Int64 × Int64 × Int64) => match u with | (y_fa_1, y_fa_2, y_fa_3, y_fa_4) => [(fa, .inr (1, [.int x_fa_0, .long y_fa_1, .long y_fa_2, .long y_fa_3, .long y_fa_4]))]) := by
  refine KIq_of (by decide) (Nat.le_of_ble_eq_true rfl) (fun p e s m below meth c A Q C0 hA hS hP hD hQ ls hl => ?_)
  obtain ⟨hx, hb, hr, hown, hin, hml, hlocks, hn, hK, hZ⟩ := C0
  have hl : lv_has ls 5 [(0, .ref fa), (1, .int v0), (2, .long v1)] := hl
  refine lv_iconst (v := 1) hx hb dX1_narrow_0 (by decide) ?_
  refine lv_istore (lv' := [(4, .int 1), (0, .ref fa), (1, .int v0), (2, .long v1)]) hx hb dX1_narrow_1 hl (by decide) rfl (fun ls hl => ?_)
  refine lv_iload_n hx hb dX1_narrow_3 rfl (lv_at hl 2 rfl) ?_
  have b208 : ∀ (j208_l4 : Int32) (j208_ffa_1 : Int64) (j208_ffa_2 : Int64) (H : Heap) (locs : List Loc) (ls : Array Slot), rg j208_l4 0 1 → lv_has ls 5 [(0, .ref fa), (4, .int j208_l4)] → va_P D vwCl [(fa, .inr (1, [.int x_fa_0, .long j208_ffa_1, .long j208_ffa_2, .long x_fa_3, .long x_fa_4]))] H → va_D A [(fa, .inr (1, [.int x_fa_0, .long j208_ffa_1, .long j208_ffa_2, .long x_fa_3, .long x_fa_4]))] → va_S A s.heap H locs → W p l e ({ frames := 3, cells := 0, slots := 0, locals := 66 }) s m [.ref fa, .int v0, .long v1].toArray below meth c H locs 0 0 Q (F0 m 208 ls []) := by
    intro j208_l4 j208_ffa_1 j208_ffa_2 H locs ls r208_1001 hl hP hD hS
    refine lv_iload hx hb dX1_narrow_208 (lv_at hl 1 rfl) ?_
    have b227 : ∀  (H : Heap) (locs : List Loc) (ls : Array Slot), lv_has ls 5 [] → va_P D vwCl [(fa, .inr (1, [.int x_fa_0, .long j208_ffa_1, .long j208_ffa_2, .long x_fa_3, .long x_fa_4]))] H → va_D A [(fa, .inr (1, [.int x_fa_0, .long j208_ffa_1, .long j208_ffa_2, .long x_fa_3, .long x_fa_4]))] → va_S A s.heap H locs → W p l e ({ frames := 3, cells := 0, slots := 0, locals := 66 }) s m [.ref fa, .int v0, .long v1].toArray below meth c H locs 0 0 Q (F0 m 227 ls []) := by
      intro  H locs ls  hl hP hD hS
      refine lv_iconst (v := 0) hx hb dX1_narrow_227 (by decide) ?_
      exact endq_i hQ hx hb hr hlocks dX1_narrow_228 (by decide) (j208_ffa_1, j208_ffa_2, x_fa_3, x_fa_4) (rg_w (rg_l (by decide)) (by decide)) hP hD hS [0] rfl (by decide) rfl (Nat.le_of_ble_eq_true rfl) (Nat.le_of_ble_eq_true rfl)
    refine lv_if_eq (tgt := 227) hx hb dX1_narrow_210 (by decide) (fun c210_1 => ?_) (fun c210_1 => ?_)
    · have t210_2 := (i_eq c210_1)
      have r210_3 : rg j208_l4 0 0 := rg_eqA t210_2 r208_1001 (show rg (0 : Int32) 0 0 from (rg_l (by decide))) (by decide)
      exact b227  H locs ls  (lv_sub hl [] rfl) hP hD hS
    · have t210_4 := (i_ne c210_1)
      have r210_5 : rg j208_l4 1 1 := rg_neAl t210_4 r208_1001 (show rg (0 : Int32) 0 0 from (rg_l (by decide))) (by decide)
      refine lv_aload_n hx hb dX1_narrow_213 rfl (lv_at hl 0 rfl) ?_
      refine va_get (D := D) (ci := 1) (v := .long j208_ffa_2) (C := RX1) (T := TX1) (N := 5) hx hb (htX1 hn) (fun _ h => h) hown hK hP 0 rfl rfl 2 (by decide) (hn.get mw_321 rfl) (fun _ h9 => h9) rfl dX1_narrow_214 ?_
      refine lv_aload_n hx hb dX1_narrow_217 rfl (lv_at hl 0 rfl) ?_
      refine va_get (D := D) (ci := 1) (v := .long j208_ffa_1) (C := RX1) (T := TX1) (N := 5) hx hb (htX1 hn) (fun _ h => h) hown hK hP 0 rfl rfl 1 (by decide) (hn.get mw_319 rfl) (fun _ h9 => h9) rfl dX1_narrow_218 ?_
      refine go_i (k1 := 0) (n1 := 0) (wr := [(fa, .inr (1, [.int x_fa_0, .long j208_ffa_1, .long j208_ffa_2, .long x_fa_3, .long x_fa_4]))]) [] [0] (rn_SN (As := [.long j208_ffa_2, .long j208_ffa_1]) (rest := []) (c_X11_below l D ct j208_ffa_2 j208_ffa_1  _) (cn_of (n := 2) hn mw_1040 mw_1 mw_1095 mhX11_below ⟨(Nat.le_of_ble_eq_true rfl), (Nat.le_of_ble_eq_true rfl)⟩) hx hb hml hown hn hK hZ hS mw_1039 rfl hl.1 (Nat.le_of_ble_eq_true rfl) dX1_narrow_221 ⟨(Nat.le_of_ble_eq_true rfl), (Nat.le_of_ble_eq_true rfl)⟩) hP hD hS hA rfl rfl (by decide) (by decide) (by decide) (Nat.le_of_ble_eq_true rfl) (Nat.le_of_ble_eq_true rfl) (fun r221_1 u221_2 H locs hp221_3 hP hD hS => ?_)
      have hp221_4 := hp221_3
      have hp221_4 : rg r221_1 0 1 := hp221_4
      have hP : va_P D vwCl [(fa, .inr (1, [.int x_fa_0, .long j208_ffa_1, .long j208_ffa_2, .long x_fa_3, .long x_fa_4]))] _ := hP
      have hD : va_D A [(fa, .inr (1, [.int x_fa_0, .long j208_ffa_1, .long j208_ffa_2, .long x_fa_3, .long x_fa_4]))] := hD
      refine lv_if_eq (tgt := 229) hx hb dX1_narrow_224 (by decide) (fun c224_1 => ?_) (fun c224_1 => ?_)
      · have t224_2 := (i_eq c224_1)
        have r224_3 : rg r221_1 0 0 := rg_eqA t224_2 hp221_4 (show rg (0 : Int32) 0 0 from (rg_l (by decide))) (by decide)
        refine lv_aload_n hx hb dX1_narrow_229 rfl (lv_at hl 0 rfl) ?_
        refine go_v (k1 := 0) (n1 := 0) (wr := []) [0] [] (rn_V (As := []) (rest := []) (c_X1_settle l D ct fa x_fa_0 j208_ffa_1 j208_ffa_2 x_fa_3 x_fa_4  _) (cb_of (n := 0) hn mw_1100 mw_12 mw_1097 mhX1_settle ⟨(Nat.le_of_ble_eq_true rfl), (Nat.le_of_ble_eq_true rfl)⟩) hx hb hml hown hn hK hZ hS mw_1099 mw_s113 (ci := 1) (q0 := 0) rfl rfl rfl rfl hl.1 (Nat.le_of_ble_eq_true rfl) dX1_narrow_230 ⟨(Nat.le_of_ble_eq_true rfl), (Nat.le_of_ble_eq_true rfl)⟩) hP hD hS hA rfl rfl (by decide) (by decide) (by decide) (Nat.le_of_ble_eq_true rfl) (Nat.le_of_ble_eq_true rfl) (fun u230_2 H locs hp230_3 hP hD hS => ?_)
        obtain ⟨y_fa_1230_4, y_fa_2230_5, y_fa_3230_6, y_fa_4230_7⟩ := u230_2
        have hP : va_P D vwCl [(fa, .inr (1, [.int x_fa_0, .long y_fa_1230_4, .long y_fa_2230_5, .long y_fa_3230_6, .long y_fa_4230_7]))] _ := hP
        have hD : va_D A [(fa, .inr (1, [.int x_fa_0, .long y_fa_1230_4, .long y_fa_2230_5, .long y_fa_3230_6, .long y_fa_4230_7]))] := hD
        refine lv_iconst (v := 1) hx hb dX1_narrow_233 (by decide) ?_
        exact endq_i hQ hx hb hr hlocks dX1_narrow_234 (by decide) (y_fa_1230_4, y_fa_2230_5, y_fa_3230_6, y_fa_4230_7) (rg_w (rg_l (by decide)) (by decide)) hP hD hS [0] rfl (by decide) rfl (Nat.le_of_ble_eq_true rfl) (Nat.le_of_ble_eq_true rfl)
      · have t234_1 := (i_ne c224_1)
        have r234_2 : rg r221_1 1 1 := rg_neAl t234_1 hp221_4 (show rg (0 : Int32) 0 0 from (rg_l (by decide))) (by decide)
        exact b227  H locs ls  (lv_sub hl [] rfl) hP hD hS
  by_cases h4_1 : v0.toInt = 1
  · have r4_2 : rg v0 1 1 := rg_at h4_1
    refine lv_tableIn (off := 60) (tgt := 64) hx hb dX1_narrow_4 (by rw [h4_1]; decide) (by rw [h4_1]; decide) (by rw [h4_1]; rfl) (by decide) ?_
    refine lv_lload_n hx hb dX1_narrow_64 rfl (lv_at hl 3 rfl) ?_
    refine lv_aload_n hx hb dX1_narrow_65 rfl (lv_at hl 1 rfl) ?_
    refine va_get (D := D) (ci := 1) (v := .long x_fa_1) (C := RX1) (T := TX1) (N := 5) hx hb (htX1 hn) (fun _ h => h) hown hK hP 0 rfl rfl 1 (by decide) (hn.get mw_319 rfl) (fun _ h9 => h9) rfl dX1_narrow_66 ?_
    refine go_i (k1 := 0) (n1 := 0) (wr := [(fa, .inr (1, [.int x_fa_0, .long x_fa_1, .long x_fa_2, .long x_fa_3, .long x_fa_4]))]) [] [0] (rn_SN (As := [.long v1, .long x_fa_1]) (rest := []) (c_X11_below l D ct v1 x_fa_1  _) (cn_of (n := 2) hn mw_1040 mw_1 mw_1095 mhX11_below ⟨(Nat.le_of_ble_eq_true rfl), (Nat.le_of_ble_eq_true rfl)⟩) hx hb hml hown hn hK hZ hS mw_1039 rfl hl.1 (Nat.le_of_ble_eq_true rfl) dX1_narrow_69 ⟨(Nat.le_of_ble_eq_true rfl), (Nat.le_of_ble_eq_true rfl)⟩) hP hD hS hA rfl rfl (by decide) (by decide) (by decide) (Nat.le_of_ble_eq_true rfl) (Nat.le_of_ble_eq_true rfl) (fun r69_1 u69_2 H locs hp69_3 hP hD hS => ?_)
    have hp69_4 := hp69_3
    have hp69_4 : rg r69_1 0 1 := hp69_4
    have hP : va_P D vwCl [(fa, .inr (1, [.int x_fa_0, .long x_fa_1, .long x_fa_2, .long x_fa_3, .long x_fa_4]))] _ := hP
    have hD : va_D A [(fa, .inr (1, [.int x_fa_0, .long x_fa_1, .long x_fa_2, .long x_fa_3, .long x_fa_4]))] := hD
    have b91 : ∀ (j91_s0 : Int32) (H : Heap) (locs : List Loc) (ls : Array Slot), rg j91_s0 0 1 → lv_has ls 5 [(0, .ref fa), (2, .long v1)] → va_P D vwCl [(fa, .inr (1, [.int x_fa_0, .long x_fa_1, .long x_fa_2, .long x_fa_3, .long x_fa_4]))] H → va_D A [(fa, .inr (1, [.int x_fa_0, .long x_fa_1, .long x_fa_2, .long x_fa_3, .long x_fa_4]))] → va_S A s.heap H locs → W p l e ({ frames := 3, cells := 0, slots := 0, locals := 66 }) s m [.ref fa, .int v0, .long v1].toArray below meth c H locs 0 0 Q (F0 m 91 ls [.int j91_s0]) := by
      intro j91_s0 H locs ls r91_1001 hl hP hD hS
      refine lv_istore (lv' := [(4, .int j91_s0), (0, .ref fa), (2, .long v1)]) hx hb dX1_narrow_91 hl (by decide) rfl (fun ls hl => ?_)
      refine lv_aload_n hx hb dX1_narrow_93 rfl (lv_at hl 1 rfl) ?_
      refine lv_lload_n hx hb dX1_narrow_94 rfl (lv_at hl 2 rfl) ?_
      refine va_put (D := D) (ci := 1) (v := .long v1) (ty := .long) (C := RX1) (T := TX1) (N := 5) hx hb (htX1 hn) (fun _ h => h) tyX1 tyX1_ok nmX1 hown hK hP hD hS 0 rfl rfl 1 (by decide) (hn.get mw_319 rfl) (fun _ h9 => h9) rfl (by decide +kernel) rfl rfl (Nat.le_of_ble_eq_true rfl) dX1_narrow_95 (fun H locs hP hD hS => ?_)
      have hP : va_P D vwCl [(fa, .inr (1, [.int x_fa_0, .long v1, .long x_fa_2, .long x_fa_3, .long x_fa_4]))] _ := hP
      have hD : va_D A [(fa, .inr (1, [.int x_fa_0, .long v1, .long x_fa_2, .long x_fa_3, .long x_fa_4]))] := hD
      refine lv_aload_n hx hb dX1_narrow_98 rfl (lv_at hl 1 rfl) ?_
      refine lv_lload_n hx hb dX1_narrow_99 rfl (lv_at hl 2 rfl) ?_
      refine va_put (D := D) (ci := 1) (v := .long v1) (ty := .long) (C := RX1) (T := TX1) (N := 5) hx hb (htX1 hn) (fun _ h => h) tyX1 tyX1_ok nmX1 hown hK hP hD hS 0 rfl rfl 2 (by decide) (hn.get mw_321 rfl) (fun _ h9 => h9) rfl (by decide +kernel) rfl rfl (Nat.le_of_ble_eq_true rfl) dX1_narrow_100 (fun H locs hP hD hS => ?_)
      have hP : va_P D vwCl [(fa, .inr (1, [.int x_fa_0, .long v1, .long v1, .long x_fa_3, .long x_fa_4]))] _ := hP
      have hD : va_D A [(fa, .inr (1, [.int x_fa_0, .long v1, .long v1, .long x_fa_3, .long x_fa_4]))] := hD
      refine lv_goto (tgt := 208) hx hb dX1_narrow_103 (by decide) ?_
      exact b208 j91_s0 v1 v1 H locs ls r91_1001 (lv_sub hl [1, 0] rfl) hP hD hS
    have b90 : ∀  (H : Heap) (locs : List Loc) (ls : Array Slot), lv_has ls 5 [(0, .ref fa), (2, .long v1)] → va_P D vwCl [(fa, .inr (1, [.int x_fa_0, .long x_fa_1, .long x_fa_2, .long x_fa_3, .long x_fa_4]))] H → va_D A [(fa, .inr (1, [.int x_fa_0, .long x_fa_1, .long x_fa_2, .long x_fa_3, .long x_fa_4]))] → va_S A s.heap H locs → W p l e ({ frames := 3, cells := 0, slots := 0, locals := 66 }) s m [.ref fa, .int v0, .long v1].toArray below meth c H locs 0 0 Q (F0 m 90 ls []) := by
      intro  H locs ls  hl hP hD hS
      refine lv_iconst (v := 0) hx hb dX1_narrow_90 (by decide) ?_
      exact b91 (0 : Int32) H locs ls (rg_w (rg_l (by decide)) (by decide)) (lv_sub hl [0, 1] rfl) hP hD hS
    refine lv_if_ne (tgt := 90) hx hb dX1_narrow_72 (by decide) (fun c72_1 => ?_) (fun c72_1 => ?_)
    · have t72_2 := (i_ne c72_1)
      have r72_3 : rg r69_1 1 1 := rg_neAl t72_2 hp69_4 (show rg (0 : Int32) 0 0 from (rg_l (by decide))) (by decide)
      exact b90  H locs ls  (lv_sub hl [1, 3] rfl) hP hD hS
    · have t72_4 := (i_nne c72_1)
      have r72_5 : rg r69_1 0 0 := rg_eqA t72_4 hp69_4 (show rg (0 : Int32) 0 0 from (rg_l (by decide))) (by decide)
      refine lv_aload_n hx hb dX1_narrow_75 rfl (lv_at hl 1 rfl) ?_
      refine va_get (D := D) (ci := 1) (v := .long x_fa_2) (C := RX1) (T := TX1) (N := 5) hx hb (htX1 hn) (fun _ h => h) hown hK hP 0 rfl rfl 2 (by decide) (hn.get mw_321 rfl) (fun _ h9 => h9) rfl dX1_narrow_76 ?_
      refine lv_lload_n hx hb dX1_narrow_79 rfl (lv_at hl 3 rfl) ?_
      refine go_i (k1 := 0) (n1 := 0) (wr := [(fa, .inr (1, [.int x_fa_0, .long x_fa_1, .long x_fa_2, .long x_fa_3, .long x_fa_4]))]) [] [0] (rn_SN (As := [.long x_fa_2, .long v1]) (rest := []) (c_X11_below l D ct x_fa_2 v1  _) (cn_of (n := 2) hn mw_1040 mw_1 mw_1095 mhX11_below ⟨(Nat.le_of_ble_eq_true rfl), (Nat.le_of_ble_eq_true rfl)⟩) hx hb hml hown hn hK hZ hS mw_1039 rfl hl.1 (Nat.le_of_ble_eq_true rfl) dX1_narrow_80 ⟨(Nat.le_of_ble_eq_true rfl), (Nat.le_of_ble_eq_true rfl)⟩) hP hD hS hA rfl rfl (by decide) (by decide) (by decide) (Nat.le_of_ble_eq_true rfl) (Nat.le_of_ble_eq_true rfl) (fun r80_1 u80_2 H locs hp80_3 hP hD hS => ?_)
      have hp80_4 := hp80_3
      have hp80_4 : rg r80_1 0 1 := hp80_4
      have hP : va_P D vwCl [(fa, .inr (1, [.int x_fa_0, .long x_fa_1, .long x_fa_2, .long x_fa_3, .long x_fa_4]))] _ := hP
      have hD : va_D A [(fa, .inr (1, [.int x_fa_0, .long x_fa_1, .long x_fa_2, .long x_fa_3, .long x_fa_4]))] := hD
      refine lv_if_ne (tgt := 90) hx hb dX1_narrow_83 (by decide) (fun c83_1 => ?_) (fun c83_1 => ?_)
      · have t83_2 := (i_ne c83_1)
        have r83_3 : rg r80_1 1 1 := rg_neAl t83_2 hp80_4 (show rg (0 : Int32) 0 0 from (rg_l (by decide))) (by decide)
        exact b90  H locs ls  (lv_sub hl [1, 3] rfl) hP hD hS
      · have t83_4 := (i_nne c83_1)
        have r83_5 : rg r80_1 0 0 := rg_eqA t83_4 hp80_4 (show rg (0 : Int32) 0 0 from (rg_l (by decide))) (by decide)
        refine lv_iconst (v := 1) hx hb dX1_narrow_86 (by decide) ?_
        refine lv_goto (tgt := 91) hx hb dX1_narrow_87 (by decide) ?_
        exact b91 (1 : Int32) H locs ls (rg_w (rg_l (by decide)) (by decide)) (lv_sub hl [1, 3] rfl) hP hD hS
  by_cases h87_1 : v0.toInt = 2
  · have r87_2 : rg v0 2 2 := rg_at h87_1
    refine lv_tableIn (off := 112) (tgt := 116) hx hb dX1_narrow_4 (by rw [h87_1]; decide) (by rw [h87_1]; decide) (by rw [h87_1]; rfl) (by decide) ?_
    refine lv_lload_n hx hb dX1_narrow_116 rfl (lv_at hl 3 rfl) ?_
    refine lv_ldc2 (v := (-1)) hx hb hown (hn.get mw_1025 rfl) dX1_narrow_117 ?_
    refine W.lcmp hx hb dX1_narrow_120 ?_
    refine lv_topi (fun z120_1 ez120_1 => ?_)
    have b129 : ∀ (j129_s0 : Int32) (H : Heap) (locs : List Loc) (ls : Array Slot), rg j129_s0 0 1 → lv_has ls 5 [(0, .ref fa), (2, .long v1)] → va_P D vwCl [(fa, .inr (1, [.int x_fa_0, .long x_fa_1, .long x_fa_2, .long x_fa_3, .long x_fa_4]))] H → va_D A [(fa, .inr (1, [.int x_fa_0, .long x_fa_1, .long x_fa_2, .long x_fa_3, .long x_fa_4]))] → va_S A s.heap H locs → W p l e ({ frames := 3, cells := 0, slots := 0, locals := 66 }) s m [.ref fa, .int v0, .long v1].toArray below meth c H locs 0 0 Q (F0 m 129 ls [.int j129_s0]) := by
      intro j129_s0 H locs ls r129_1001 hl hP hD hS
      refine lv_istore (lv' := [(4, .int j129_s0), (0, .ref fa), (2, .long v1)]) hx hb dX1_narrow_129 hl (by decide) rfl (fun ls hl => ?_)
      refine lv_aload_n hx hb dX1_narrow_131 rfl (lv_at hl 1 rfl) ?_
      refine lv_aload_n hx hb dX1_narrow_132 rfl (lv_at hl 1 rfl) ?_
      refine va_get (D := D) (ci := 1) (v := .long x_fa_1) (C := RX1) (T := TX1) (N := 5) hx hb (htX1 hn) (fun _ h => h) hown hK hP 0 rfl rfl 1 (by decide) (hn.get mw_319 rfl) (fun _ h9 => h9) rfl dX1_narrow_133 ?_
      refine lv_lload_n hx hb dX1_narrow_136 rfl (lv_at hl 2 rfl) ?_
      refine lv_lconst (v := 1) hx hb dX1_narrow_137 (by decide) ?_
      refine lv_ladd hx hb dX1_narrow_138 ?_
      refine lv_topl (fun z138_1 ez138_1 => ?_)
      refine go_l (k1 := 0) (n1 := 0) (wr := [(fa, .inr (1, [.int x_fa_0, .long x_fa_1, .long x_fa_2, .long x_fa_3, .long x_fa_4]))]) [] [0] (rn_SN (As := [.long x_fa_1, .long z138_1]) (rest := [.ref fa]) (c_X11_greater l D ct x_fa_1 z138_1  _) (cn_of (n := 2) hn mw_1044 mw_1 mw_1144 mhX11_greater ⟨(Nat.le_of_ble_eq_true rfl), (Nat.le_of_ble_eq_true rfl)⟩) hx hb hml hown hn hK hZ hS mw_1043 rfl hl.1 (Nat.le_of_ble_eq_true rfl) dX1_narrow_139 ⟨(Nat.le_of_ble_eq_true rfl), (Nat.le_of_ble_eq_true rfl)⟩) hP hD hS hA rfl rfl (by decide) (by decide) (by decide) (Nat.le_of_ble_eq_true rfl) (Nat.le_of_ble_eq_true rfl) (fun r139_1 u139_2 H locs hp139_3 hP hD hS => ?_)
      have hP : va_P D vwCl [(fa, .inr (1, [.int x_fa_0, .long x_fa_1, .long x_fa_2, .long x_fa_3, .long x_fa_4]))] _ := hP
      have hD : va_D A [(fa, .inr (1, [.int x_fa_0, .long x_fa_1, .long x_fa_2, .long x_fa_3, .long x_fa_4]))] := hD
      refine va_put (D := D) (ci := 1) (v := .long r139_1) (ty := .long) (C := RX1) (T := TX1) (N := 5) hx hb (htX1 hn) (fun _ h => h) tyX1 tyX1_ok nmX1 hown hK hP hD hS 0 rfl rfl 1 (by decide) (hn.get mw_319 rfl) (fun _ h9 => h9) rfl (by decide +kernel) rfl rfl (Nat.le_of_ble_eq_true rfl) dX1_narrow_142 (fun H locs hP hD hS => ?_)
      have hP : va_P D vwCl [(fa, .inr (1, [.int x_fa_0, .long r139_1, .long x_fa_2, .long x_fa_3, .long x_fa_4]))] _ := hP
      have hD : va_D A [(fa, .inr (1, [.int x_fa_0, .long r139_1, .long x_fa_2, .long x_fa_3, .long x_fa_4]))] := hD
      refine lv_goto (tgt := 208) hx hb dX1_narrow_145 (by decide) ?_
      exact b208 j129_s0 r139_1 x_fa_2 H locs ls r129_1001 (lv_sub hl [1, 0] rfl) hP hD hS
    refine lv_if_eq (tgt := 128) hx hb dX1_narrow_121 (by decide) (fun c121_1 => ?_) (fun c121_1 => ?_)
    · have t121_2 := (l_eq ez120_1 c121_1)
      have r121_3 : rl v1 (-1) (-1) := rl_eqA t121_2 (rl_any v1) (show rl (-1 : Int64) (-1) (-1) from (rl_l (by decide))) (by decide)
      refine lv_iconst (v := 0) hx hb dX1_narrow_128 (by decide) ?_
      exact b129 (0 : Int32) H locs ls (rg_w (rg_l (by decide)) (by decide)) (lv_sub hl [1, 3] rfl) hP hD hS
    · have t128_1 := (l_neq ez120_1 c121_1)
      refine lv_iconst (v := 1) hx hb dX1_narrow_124 (by decide) ?_
      refine lv_goto (tgt := 129) hx hb dX1_narrow_125 (by decide) ?_
      exact b129 (1 : Int32) H locs ls (rg_w (rg_l (by decide)) (by decide)) (lv_sub hl [1, 3] rfl) hP hD hS
  by_cases h125_1 : v0.toInt = 3
  · have r125_2 : rg v0 3 3 := rg_at h125_1
    refine lv_tableIn (off := 144) (tgt := 148) hx hb dX1_narrow_4 (by rw [h125_1]; decide) (by rw [h125_1]; decide) (by rw [h125_1]; rfl) (by decide) ?_
    refine lv_aload_n hx hb dX1_narrow_148 rfl (lv_at hl 1 rfl) ?_
    refine lv_aload_n hx hb dX1_narrow_149 rfl (lv_at hl 1 rfl) ?_
    refine va_get (D := D) (ci := 1) (v := .long x_fa_1) (C := RX1) (T := TX1) (N := 5) hx hb (htX1 hn) (fun _ h => h) hown hK hP 0 rfl rfl 1 (by decide) (hn.get mw_319 rfl) (fun _ h9 => h9) rfl dX1_narrow_150 ?_
    refine lv_lload_n hx hb dX1_narrow_153 rfl (lv_at hl 3 rfl) ?_
    refine go_l (k1 := 0) (n1 := 0) (wr := [(fa, .inr (1, [.int x_fa_0, .long x_fa_1, .long x_fa_2, .long x_fa_3, .long x_fa_4]))]) [] [0] (rn_SN (As := [.long x_fa_1, .long v1]) (rest := [.ref fa]) (c_X11_greater l D ct x_fa_1 v1  _) (cn_of (n := 2) hn mw_1044 mw_1 mw_1144 mhX11_greater ⟨(Nat.le_of_ble_eq_true rfl), (Nat.le_of_ble_eq_true rfl)⟩) hx hb hml hown hn hK hZ hS mw_1043 rfl hl.1 (Nat.le_of_ble_eq_true rfl) dX1_narrow_154 ⟨(Nat.le_of_ble_eq_true rfl), (Nat.le_of_ble_eq_true rfl)⟩) hP hD hS hA rfl rfl (by decide) (by decide) (by decide) (Nat.le_of_ble_eq_true rfl) (Nat.le_of_ble_eq_true rfl) (fun r154_1 u154_2 H locs hp154_3 hP hD hS => ?_)
    have hP : va_P D vwCl [(fa, .inr (1, [.int x_fa_0, .long x_fa_1, .long x_fa_2, .long x_fa_3, .long x_fa_4]))] _ := hP
    have hD : va_D A [(fa, .inr (1, [.int x_fa_0, .long x_fa_1, .long x_fa_2, .long x_fa_3, .long x_fa_4]))] := hD
    refine va_put (D := D) (ci := 1) (v := .long r154_1) (ty := .long) (C := RX1) (T := TX1) (N := 5) hx hb (htX1 hn) (fun _ h => h) tyX1 tyX1_ok nmX1 hown hK hP hD hS 0 rfl rfl 1 (by decide) (hn.get mw_319 rfl) (fun _ h9 => h9) rfl (by decide +kernel) rfl rfl (Nat.le_of_ble_eq_true rfl) dX1_narrow_157 (fun H locs hP hD hS => ?_)
    have hP : va_P D vwCl [(fa, .inr (1, [.int x_fa_0, .long r154_1, .long x_fa_2, .long x_fa_3, .long x_fa_4]))] _ := hP
    have hD : va_D A [(fa, .inr (1, [.int x_fa_0, .long r154_1, .long x_fa_2, .long x_fa_3, .long x_fa_4]))] := hD
    refine lv_goto (tgt := 208) hx hb dX1_narrow_160 (by decide) ?_
    exact b208 (1 : Int32) r154_1 x_fa_2 H locs ls (rg_w (rg_l (by decide)) (by decide)) (lv_sub hl [1, 0] rfl) hP hD hS
  by_cases h160_1 : v0.toInt = 4
  · have r160_2 : rg v0 4 4 := rg_at h160_1
    refine lv_tableIn (off := 204) (tgt := 208) hx hb dX1_narrow_4 (by rw [h160_1]; decide) (by rw [h160_1]; decide) (by rw [h160_1]; rfl) (by decide) ?_
    exact b208 (1 : Int32) x_fa_1 x_fa_2 H locs ls (rg_w (rg_l (by decide)) (by decide)) (lv_sub hl [1, 0] rfl) hP hD hS
  by_cases h160_3 : v0.toInt = 5
  · have r160_4 : rg v0 5 5 := rg_at h160_3
    refine lv_tableIn (off := 102) (tgt := 106) hx hb dX1_narrow_4 (by rw [h160_3]; decide) (by rw [h160_3]; decide) (by rw [h160_3]; rfl) (by decide) ?_
    refine lv_aload_n hx hb dX1_narrow_106 rfl (lv_at hl 1 rfl) ?_
    refine lv_lload_n hx hb dX1_narrow_107 rfl (lv_at hl 3 rfl) ?_
    refine go_i (k1 := 0) (n1 := 0) (wr := []) [0] [] (rn_V (As := [.long v1]) (rest := []) (c_X1_narrowUnequal l D ct fa v1 x_fa_0 x_fa_1 x_fa_2 x_fa_3 x_fa_4  _) (cb_of (n := 1) hn mw_1178 mw_12 mw_1175 mhX1_narrowUnequal ⟨(Nat.le_of_ble_eq_true rfl), (Nat.le_of_ble_eq_true rfl)⟩) hx hb hml hown hn hK hZ hS mw_1177 mw_s127 (ci := 1) (q0 := 0) rfl rfl rfl rfl hl.1 (Nat.le_of_ble_eq_true rfl) dX1_narrow_108 ⟨(Nat.le_of_ble_eq_true rfl), (Nat.le_of_ble_eq_true rfl)⟩) hP hD hS hA rfl rfl (by decide) (by decide) (by decide) (Nat.le_of_ble_eq_true rfl) (Nat.le_of_ble_eq_true rfl) (fun r108_1 u108_2 H locs hp108_3 hP hD hS => ?_)
    obtain ⟨y_fa_1108_4, y_fa_2108_5⟩ := u108_2
    have hp108_6 := hp108_3
    have hp108_6 : rg r108_1 0 1 := hp108_6
    have hP : va_P D vwCl [(fa, .inr (1, [.int x_fa_0, .long y_fa_1108_4, .long y_fa_2108_5, .long x_fa_3, .long x_fa_4]))] _ := hP
    have hD : va_D A [(fa, .inr (1, [.int x_fa_0, .long y_fa_1108_4, .long y_fa_2108_5, .long x_fa_3, .long x_fa_4]))] := hD
    refine lv_istore (lv' := [(4, .int r108_1), (0, .ref fa), (1, .int v0), (2, .long v1)]) hx hb dX1_narrow_111 hl (by decide) rfl (fun ls hl => ?_)
    refine lv_goto (tgt := 208) hx hb dX1_narrow_113 (by decide) ?_
    exact b208 r108_1 y_fa_1108_4 y_fa_2108_5 H locs ls hp108_6 (lv_sub hl [1, 0] rfl) hP hD hS
  by_cases h113_1 : v0.toInt = 6
  · have r113_2 : rg v0 6 6 := rg_at h113_1
    refine lv_tableIn (off := 204) (tgt := 208) hx hb dX1_narrow_4 (by rw [h113_1]; decide) (by rw [h113_1]; decide) (by rw [h113_1]; rfl) (by decide) ?_
    exact b208 (1 : Int32) x_fa_1 x_fa_2 H locs ls (rg_w (rg_l (by decide)) (by decide)) (lv_sub hl [1, 0] rfl) hP hD hS
  by_cases h113_3 : v0.toInt = 7
  · have r113_4 : rg v0 7 7 := rg_at h113_3
    refine lv_tableIn (off := 204) (tgt := 208) hx hb dX1_narrow_4 (by rw [h113_3]; decide) (by rw [h113_3]; decide) (by rw [h113_3]; rfl) (by decide) ?_
    exact b208 (1 : Int32) x_fa_1 x_fa_2 H locs ls (rg_w (rg_l (by decide)) (by decide)) (lv_sub hl [1, 0] rfl) hP hD hS
  by_cases h113_5 : v0.toInt = 8
  · have r113_6 : rg v0 8 8 := rg_at h113_5
    refine lv_tableIn (off := 204) (tgt := 208) hx hb dX1_narrow_4 (by rw [h113_5]; decide) (by rw [h113_5]; decide) (by rw [h113_5]; rfl) (by decide) ?_
    exact b208 (1 : Int32) x_fa_1 x_fa_2 H locs ls (rg_w (rg_l (by decide)) (by decide)) (lv_sub hl [1, 0] rfl) hP hD hS
  by_cases h113_7 : v0.toInt = 9
  · have r113_8 : rg v0 9 9 := rg_at h113_7
    refine lv_tableIn (off := 204) (tgt := 208) hx hb dX1_narrow_4 (by rw [h113_7]; decide) (by rw [h113_7]; decide) (by rw [h113_7]; rfl) (by decide) ?_
    exact b208 (1 : Int32) x_fa_1 x_fa_2 H locs ls (rg_w (rg_l (by decide)) (by decide)) (lv_sub hl [1, 0] rfl) hP hD hS
  by_cases h113_9 : v0.toInt = 10
  · have r113_10 : rg v0 10 10 := rg_at h113_9
    refine lv_tableIn (off := 159) (tgt := 163) hx hb dX1_narrow_4 (by rw [h113_9]; decide) (by rw [h113_9]; decide) (by rw [h113_9]; rfl) (by decide) ?_
    refine lv_lload_n hx hb dX1_narrow_163 rfl (lv_at hl 3 rfl) ?_
    refine lv_lconst (v := 0) hx hb dX1_narrow_164 (by decide) ?_
    refine W.lcmp hx hb dX1_narrow_165 ?_
    refine lv_topi (fun z165_1 ez165_1 => ?_)
    have b174 : ∀ (j174_s0 : Int32) (H : Heap) (locs : List Loc) (ls : Array Slot), rg j174_s0 0 1 → lv_has ls 5 [(0, .ref fa), (2, .long v1)] → va_P D vwCl [(fa, .inr (1, [.int x_fa_0, .long x_fa_1, .long x_fa_2, .long x_fa_3, .long x_fa_4]))] H → va_D A [(fa, .inr (1, [.int x_fa_0, .long x_fa_1, .long x_fa_2, .long x_fa_3, .long x_fa_4]))] → va_S A s.heap H locs → W p l e ({ frames := 3, cells := 0, slots := 0, locals := 66 }) s m [.ref fa, .int v0, .long v1].toArray below meth c H locs 0 0 Q (F0 m 174 ls [.int j174_s0]) := by
      intro j174_s0 H locs ls r174_1001 hl hP hD hS
      refine lv_istore (lv' := [(4, .int j174_s0), (0, .ref fa), (2, .long v1)]) hx hb dX1_narrow_174 hl (by decide) rfl (fun ls hl => ?_)
      refine lv_aload_n hx hb dX1_narrow_176 rfl (lv_at hl 1 rfl) ?_
      refine lv_aload_n hx hb dX1_narrow_177 rfl (lv_at hl 1 rfl) ?_
      refine va_get (D := D) (ci := 1) (v := .long x_fa_2) (C := RX1) (T := TX1) (N := 5) hx hb (htX1 hn) (fun _ h => h) hown hK hP 0 rfl rfl 2 (by decide) (hn.get mw_321 rfl) (fun _ h9 => h9) rfl dX1_narrow_178 ?_
      refine lv_lload_n hx hb dX1_narrow_181 rfl (lv_at hl 2 rfl) ?_
      refine lv_lconst (v := 1) hx hb dX1_narrow_182 (by decide) ?_
      refine lv_lsub hx hb dX1_narrow_183 ?_
      refine lv_topl (fun z183_1 ez183_1 => ?_)
      refine go_l (k1 := 0) (n1 := 0) (wr := [(fa, .inr (1, [.int x_fa_0, .long x_fa_1, .long x_fa_2, .long x_fa_3, .long x_fa_4]))]) [] [0] (rn_SN (As := [.long x_fa_2, .long z183_1]) (rest := [.ref fa]) (c_X11_lesser l D ct x_fa_2 z183_1  _) (cn_of (n := 2) hn mw_1037 mw_1 mw_1143 mhX11_lesser ⟨(Nat.le_of_ble_eq_true rfl), (Nat.le_of_ble_eq_true rfl)⟩) hx hb hml hown hn hK hZ hS mw_1036 rfl hl.1 (Nat.le_of_ble_eq_true rfl) dX1_narrow_184 ⟨(Nat.le_of_ble_eq_true rfl), (Nat.le_of_ble_eq_true rfl)⟩) hP hD hS hA rfl rfl (by decide) (by decide) (by decide) (Nat.le_of_ble_eq_true rfl) (Nat.le_of_ble_eq_true rfl) (fun r184_1 u184_2 H locs hp184_3 hP hD hS => ?_)
      have hP : va_P D vwCl [(fa, .inr (1, [.int x_fa_0, .long x_fa_1, .long x_fa_2, .long x_fa_3, .long x_fa_4]))] _ := hP
      have hD : va_D A [(fa, .inr (1, [.int x_fa_0, .long x_fa_1, .long x_fa_2, .long x_fa_3, .long x_fa_4]))] := hD
      refine va_put (D := D) (ci := 1) (v := .long r184_1) (ty := .long) (C := RX1) (T := TX1) (N := 5) hx hb (htX1 hn) (fun _ h => h) tyX1 tyX1_ok nmX1 hown hK hP hD hS 0 rfl rfl 2 (by decide) (hn.get mw_321 rfl) (fun _ h9 => h9) rfl (by decide +kernel) rfl rfl (Nat.le_of_ble_eq_true rfl) dX1_narrow_187 (fun H locs hP hD hS => ?_)
      have hP : va_P D vwCl [(fa, .inr (1, [.int x_fa_0, .long x_fa_1, .long r184_1, .long x_fa_3, .long x_fa_4]))] _ := hP
      have hD : va_D A [(fa, .inr (1, [.int x_fa_0, .long x_fa_1, .long r184_1, .long x_fa_3, .long x_fa_4]))] := hD
      refine lv_goto (tgt := 208) hx hb dX1_narrow_190 (by decide) ?_
      exact b208 j174_s0 x_fa_1 r184_1 H locs ls r174_1001 (lv_sub hl [1, 0] rfl) hP hD hS
    refine lv_if_eq (tgt := 173) hx hb dX1_narrow_166 (by decide) (fun c166_1 => ?_) (fun c166_1 => ?_)
    · have t166_2 := (l_eq ez165_1 c166_1)
      have r166_3 : rl v1 0 0 := rl_eqA t166_2 (rl_any v1) (show rl (0 : Int64) 0 0 from (rl_l (by decide))) (by decide)
      refine lv_iconst (v := 0) hx hb dX1_narrow_173 (by decide) ?_
      exact b174 (0 : Int32) H locs ls (rg_w (rg_l (by decide)) (by decide)) (lv_sub hl [1, 3] rfl) hP hD hS
    · have t173_1 := (l_neq ez165_1 c166_1)
      refine lv_iconst (v := 1) hx hb dX1_narrow_169 (by decide) ?_
      refine lv_goto (tgt := 174) hx hb dX1_narrow_170 (by decide) ?_
      exact b174 (1 : Int32) H locs ls (rg_w (rg_l (by decide)) (by decide)) (lv_sub hl [1, 3] rfl) hP hD hS
  by_cases h170_1 : v0.toInt = 11
  · have r170_2 : rg v0 11 11 := rg_at h170_1
    refine lv_tableIn (off := 189) (tgt := 193) hx hb dX1_narrow_4 (by rw [h170_1]; decide) (by rw [h170_1]; decide) (by rw [h170_1]; rfl) (by decide) ?_
    refine lv_aload_n hx hb dX1_narrow_193 rfl (lv_at hl 1 rfl) ?_
    refine lv_aload_n hx hb dX1_narrow_194 rfl (lv_at hl 1 rfl) ?_
    refine va_get (D := D) (ci := 1) (v := .long x_fa_2) (C := RX1) (T := TX1) (N := 5) hx hb (htX1 hn) (fun _ h => h) hown hK hP 0 rfl rfl 2 (by decide) (hn.get mw_321 rfl) (fun _ h9 => h9) rfl dX1_narrow_195 ?_
    refine lv_lload_n hx hb dX1_narrow_198 rfl (lv_at hl 3 rfl) ?_
    refine go_l (k1 := 0) (n1 := 0) (wr := [(fa, .inr (1, [.int x_fa_0, .long x_fa_1, .long x_fa_2, .long x_fa_3, .long x_fa_4]))]) [] [0] (rn_SN (As := [.long x_fa_2, .long v1]) (rest := [.ref fa]) (c_X11_lesser l D ct x_fa_2 v1  _) (cn_of (n := 2) hn mw_1037 mw_1 mw_1143 mhX11_lesser ⟨(Nat.le_of_ble_eq_true rfl), (Nat.le_of_ble_eq_true rfl)⟩) hx hb hml hown hn hK hZ hS mw_1036 rfl hl.1 (Nat.le_of_ble_eq_true rfl) dX1_narrow_199 ⟨(Nat.le_of_ble_eq_true rfl), (Nat.le_of_ble_eq_true rfl)⟩) hP hD hS hA rfl rfl (by decide) (by decide) (by decide) (Nat.le_of_ble_eq_true rfl) (Nat.le_of_ble_eq_true rfl) (fun r199_1 u199_2 H locs hp199_3 hP hD hS => ?_)
    have hP : va_P D vwCl [(fa, .inr (1, [.int x_fa_0, .long x_fa_1, .long x_fa_2, .long x_fa_3, .long x_fa_4]))] _ := hP
    have hD : va_D A [(fa, .inr (1, [.int x_fa_0, .long x_fa_1, .long x_fa_2, .long x_fa_3, .long x_fa_4]))] := hD
    refine va_put (D := D) (ci := 1) (v := .long r199_1) (ty := .long) (C := RX1) (T := TX1) (N := 5) hx hb (htX1 hn) (fun _ h => h) tyX1 tyX1_ok nmX1 hown hK hP hD hS 0 rfl rfl 2 (by decide) (hn.get mw_321 rfl) (fun _ h9 => h9) rfl (by decide +kernel) rfl rfl (Nat.le_of_ble_eq_true rfl) dX1_narrow_202 (fun H locs hP hD hS => ?_)
    have hP : va_P D vwCl [(fa, .inr (1, [.int x_fa_0, .long x_fa_1, .long r199_1, .long x_fa_3, .long x_fa_4]))] _ := hP
    have hD : va_D A [(fa, .inr (1, [.int x_fa_0, .long x_fa_1, .long r199_1, .long x_fa_3, .long x_fa_4]))] := hD
    refine lv_goto (tgt := 208) hx hb dX1_narrow_205 (by decide) ?_
    exact b208 (1 : Int32) x_fa_1 r199_1 H locs ls (rg_w (rg_l (by decide)) (by decide)) (lv_sub hl [1, 0] rfl) hP hD hS
  refine lv_tableOut (tgt := 208) hx hb dX1_narrow_4 (by have q0 := (rg_any v0); have q1 := q0.1; have q2 := q0.2; omega) (by decide) ?_
  exact b208 (1 : Int32) x_fa_1 x_fa_2 H locs ls (rg_w (rg_l (by decide)) (by decide)) (lv_sub hl [1, 0] rfl) hP hD hS
set_option maxHeartbeats 2000000 in
theorem c_X1_setRange (l : Launch) (D : va_G) (ct : Nat → ClassId) (fa : Nat) (v0 : Int64) (v1 : Int64) (x_fa_0 : Int32) (x_fa_1 : Int64) (x_fa_2 : Int64) (x_fa_3 : Int64) (x_fa_4 : Int64)  : KV (S := Int64 × Int64) l yX1_setRange cX1_setRange 5 none 1 20 D ct [.ref fa, .long v0, .long v1] [(fa, .inr (1, [.int x_fa_0, .long x_fa_1, .long x_fa_2, .long x_fa_3, .long x_fa_4]))] 0 0 (fun (u : Int64 × Int64) => match u with | (y_fa_1, y_fa_2) => True) (fun (u : Int64 × Int64) => match u with | (y_fa_1, y_fa_2) => [(fa, .inr (1, [.int 1, .long y_fa_1, .long y_fa_2, .long 0, .long 0]))]) := by
  refine KVq_of (by decide) (Nat.le_of_ble_eq_true rfl) (fun p e s m below meth c A Q C0 hA hS hP hD hQ ls hl => ?_)
  obtain ⟨hx, hb, hr, hown, hin, hml, hlocks, hn, hK, hZ⟩ := C0
  have hl : lv_has ls 5 [(0, .ref fa), (1, .long v0), (3, .long v1)] := hl
  refine lv_aload_n hx hb dX1_setRange_0 rfl (lv_at hl 0 rfl) ?_
  refine lv_iconst (v := 1) hx hb dX1_setRange_1 (by decide) ?_
  refine va_put (D := D) (ci := 1) (v := .int 1) (ty := .int) (C := RX1) (T := TX1) (N := 5) hx hb (htX1 hn) (fun _ h => h) tyX1 tyX1_ok nmX1 hown hK hP hD hS 0 rfl rfl 0 (by decide) (hn.get mw_317 rfl) (fun _ h9 => h9) rfl (by decide +kernel) rfl rfl (Nat.le_of_ble_eq_true rfl) dX1_setRange_2 (fun H locs hP hD hS => ?_)
  have hP : va_P D vwCl [(fa, .inr (1, [.int 1, .long x_fa_1, .long x_fa_2, .long x_fa_3, .long x_fa_4]))] _ := hP
  have hD : va_D A [(fa, .inr (1, [.int 1, .long x_fa_1, .long x_fa_2, .long x_fa_3, .long x_fa_4]))] := hD
  refine lv_aload_n hx hb dX1_setRange_5 rfl (lv_at hl 0 rfl) ?_
  refine lv_lload_n hx hb dX1_setRange_6 rfl (lv_at hl 1 rfl) ?_
  refine va_put (D := D) (ci := 1) (v := .long v0) (ty := .long) (C := RX1) (T := TX1) (N := 5) hx hb (htX1 hn) (fun _ h => h) tyX1 tyX1_ok nmX1 hown hK hP hD hS 0 rfl rfl 1 (by decide) (hn.get mw_319 rfl) (fun _ h9 => h9) rfl (by decide +kernel) rfl rfl (Nat.le_of_ble_eq_true rfl) dX1_setRange_7 (fun H locs hP hD hS => ?_)
  have hP : va_P D vwCl [(fa, .inr (1, [.int 1, .long v0, .long x_fa_2, .long x_fa_3, .long x_fa_4]))] _ := hP
  have hD : va_D A [(fa, .inr (1, [.int 1, .long v0, .long x_fa_2, .long x_fa_3, .long x_fa_4]))] := hD
  refine lv_aload_n hx hb dX1_setRange_10 rfl (lv_at hl 0 rfl) ?_
  refine lv_lload_n hx hb dX1_setRange_11 rfl (lv_at hl 2 rfl) ?_
  refine va_put (D := D) (ci := 1) (v := .long v1) (ty := .long) (C := RX1) (T := TX1) (N := 5) hx hb (htX1 hn) (fun _ h => h) tyX1 tyX1_ok nmX1 hown hK hP hD hS 0 rfl rfl 2 (by decide) (hn.get mw_321 rfl) (fun _ h9 => h9) rfl (by decide +kernel) rfl rfl (Nat.le_of_ble_eq_true rfl) dX1_setRange_12 (fun H locs hP hD hS => ?_)
  have hP : va_P D vwCl [(fa, .inr (1, [.int 1, .long v0, .long v1, .long x_fa_3, .long x_fa_4]))] _ := hP
  have hD : va_D A [(fa, .inr (1, [.int 1, .long v0, .long v1, .long x_fa_3, .long x_fa_4]))] := hD
  refine lv_aload_n hx hb dX1_setRange_15 rfl (lv_at hl 0 rfl) ?_
  refine lv_lconst (v := 0) hx hb dX1_setRange_16 (by decide) ?_
  refine va_put (D := D) (ci := 1) (v := .long 0) (ty := .long) (C := RX1) (T := TX1) (N := 5) hx hb (htX1 hn) (fun _ h => h) tyX1 tyX1_ok nmX1 hown hK hP hD hS 0 rfl rfl 3 (by decide) (hn.get mw_323 rfl) (fun _ h9 => h9) rfl (by decide +kernel) rfl rfl (Nat.le_of_ble_eq_true rfl) dX1_setRange_17 (fun H locs hP hD hS => ?_)
  have hP : va_P D vwCl [(fa, .inr (1, [.int 1, .long v0, .long v1, .long 0, .long x_fa_4]))] _ := hP
  have hD : va_D A [(fa, .inr (1, [.int 1, .long v0, .long v1, .long 0, .long x_fa_4]))] := hD
  refine lv_aload_n hx hb dX1_setRange_20 rfl (lv_at hl 0 rfl) ?_
  refine lv_lconst (v := 0) hx hb dX1_setRange_21 (by decide) ?_
  refine va_put (D := D) (ci := 1) (v := .long 0) (ty := .long) (C := RX1) (T := TX1) (N := 5) hx hb (htX1 hn) (fun _ h => h) tyX1 tyX1_ok nmX1 hown hK hP hD hS 0 rfl rfl 4 (by decide) (hn.get mw_325 rfl) (fun _ h9 => h9) rfl (by decide +kernel) rfl rfl (Nat.le_of_ble_eq_true rfl) dX1_setRange_22 (fun H locs hP hD hS => ?_)
  have hP : va_P D vwCl [(fa, .inr (1, [.int 1, .long v0, .long v1, .long 0, .long 0]))] _ := hP
  have hD : va_D A [(fa, .inr (1, [.int 1, .long v0, .long v1, .long 0, .long 0]))] := hD
  exact endq_v hQ hx hb hr hlocks dX1_setRange_25 (v0, v1) trivial hP hD hS [0] rfl (by decide) rfl (Nat.le_of_ble_eq_true rfl) (Nat.le_of_ble_eq_true rfl)
set_option maxHeartbeats 2000000 in
theorem c_X1_setBytes (l : Launch) (D : va_G) (ct : Nat → ClassId) (fa : Nat) (v0 : Int32) (x_fa_0 : Int32) (x_fa_1 : Int64) (x_fa_2 : Int64) (x_fa_3 : Int64) (x_fa_4 : Int64)  : KV (S := Int64 × Int64 × Int64) l yX1_setBytes cX1_setBytes 2 none 2 44 D ct [.ref fa, .int v0] [(fa, .inr (1, [.int x_fa_0, .long x_fa_1, .long x_fa_2, .long x_fa_3, .long x_fa_4]))] 0 0 (fun (u : Int64 × Int64 × Int64) => match u with | (y_fa_1, y_fa_2, y_fa_3) => True) (fun (u : Int64 × Int64 × Int64) => match u with | (y_fa_1, y_fa_2, y_fa_3) => [(fa, .inr (1, [.int 1, .long y_fa_1, .long y_fa_2, .long y_fa_3, .long 0]))]) := by
  refine KVq_of (by decide) (Nat.le_of_ble_eq_true rfl) (fun p e s m below meth c A Q C0 hA hS hP hD hQ ls hl => ?_)
  obtain ⟨hx, hb, hr, hown, hin, hml, hlocks, hn, hK, hZ⟩ := C0
  have hl : lv_has ls 2 [(0, .ref fa), (1, .int v0)] := hl
  refine lv_iload_n hx hb dX1_setBytes_0 rfl (lv_at hl 1 rfl) ?_
  refine lv_bipush (v := 8) hx hb dX1_setBytes_1 (by decide) ?_
  refine lv_icmp_lt (tgt := 15) hx hb dX1_setBytes_3 (by decide) (fun c3_1 => ?_) (fun c3_1 => ?_)
  · have t3_2 := (i_lt c3_1)
    have r3_3 : rg v0 (-2147483648) 7 := rg_ltA t3_2 (rg_any v0) (show rg (8 : Int32) 8 8 from (rg_l (by decide))) (by decide)
    refine lv_aload_n hx hb dX1_setBytes_15 rfl (lv_at hl 0 rfl) ?_
    refine lv_lconst (v := 0) hx hb dX1_setBytes_16 (by decide) ?_
    refine lv_lconst (v := 1) hx hb dX1_setBytes_17 (by decide) ?_
    refine lv_bipush (v := 8) hx hb dX1_setBytes_18 (by decide) ?_
    refine lv_iload_n hx hb dX1_setBytes_20 rfl (lv_at hl 1 rfl) ?_
    refine lv_imul hx hb dX1_setBytes_21 ?_
    refine lv_topi (fun z21_1 ez21_1 => ?_)
    refine lv_lshl hx hb dX1_setBytes_22 rfl ?_
    refine lv_topl (fun z22_1 ez22_1 => ?_)
    refine lv_lconst (v := 1) hx hb dX1_setBytes_23 (by decide) ?_
    refine lv_lsub hx hb dX1_setBytes_24 ?_
    refine lv_topl (fun z24_1 ez24_1 => ?_)
    refine go_v (k1 := 0) (n1 := 0) (wr := []) [0] [] (rn_V (As := [.long 0, .long z24_1]) (rest := []) (c_X1_setRange l D ct fa (0 : Int64) z24_1 x_fa_0 x_fa_1 x_fa_2 x_fa_3 x_fa_4  _) (cb_of (n := 2) hn mw_1019 mw_12 mw_1024 mhX1_setRange ⟨(Nat.le_of_ble_eq_true rfl), (Nat.le_of_ble_eq_true rfl)⟩) hx hb hml hown hn hK hZ hS mw_1018 mw_s99 (ci := 1) (q0 := 0) rfl rfl rfl rfl hl.1 (Nat.le_of_ble_eq_true rfl) dX1_setBytes_25 ⟨(Nat.le_of_ble_eq_true rfl), (Nat.le_of_ble_eq_true rfl)⟩) hP hD hS hA rfl rfl (by decide) (by decide) (by decide) (Nat.le_of_ble_eq_true rfl) (Nat.le_of_ble_eq_true rfl) (fun u25_2 H locs hp25_3 hP hD hS => ?_)
    obtain ⟨y_fa_125_4, y_fa_225_5⟩ := u25_2
    have hP : va_P D vwCl [(fa, .inr (1, [.int 1, .long y_fa_125_4, .long y_fa_225_5, .long 0, .long 0]))] _ := hP
    have hD : va_D A [(fa, .inr (1, [.int 1, .long y_fa_125_4, .long y_fa_225_5, .long 0, .long 0]))] := hD
    refine lv_aload_n hx hb dX1_setBytes_28 rfl (lv_at hl 0 rfl) ?_
    refine lv_ldc2 (v := (-1)) hx hb hown (hn.get mw_1025 rfl) dX1_setBytes_29 ?_
    refine lv_bipush (v := 8) hx hb dX1_setBytes_32 (by decide) ?_
    refine lv_iload_n hx hb dX1_setBytes_34 rfl (lv_at hl 1 rfl) ?_
    refine lv_imul hx hb dX1_setBytes_35 ?_
    refine lv_topi (fun z35_1 ez35_1 => ?_)
    refine lv_lshl hx hb dX1_setBytes_36 rfl ?_
    refine lv_topl (fun z36_1 ez36_1 => ?_)
    refine va_put (D := D) (ci := 1) (v := .long z36_1) (ty := .long) (C := RX1) (T := TX1) (N := 5) hx hb (htX1 hn) (fun _ h => h) tyX1 tyX1_ok nmX1 hown hK hP hD hS 0 rfl rfl 3 (by decide) (hn.get mw_323 rfl) (fun _ h9 => h9) rfl (by decide +kernel) rfl rfl (Nat.le_of_ble_eq_true rfl) dX1_setBytes_37 (fun H locs hP hD hS => ?_)
    have hP : va_P D vwCl [(fa, .inr (1, [.int 1, .long y_fa_125_4, .long y_fa_225_5, .long z36_1, .long 0]))] _ := hP
    have hD : va_D A [(fa, .inr (1, [.int 1, .long y_fa_125_4, .long y_fa_225_5, .long z36_1, .long 0]))] := hD
    exact endq_v hQ hx hb hr hlocks dX1_setBytes_40 (y_fa_125_4, y_fa_225_5, z36_1) trivial hP hD hS [0] rfl (by decide) rfl (Nat.le_of_ble_eq_true rfl) (Nat.le_of_ble_eq_true rfl)
  · have t40_1 := (i_nlt c3_1)
    have r40_2 : rg v0 8 2147483647 := rg_leB t40_1 (show rg (8 : Int32) 8 8 from (rg_l (by decide))) (rg_any v0) (by decide)
    refine lv_aload_n hx hb dX1_setBytes_6 rfl (lv_at hl 0 rfl) ?_
    refine lv_lconst (v := 0) hx hb dX1_setBytes_7 (by decide) ?_
    refine lv_ldc2 (v := (-1)) hx hb hown (hn.get mw_1025 rfl) dX1_setBytes_8 ?_
    refine go_v (k1 := 0) (n1 := 0) (wr := []) [0] [] (rn_V (As := [.long 0, .long (-1)]) (rest := []) (c_X1_setRange l D ct fa (0 : Int64) ((-1) : Int64) x_fa_0 x_fa_1 x_fa_2 x_fa_3 x_fa_4  _) (cb_of (n := 2) hn mw_1019 mw_12 mw_1024 mhX1_setRange ⟨(Nat.le_of_ble_eq_true rfl), (Nat.le_of_ble_eq_true rfl)⟩) hx hb hml hown hn hK hZ hS mw_1018 mw_s99 (ci := 1) (q0 := 0) rfl rfl rfl rfl hl.1 (Nat.le_of_ble_eq_true rfl) dX1_setBytes_11 ⟨(Nat.le_of_ble_eq_true rfl), (Nat.le_of_ble_eq_true rfl)⟩) hP hD hS hA rfl rfl (by decide) (by decide) (by decide) (Nat.le_of_ble_eq_true rfl) (Nat.le_of_ble_eq_true rfl) (fun u11_2 H locs hp11_3 hP hD hS => ?_)
    obtain ⟨y_fa_111_4, y_fa_211_5⟩ := u11_2
    have hP : va_P D vwCl [(fa, .inr (1, [.int 1, .long y_fa_111_4, .long y_fa_211_5, .long 0, .long 0]))] _ := hP
    have hD : va_D A [(fa, .inr (1, [.int 1, .long y_fa_111_4, .long y_fa_211_5, .long 0, .long 0]))] := hD
    exact endq_v hQ hx hb hr hlocks dX1_setBytes_14 (y_fa_111_4, y_fa_211_5, (0 : Int64)) trivial hP hD hS [0] rfl (by decide) rfl (Nat.le_of_ble_eq_true rfl) (Nat.le_of_ble_eq_true rfl)
set_option maxHeartbeats 2000000 in
theorem c_X1_setExact (l : Launch) (D : va_G) (ct : Nat → ClassId) (fa : Nat) (v0 : Int64) (x_fa_0 : Int32) (x_fa_1 : Int64) (x_fa_2 : Int64) (x_fa_3 : Int64) (x_fa_4 : Int64)  : KV (S := Int64 × Int64 × Int64) l yX1_setExact cX1_setExact 3 none 2 44 D ct [.ref fa, .long v0] [(fa, .inr (1, [.int x_fa_0, .long x_fa_1, .long x_fa_2, .long x_fa_3, .long x_fa_4]))] 0 0 (fun (u : Int64 × Int64 × Int64) => match u with | (y_fa_1, y_fa_2, y_fa_4) => True) (fun (u : Int64 × Int64 × Int64) => match u with | (y_fa_1, y_fa_2, y_fa_4) => [(fa, .inr (1, [.int 1, .long y_fa_1, .long y_fa_2, .long (-1), .long y_fa_4]))]) := by
  refine KVq_of (by decide) (Nat.le_of_ble_eq_true rfl) (fun p e s m below meth c A Q C0 hA hS hP hD hQ ls hl => ?_)
  obtain ⟨hx, hb, hr, hown, hin, hml, hlocks, hn, hK, hZ⟩ := C0
  have hl : lv_has ls 3 [(0, .ref fa), (1, .long v0)] := hl
  refine lv_aload_n hx hb dX1_setExact_0 rfl (lv_at hl 0 rfl) ?_
  refine lv_lload_n hx hb dX1_setExact_1 rfl (lv_at hl 1 rfl) ?_
  refine lv_lload_n hx hb dX1_setExact_2 rfl (lv_at hl 1 rfl) ?_
  refine go_v (k1 := 0) (n1 := 0) (wr := []) [0] [] (rn_V (As := [.long v0, .long v0]) (rest := []) (c_X1_setRange l D ct fa v0 v0 x_fa_0 x_fa_1 x_fa_2 x_fa_3 x_fa_4  _) (cb_of (n := 2) hn mw_1019 mw_12 mw_1024 mhX1_setRange ⟨(Nat.le_of_ble_eq_true rfl), (Nat.le_of_ble_eq_true rfl)⟩) hx hb hml hown hn hK hZ hS mw_1018 mw_s99 (ci := 1) (q0 := 0) rfl rfl rfl rfl hl.1 (Nat.le_of_ble_eq_true rfl) dX1_setExact_3 ⟨(Nat.le_of_ble_eq_true rfl), (Nat.le_of_ble_eq_true rfl)⟩) hP hD hS hA rfl rfl (by decide) (by decide) (by decide) (Nat.le_of_ble_eq_true rfl) (Nat.le_of_ble_eq_true rfl) (fun u3_2 H locs hp3_3 hP hD hS => ?_)
  obtain ⟨y_fa_13_4, y_fa_23_5⟩ := u3_2
  have hP : va_P D vwCl [(fa, .inr (1, [.int 1, .long y_fa_13_4, .long y_fa_23_5, .long 0, .long 0]))] _ := hP
  have hD : va_D A [(fa, .inr (1, [.int 1, .long y_fa_13_4, .long y_fa_23_5, .long 0, .long 0]))] := hD
  refine lv_aload_n hx hb dX1_setExact_6 rfl (lv_at hl 0 rfl) ?_
  refine lv_ldc2 (v := (-1)) hx hb hown (hn.get mw_1025 rfl) dX1_setExact_7 ?_
  refine va_put (D := D) (ci := 1) (v := .long (-1)) (ty := .long) (C := RX1) (T := TX1) (N := 5) hx hb (htX1 hn) (fun _ h => h) tyX1 tyX1_ok nmX1 hown hK hP hD hS 0 rfl rfl 3 (by decide) (hn.get mw_323 rfl) (fun _ h9 => h9) rfl (by decide +kernel) rfl rfl (Nat.le_of_ble_eq_true rfl) dX1_setExact_10 (fun H locs hP hD hS => ?_)
  have hP : va_P D vwCl [(fa, .inr (1, [.int 1, .long y_fa_13_4, .long y_fa_23_5, .long (-1), .long 0]))] _ := hP
  have hD : va_D A [(fa, .inr (1, [.int 1, .long y_fa_13_4, .long y_fa_23_5, .long (-1), .long 0]))] := hD
  refine lv_aload_n hx hb dX1_setExact_13 rfl (lv_at hl 0 rfl) ?_
  refine lv_lload_n hx hb dX1_setExact_14 rfl (lv_at hl 1 rfl) ?_
  refine va_put (D := D) (ci := 1) (v := .long v0) (ty := .long) (C := RX1) (T := TX1) (N := 5) hx hb (htX1 hn) (fun _ h => h) tyX1 tyX1_ok nmX1 hown hK hP hD hS 0 rfl rfl 4 (by decide) (hn.get mw_325 rfl) (fun _ h9 => h9) rfl (by decide +kernel) rfl rfl (Nat.le_of_ble_eq_true rfl) dX1_setExact_15 (fun H locs hP hD hS => ?_)
  have hP : va_P D vwCl [(fa, .inr (1, [.int 1, .long y_fa_13_4, .long y_fa_23_5, .long (-1), .long v0]))] _ := hP
  have hD : va_D A [(fa, .inr (1, [.int 1, .long y_fa_13_4, .long y_fa_23_5, .long (-1), .long v0]))] := hD
  exact endq_v hQ hx hb hr hlocks dX1_setExact_18 (y_fa_13_4, y_fa_23_5, v0) trivial hP hD hS [0] rfl (by decide) rfl (Nat.le_of_ble_eq_true rfl) (Nat.le_of_ble_eq_true rfl)
set_option maxHeartbeats 2000000 in
theorem c_X1_shiftBits (l : Launch) (D : va_G) (ct : Nat → ClassId) (fa : Nat) (v0 : Int32) (v1 : Int32) (fb : Nat) (x_fa_0 : Int32) (x_fa_1 : Int64) (x_fa_2 : Int64) (x_fa_3 : Int64) (x_fa_4 : Int64) (x_fb_0 : Int32) (x_fb_1 : Int64) (x_fb_2 : Int64) (x_fb_3 : Int64) (x_fb_4 : Int64) (h_v1 : rg v1 0 1) : KV (S := Int64 × Int64) l yX1_shiftBits cX1_shiftBits 7 none 2 41 D ct [.ref fa, .int v0, .int v1, .ref fb] [(fa, .inr (1, [.int x_fa_0, .long x_fa_1, .long x_fa_2, .long x_fa_3, .long x_fa_4])), (fb, .inr (1, [.int x_fb_0, .long x_fb_1, .long x_fb_2, .long x_fb_3, .long x_fb_4]))] 0 0 (fun (u : Int64 × Int64) => match u with | (y_fa_3, y_fa_4) => True) (fun (u : Int64 × Int64) => match u with | (y_fa_3, y_fa_4) => [(fa, .inr (1, [.int x_fa_0, .long x_fa_1, .long x_fa_2, .long y_fa_3, .long y_fa_4])), (fb, .inr (1, [.int x_fb_0, .long x_fb_1, .long x_fb_2, .long x_fb_3, .long x_fb_4]))]) := by
  refine KVq_of (by decide) (Nat.le_of_ble_eq_true rfl) (fun p e s m below meth c A Q C0 hA hS hP hD hQ ls hl => ?_)
  obtain ⟨hx, hb, hr, hown, hin, hml, hlocks, hn, hK, hZ⟩ := C0
  have hl : lv_has ls 7 [(0, .ref fa), (1, .int v0), (2, .int v1), (3, .ref fb)] := hl
  refine lv_iload_n hx hb dX1_shiftBits_0 rfl (lv_at hl 1 rfl) ?_
  refine lv_bipush (v := 6) hx hb dX1_shiftBits_1 (by decide) ?_
  have b11 : ∀ (j11_s0 : Int32) (H : Heap) (locs : List Loc) (ls : Array Slot), rg j11_s0 0 1 → lv_has ls 7 [(0, .ref fa), (1, .int v0), (2, .int v1), (3, .ref fb)] → va_P D vwCl [(fa, .inr (1, [.int x_fa_0, .long x_fa_1, .long x_fa_2, .long x_fa_3, .long x_fa_4])), (fb, .inr (1, [.int x_fb_0, .long x_fb_1, .long x_fb_2, .long x_fb_3, .long x_fb_4]))] H → va_D A [(fa, .inr (1, [.int x_fa_0, .long x_fa_1, .long x_fa_2, .long x_fa_3, .long x_fa_4])), (fb, .inr (1, [.int x_fb_0, .long x_fb_1, .long x_fb_2, .long x_fb_3, .long x_fb_4]))] → va_S A s.heap H locs → W p l e ({ frames := 2, cells := 0, slots := 0, locals := 41 }) s m [.ref fa, .int v0, .int v1, .ref fb].toArray below meth c H locs 0 0 Q (F0 m 11 ls [.int j11_s0]) := by
    intro j11_s0 H locs ls r11_1001 hl hP hD hS
    refine lv_istore (lv' := [(4, .int j11_s0), (0, .ref fa), (1, .int v0), (2, .int v1), (3, .ref fb)]) hx hb dX1_shiftBits_11 hl (by decide) rfl (fun ls hl => ?_)
    refine lv_iload_n hx hb dX1_shiftBits_13 rfl (lv_at hl 2 rfl) ?_
    refine lv_bipush (v := 7) hx hb dX1_shiftBits_14 (by decide) ?_
    have b38 : ∀ (j38_s0 : Int32) (H : Heap) (locs : List Loc) (ls : Array Slot), rg j38_s0 0 1 → lv_has ls 7 [(0, .ref fa), (2, .int v1), (3, .ref fb), (4, .int j11_s0)] → va_P D vwCl [(fa, .inr (1, [.int x_fa_0, .long x_fa_1, .long x_fa_2, .long x_fa_3, .long x_fa_4])), (fb, .inr (1, [.int x_fb_0, .long x_fb_1, .long x_fb_2, .long x_fb_3, .long x_fb_4]))] H → va_D A [(fa, .inr (1, [.int x_fa_0, .long x_fa_1, .long x_fa_2, .long x_fa_3, .long x_fa_4])), (fb, .inr (1, [.int x_fb_0, .long x_fb_1, .long x_fb_2, .long x_fb_3, .long x_fb_4]))] → va_S A s.heap H locs → W p l e ({ frames := 2, cells := 0, slots := 0, locals := 41 }) s m [.ref fa, .int v0, .int v1, .ref fb].toArray below meth c H locs 0 0 Q (F0 m 38 ls [.int j38_s0]) := by
      intro j38_s0 H locs ls r38_1001 hl hP hD hS
      refine lv_istore (lv' := [(5, .int j38_s0), (0, .ref fa), (2, .int v1), (3, .ref fb), (4, .int j11_s0)]) hx hb dX1_shiftBits_38 hl (by decide) rfl (fun ls hl => ?_)
      refine lv_iload hx hb dX1_shiftBits_40 (lv_at hl 4 rfl) ?_
      have b57 : ∀  (H : Heap) (locs : List Loc) (ls : Array Slot), lv_has ls 7 [(0, .ref fa)] → va_P D vwCl [(fa, .inr (1, [.int x_fa_0, .long x_fa_1, .long x_fa_2, .long x_fa_3, .long x_fa_4])), (fb, .inr (1, [.int x_fb_0, .long x_fb_1, .long x_fb_2, .long x_fb_3, .long x_fb_4]))] H → va_D A [(fa, .inr (1, [.int x_fa_0, .long x_fa_1, .long x_fa_2, .long x_fa_3, .long x_fa_4])), (fb, .inr (1, [.int x_fb_0, .long x_fb_1, .long x_fb_2, .long x_fb_3, .long x_fb_4]))] → va_S A s.heap H locs → W p l e ({ frames := 2, cells := 0, slots := 0, locals := 41 }) s m [.ref fa, .int v0, .int v1, .ref fb].toArray below meth c H locs 0 0 Q (F0 m 57 ls []) := by
        intro  H locs ls  hl hP hD hS
        refine lv_aload_n hx hb dX1_shiftBits_57 rfl (lv_at hl 0 rfl) ?_
        refine lv_lconst (v := 0) hx hb dX1_shiftBits_58 (by decide) ?_
        refine va_put (D := D) (ci := 1) (v := .long 0) (ty := .long) (C := RX1) (T := TX1) (N := 5) hx hb (htX1 hn) (fun _ h => h) tyX1 tyX1_ok nmX1 hown hK hP hD hS 0 rfl rfl 3 (by decide) (hn.get mw_323 rfl) (fun _ h9 => h9) rfl (by decide +kernel) rfl rfl (Nat.le_of_ble_eq_true rfl) dX1_shiftBits_59 (fun H locs hP hD hS => ?_)
        have hP : va_P D vwCl [(fa, .inr (1, [.int x_fa_0, .long x_fa_1, .long x_fa_2, .long 0, .long x_fa_4])), (fb, .inr (1, [.int x_fb_0, .long x_fb_1, .long x_fb_2, .long x_fb_3, .long x_fb_4]))] _ := hP
        have hD : va_D A [(fa, .inr (1, [.int x_fa_0, .long x_fa_1, .long x_fa_2, .long 0, .long x_fa_4])), (fb, .inr (1, [.int x_fb_0, .long x_fb_1, .long x_fb_2, .long x_fb_3, .long x_fb_4]))] := hD
        refine lv_aload_n hx hb dX1_shiftBits_62 rfl (lv_at hl 0 rfl) ?_
        refine lv_lconst (v := 0) hx hb dX1_shiftBits_63 (by decide) ?_
        refine va_put (D := D) (ci := 1) (v := .long 0) (ty := .long) (C := RX1) (T := TX1) (N := 5) hx hb (htX1 hn) (fun _ h => h) tyX1 tyX1_ok nmX1 hown hK hP hD hS 0 rfl rfl 4 (by decide) (hn.get mw_325 rfl) (fun _ h9 => h9) rfl (by decide +kernel) rfl rfl (Nat.le_of_ble_eq_true rfl) dX1_shiftBits_64 (fun H locs hP hD hS => ?_)
        have hP : va_P D vwCl [(fa, .inr (1, [.int x_fa_0, .long x_fa_1, .long x_fa_2, .long 0, .long 0])), (fb, .inr (1, [.int x_fb_0, .long x_fb_1, .long x_fb_2, .long x_fb_3, .long x_fb_4]))] _ := hP
        have hD : va_D A [(fa, .inr (1, [.int x_fa_0, .long x_fa_1, .long x_fa_2, .long 0, .long 0])), (fb, .inr (1, [.int x_fb_0, .long x_fb_1, .long x_fb_2, .long x_fb_3, .long x_fb_4]))] := hD
        exact endq_v hQ hx hb hr hlocks dX1_shiftBits_67 ((0 : Int64), (0 : Int64)) trivial hP hD hS [0, 1] rfl (by decide) rfl (Nat.le_of_ble_eq_true rfl) (Nat.le_of_ble_eq_true rfl)
      have b50 : ∀  (H : Heap) (locs : List Loc) (ls : Array Slot), lv_has ls 7 [(0, .ref fa), (2, .int v1), (3, .ref fb), (4, .int j11_s0)] → va_P D vwCl [(fa, .inr (1, [.int x_fa_0, .long x_fa_1, .long x_fa_2, .long x_fa_3, .long x_fa_4])), (fb, .inr (1, [.int x_fb_0, .long x_fb_1, .long x_fb_2, .long x_fb_3, .long x_fb_4]))] H → va_D A [(fa, .inr (1, [.int x_fa_0, .long x_fa_1, .long x_fa_2, .long x_fa_3, .long x_fa_4])), (fb, .inr (1, [.int x_fb_0, .long x_fb_1, .long x_fb_2, .long x_fb_3, .long x_fb_4]))] → va_S A s.heap H locs → W p l e ({ frames := 2, cells := 0, slots := 0, locals := 41 }) s m [.ref fa, .int v0, .int v1, .ref fb].toArray below meth c H locs 0 0 Q (F0 m 50 ls []) := by
        intro  H locs ls  hl hP hD hS
        refine lv_aload_n hx hb dX1_shiftBits_50 rfl (lv_at hl 2 rfl) ?_
        refine go_i (k1 := 0) (n1 := 0) (wr := [(fa, .inr (1, [.int x_fa_0, .long x_fa_1, .long x_fa_2, .long x_fa_3, .long x_fa_4]))]) [1] [0] (rn_V (As := []) (rest := []) (c_X1_isExact l D ct fb x_fb_0 x_fb_1 x_fb_2 x_fb_3 x_fb_4  _) (cb_of (n := 0) hn mw_1133 mw_12 mw_1130 mhX1_isExact ⟨(Nat.le_of_ble_eq_true rfl), (Nat.le_of_ble_eq_true rfl)⟩) hx hb hml hown hn hK hZ hS mw_1132 mw_s119 (ci := 1) (q0 := 0) rfl rfl rfl rfl hl.1 (Nat.le_of_ble_eq_true rfl) dX1_shiftBits_51 ⟨(Nat.le_of_ble_eq_true rfl), (Nat.le_of_ble_eq_true rfl)⟩) hP hD hS hA rfl rfl (by decide) (by decide) (by decide) (Nat.le_of_ble_eq_true rfl) (Nat.le_of_ble_eq_true rfl) (fun r51_1 u51_2 H locs hp51_3 hP hD hS => ?_)
        have hp51_4 := hp51_3
        have hp51_4 : rg r51_1 0 1 := hp51_4
        have hP : va_P D vwCl [(fa, .inr (1, [.int x_fa_0, .long x_fa_1, .long x_fa_2, .long x_fa_3, .long x_fa_4])), (fb, .inr (1, [.int x_fb_0, .long x_fb_1, .long x_fb_2, .long x_fb_3, .long x_fb_4]))] _ := hP
        have hD : va_D A [(fa, .inr (1, [.int x_fa_0, .long x_fa_1, .long x_fa_2, .long x_fa_3, .long x_fa_4])), (fb, .inr (1, [.int x_fb_0, .long x_fb_1, .long x_fb_2, .long x_fb_3, .long x_fb_4]))] := hD
        refine lv_if_ne (tgt := 68) hx hb dX1_shiftBits_54 (by decide) (fun c54_1 => ?_) (fun c54_1 => ?_)
        · have t54_2 := (i_ne c54_1)
          have r54_3 : rg r51_1 1 1 := rg_neAl t54_2 hp51_4 (show rg (0 : Int32) 0 0 from (rg_l (by decide))) (by decide)
          refine lv_aload_n hx hb dX1_shiftBits_68 rfl (lv_at hl 2 rfl) ?_
          refine va_get (D := D) (ci := 1) (v := .long x_fb_1) (C := RX1) (T := TX1) (N := 5) hx hb (htX1 hn) (fun _ h => h) hown hK hP 1 rfl rfl 1 (by decide) (hn.get mw_319 rfl) (fun _ h9 => h9) rfl dX1_shiftBits_69 ?_
          refine lv_iload_n hx hb dX1_shiftBits_72 rfl (lv_at hl 1 rfl) ?_
          have b83 : ∀ (j83_s0 : Int32) (H : Heap) (locs : List Loc) (ls : Array Slot), rg j83_s0 31 63 → lv_has ls 7 [(0, .ref fa), (4, .int j11_s0)] → va_P D vwCl [(fa, .inr (1, [.int x_fa_0, .long x_fa_1, .long x_fa_2, .long x_fa_3, .long x_fa_4])), (fb, .inr (1, [.int x_fb_0, .long x_fb_1, .long x_fb_2, .long x_fb_3, .long x_fb_4]))] H → va_D A [(fa, .inr (1, [.int x_fa_0, .long x_fa_1, .long x_fa_2, .long x_fa_3, .long x_fa_4])), (fb, .inr (1, [.int x_fb_0, .long x_fb_1, .long x_fb_2, .long x_fb_3, .long x_fb_4]))] → va_S A s.heap H locs → W p l e ({ frames := 2, cells := 0, slots := 0, locals := 41 }) s m [.ref fa, .int v0, .int v1, .ref fb].toArray below meth c H locs 0 0 Q (F0 m 83 ls [.int j83_s0, .long x_fb_1]) := by
            intro j83_s0 H locs ls r83_1001 hl hP hD hS
            refine lv_i2l hx hb dX1_shiftBits_83 rfl ?_
            refine lv_topl (fun z83_1 ez83_1 => ?_)
            have r83_2 : rl z83_1 31 63 := rl_i2l ez83_1 r83_1001
            refine lv_land hx hb dX1_shiftBits_84 ?_
            refine lv_topl (fun z84_1 ez84_1 => ?_)
            have r84_2 : rl z84_1 0 63 := rgL_andr ez84_1 r83_2 (by decide)
            refine lv_l2i hx hb dX1_shiftBits_85 rfl ?_
            refine lv_topi (fun z85_1 ez85_1 => ?_)
            have r85_2 : rg z85_1 0 63 := rg_l2i ez85_1 r84_2 (by decide)
            refine lv_istore (lv' := [(6, .int z85_1), (0, .ref fa), (4, .int j11_s0)]) hx hb dX1_shiftBits_86 hl (by decide) rfl (fun ls hl => ?_)
            refine lv_iload hx hb dX1_shiftBits_88 (lv_at hl 2 rfl) ?_
            refine lv_if_eq (tgt := 126) hx hb dX1_shiftBits_90 (by decide) (fun c90_1 => ?_) (fun c90_1 => ?_)
            · have t90_2 := (i_eq c90_1)
              have r90_3 : rg j11_s0 0 0 := rg_eqA t90_2 r11_1001 (show rg (0 : Int32) 0 0 from (rg_l (by decide))) (by decide)
              refine lv_aload_n hx hb dX1_shiftBits_126 rfl (lv_at hl 1 rfl) ?_
              refine lv_aload_n hx hb dX1_shiftBits_127 rfl (lv_at hl 1 rfl) ?_
              refine va_get (D := D) (ci := 1) (v := .long x_fa_3) (C := RX1) (T := TX1) (N := 5) hx hb (htX1 hn) (fun _ h => h) hown hK hP 0 rfl rfl 3 (by decide) (hn.get mw_323 rfl) (fun _ h9 => h9) rfl dX1_shiftBits_128 ?_
              refine lv_ldc2 (v := (-1)) hx hb hown (hn.get mw_1025 rfl) dX1_shiftBits_131 ?_
              refine lv_lxor hx hb dX1_shiftBits_134 ?_
              refine lv_topl (fun z134_1 ez134_1 => ?_)
              refine lv_iload hx hb dX1_shiftBits_135 (lv_at hl 0 rfl) ?_
              refine lv_lushr hx hb dX1_shiftBits_137 rfl ?_
              refine lv_topl (fun z137_1 ez137_1 => ?_)
              refine lv_ldc2 (v := (-1)) hx hb hown (hn.get mw_1025 rfl) dX1_shiftBits_138 ?_
              refine lv_lxor hx hb dX1_shiftBits_141 ?_
              refine lv_topl (fun z141_1 ez141_1 => ?_)
              refine va_put (D := D) (ci := 1) (v := .long z141_1) (ty := .long) (C := RX1) (T := TX1) (N := 5) hx hb (htX1 hn) (fun _ h => h) tyX1 tyX1_ok nmX1 hown hK hP hD hS 0 rfl rfl 3 (by decide) (hn.get mw_323 rfl) (fun _ h9 => h9) rfl (by decide +kernel) rfl rfl (Nat.le_of_ble_eq_true rfl) dX1_shiftBits_142 (fun H locs hP hD hS => ?_)
              have hP : va_P D vwCl [(fa, .inr (1, [.int x_fa_0, .long x_fa_1, .long x_fa_2, .long z141_1, .long x_fa_4])), (fb, .inr (1, [.int x_fb_0, .long x_fb_1, .long x_fb_2, .long x_fb_3, .long x_fb_4]))] _ := hP
              have hD : va_D A [(fa, .inr (1, [.int x_fa_0, .long x_fa_1, .long x_fa_2, .long z141_1, .long x_fa_4])), (fb, .inr (1, [.int x_fb_0, .long x_fb_1, .long x_fb_2, .long x_fb_3, .long x_fb_4]))] := hD
              refine lv_aload_n hx hb dX1_shiftBits_145 rfl (lv_at hl 1 rfl) ?_
              refine lv_aload_n hx hb dX1_shiftBits_146 rfl (lv_at hl 1 rfl) ?_
              refine va_get (D := D) (ci := 1) (v := .long x_fa_4) (C := RX1) (T := TX1) (N := 5) hx hb (htX1 hn) (fun _ h => h) hown hK hP 0 rfl rfl 4 (by decide) (hn.get mw_325 rfl) (fun _ h9 => h9) rfl dX1_shiftBits_147 ?_
              refine lv_iload hx hb dX1_shiftBits_150 (lv_at hl 0 rfl) ?_
              refine lv_lushr hx hb dX1_shiftBits_152 rfl ?_
              refine lv_topl (fun z152_1 ez152_1 => ?_)
              refine va_put (D := D) (ci := 1) (v := .long z152_1) (ty := .long) (C := RX1) (T := TX1) (N := 5) hx hb (htX1 hn) (fun _ h => h) tyX1 tyX1_ok nmX1 hown hK hP hD hS 0 rfl rfl 4 (by decide) (hn.get mw_325 rfl) (fun _ h9 => h9) rfl (by decide +kernel) rfl rfl (Nat.le_of_ble_eq_true rfl) dX1_shiftBits_153 (fun H locs hP hD hS => ?_)
              have hP : va_P D vwCl [(fa, .inr (1, [.int x_fa_0, .long x_fa_1, .long x_fa_2, .long z141_1, .long z152_1])), (fb, .inr (1, [.int x_fb_0, .long x_fb_1, .long x_fb_2, .long x_fb_3, .long x_fb_4]))] _ := hP
              have hD : va_D A [(fa, .inr (1, [.int x_fa_0, .long x_fa_1, .long x_fa_2, .long z141_1, .long z152_1])), (fb, .inr (1, [.int x_fb_0, .long x_fb_1, .long x_fb_2, .long x_fb_3, .long x_fb_4]))] := hD
              exact endq_v hQ hx hb hr hlocks dX1_shiftBits_156 (z141_1, z152_1) trivial hP hD hS [0, 1] rfl (by decide) rfl (Nat.le_of_ble_eq_true rfl) (Nat.le_of_ble_eq_true rfl)
            · have t156_1 := (i_ne c90_1)
              have r156_2 : rg j11_s0 1 1 := rg_neAl t156_1 r11_1001 (show rg (0 : Int32) 0 0 from (rg_l (by decide))) (by decide)
              refine lv_aload_n hx hb dX1_shiftBits_93 rfl (lv_at hl 1 rfl) ?_
              refine lv_aload_n hx hb dX1_shiftBits_94 rfl (lv_at hl 1 rfl) ?_
              refine va_get (D := D) (ci := 1) (v := .long x_fa_3) (C := RX1) (T := TX1) (N := 5) hx hb (htX1 hn) (fun _ h => h) hown hK hP 0 rfl rfl 3 (by decide) (hn.get mw_323 rfl) (fun _ h9 => h9) rfl dX1_shiftBits_95 ?_
              refine lv_ldc2 (v := (-1)) hx hb hown (hn.get mw_1025 rfl) dX1_shiftBits_98 ?_
              refine lv_lxor hx hb dX1_shiftBits_101 ?_
              refine lv_topl (fun z101_1 ez101_1 => ?_)
              refine lv_iload hx hb dX1_shiftBits_102 (lv_at hl 0 rfl) ?_
              refine lv_lshl hx hb dX1_shiftBits_104 rfl ?_
              refine lv_topl (fun z104_1 ez104_1 => ?_)
              refine lv_ldc2 (v := (-1)) hx hb hown (hn.get mw_1025 rfl) dX1_shiftBits_105 ?_
              refine lv_lxor hx hb dX1_shiftBits_108 ?_
              refine lv_topl (fun z108_1 ez108_1 => ?_)
              refine va_put (D := D) (ci := 1) (v := .long z108_1) (ty := .long) (C := RX1) (T := TX1) (N := 5) hx hb (htX1 hn) (fun _ h => h) tyX1 tyX1_ok nmX1 hown hK hP hD hS 0 rfl rfl 3 (by decide) (hn.get mw_323 rfl) (fun _ h9 => h9) rfl (by decide +kernel) rfl rfl (Nat.le_of_ble_eq_true rfl) dX1_shiftBits_109 (fun H locs hP hD hS => ?_)
              have hP : va_P D vwCl [(fa, .inr (1, [.int x_fa_0, .long x_fa_1, .long x_fa_2, .long z108_1, .long x_fa_4])), (fb, .inr (1, [.int x_fb_0, .long x_fb_1, .long x_fb_2, .long x_fb_3, .long x_fb_4]))] _ := hP
              have hD : va_D A [(fa, .inr (1, [.int x_fa_0, .long x_fa_1, .long x_fa_2, .long z108_1, .long x_fa_4])), (fb, .inr (1, [.int x_fb_0, .long x_fb_1, .long x_fb_2, .long x_fb_3, .long x_fb_4]))] := hD
              refine lv_aload_n hx hb dX1_shiftBits_112 rfl (lv_at hl 1 rfl) ?_
              refine lv_aload_n hx hb dX1_shiftBits_113 rfl (lv_at hl 1 rfl) ?_
              refine va_get (D := D) (ci := 1) (v := .long x_fa_4) (C := RX1) (T := TX1) (N := 5) hx hb (htX1 hn) (fun _ h => h) hown hK hP 0 rfl rfl 4 (by decide) (hn.get mw_325 rfl) (fun _ h9 => h9) rfl dX1_shiftBits_114 ?_
              refine lv_iload hx hb dX1_shiftBits_117 (lv_at hl 0 rfl) ?_
              refine lv_lshl hx hb dX1_shiftBits_119 rfl ?_
              refine lv_topl (fun z119_1 ez119_1 => ?_)
              refine va_put (D := D) (ci := 1) (v := .long z119_1) (ty := .long) (C := RX1) (T := TX1) (N := 5) hx hb (htX1 hn) (fun _ h => h) tyX1 tyX1_ok nmX1 hown hK hP hD hS 0 rfl rfl 4 (by decide) (hn.get mw_325 rfl) (fun _ h9 => h9) rfl (by decide +kernel) rfl rfl (Nat.le_of_ble_eq_true rfl) dX1_shiftBits_120 (fun H locs hP hD hS => ?_)
              have hP : va_P D vwCl [(fa, .inr (1, [.int x_fa_0, .long x_fa_1, .long x_fa_2, .long z108_1, .long z119_1])), (fb, .inr (1, [.int x_fb_0, .long x_fb_1, .long x_fb_2, .long x_fb_3, .long x_fb_4]))] _ := hP
              have hD : va_D A [(fa, .inr (1, [.int x_fa_0, .long x_fa_1, .long x_fa_2, .long z108_1, .long z119_1])), (fb, .inr (1, [.int x_fb_0, .long x_fb_1, .long x_fb_2, .long x_fb_3, .long x_fb_4]))] := hD
              refine lv_goto (tgt := 156) hx hb dX1_shiftBits_123 (by decide) ?_
              exact endq_v hQ hx hb hr hlocks dX1_shiftBits_156 (z108_1, z119_1) trivial hP hD hS [0, 1] rfl (by decide) rfl (Nat.le_of_ble_eq_true rfl) (Nat.le_of_ble_eq_true rfl)
          refine lv_if_eq (tgt := 81) hx hb dX1_shiftBits_73 (by decide) (fun c73_1 => ?_) (fun c73_1 => ?_)
          · have t73_2 := (i_eq c73_1)
            have r73_3 : rg v1 0 0 := rg_eqA t73_2 h_v1 (show rg (0 : Int32) 0 0 from (rg_l (by decide))) (by decide)
            refine lv_bipush (v := 31) hx hb dX1_shiftBits_81 (by decide) ?_
            exact b83 (31 : Int32) H locs ls (rg_w (rg_l (by decide)) (by decide)) (lv_sub hl [0, 3] rfl) hP hD hS
          · have t81_1 := (i_ne c73_1)
            have r81_2 : rg v1 1 1 := rg_neAl t81_1 h_v1 (show rg (0 : Int32) 0 0 from (rg_l (by decide))) (by decide)
            refine lv_bipush (v := 63) hx hb dX1_shiftBits_76 (by decide) ?_
            refine lv_goto (tgt := 83) hx hb dX1_shiftBits_78 (by decide) ?_
            exact b83 (63 : Int32) H locs ls (rg_w (rg_l (by decide)) (by decide)) (lv_sub hl [0, 3] rfl) hP hD hS
        · have t78_1 := (i_nne c54_1)
          have r78_2 : rg r51_1 0 0 := rg_eqA t78_1 hp51_4 (show rg (0 : Int32) 0 0 from (rg_l (by decide))) (by decide)
          exact b57  H locs ls  (lv_sub hl [0] rfl) hP hD hS
      refine lv_if_ne (tgt := 50) hx hb dX1_shiftBits_42 (by decide) (fun c42_1 => ?_) (fun c42_1 => ?_)
      · have t42_2 := (i_ne c42_1)
        have r42_3 : rg j11_s0 1 1 := rg_neAl t42_2 r11_1001 (show rg (0 : Int32) 0 0 from (rg_l (by decide))) (by decide)
        exact b50  H locs ls  (lv_sub hl [1, 2, 3, 4] rfl) hP hD hS
      · have t42_4 := (i_nne c42_1)
        have r42_5 : rg j11_s0 0 0 := rg_eqA t42_4 r11_1001 (show rg (0 : Int32) 0 0 from (rg_l (by decide))) (by decide)
        refine lv_iload hx hb dX1_shiftBits_45 (lv_at hl 0 rfl) ?_
        refine lv_if_eq (tgt := 57) hx hb dX1_shiftBits_47 (by decide) (fun c47_1 => ?_) (fun c47_1 => ?_)
        · have t47_2 := (i_eq c47_1)
          have r47_3 : rg j38_s0 0 0 := rg_eqA t47_2 r38_1001 (show rg (0 : Int32) 0 0 from (rg_l (by decide))) (by decide)
          exact b57  H locs ls  (lv_sub hl [1] rfl) hP hD hS
        · have t47_4 := (i_ne c47_1)
          have r47_5 : rg j38_s0 1 1 := rg_neAl t47_4 r38_1001 (show rg (0 : Int32) 0 0 from (rg_l (by decide))) (by decide)
          exact b50  H locs ls  (lv_sub hl [1, 2, 3, 4] rfl) hP hD hS
    have b33 : ∀  (H : Heap) (locs : List Loc) (ls : Array Slot), lv_has ls 7 [(0, .ref fa), (2, .int v1), (3, .ref fb), (4, .int j11_s0)] → va_P D vwCl [(fa, .inr (1, [.int x_fa_0, .long x_fa_1, .long x_fa_2, .long x_fa_3, .long x_fa_4])), (fb, .inr (1, [.int x_fb_0, .long x_fb_1, .long x_fb_2, .long x_fb_3, .long x_fb_4]))] H → va_D A [(fa, .inr (1, [.int x_fa_0, .long x_fa_1, .long x_fa_2, .long x_fa_3, .long x_fa_4])), (fb, .inr (1, [.int x_fb_0, .long x_fb_1, .long x_fb_2, .long x_fb_3, .long x_fb_4]))] → va_S A s.heap H locs → W p l e ({ frames := 2, cells := 0, slots := 0, locals := 41 }) s m [.ref fa, .int v0, .int v1, .ref fb].toArray below meth c H locs 0 0 Q (F0 m 33 ls []) := by
      intro  H locs ls  hl hP hD hS
      refine lv_iconst (v := 1) hx hb dX1_shiftBits_33 (by decide) ?_
      refine lv_goto (tgt := 38) hx hb dX1_shiftBits_34 (by decide) ?_
      exact b38 (1 : Int32) H locs ls (rg_w (rg_l (by decide)) (by decide)) (lv_sub hl [0, 1, 2, 3] rfl) hP hD hS
    refine lv_icmp_eq (tgt := 33) hx hb dX1_shiftBits_16 (by decide) (fun c16_1 => ?_) (fun c16_1 => ?_)
    · have t16_2 := (i_eq c16_1)
      have r16_3 : rg v0 7 7 := rg_eqA t16_2 (rg_any v0) (show rg (7 : Int32) 7 7 from (rg_l (by decide))) (by decide)
      exact b33  H locs ls  (lv_sub hl [1, 3, 4, 0] rfl) hP hD hS
    · have t16_4 := (i_ne c16_1)
      refine lv_iload_n hx hb dX1_shiftBits_19 rfl (lv_at hl 2 rfl) ?_
      refine lv_bipush (v := 12) hx hb dX1_shiftBits_20 (by decide) ?_
      have b37 : ∀  (H : Heap) (locs : List Loc) (ls : Array Slot), lv_has ls 7 [(0, .ref fa), (2, .int v1), (3, .ref fb), (4, .int j11_s0)] → va_P D vwCl [(fa, .inr (1, [.int x_fa_0, .long x_fa_1, .long x_fa_2, .long x_fa_3, .long x_fa_4])), (fb, .inr (1, [.int x_fb_0, .long x_fb_1, .long x_fb_2, .long x_fb_3, .long x_fb_4]))] H → va_D A [(fa, .inr (1, [.int x_fa_0, .long x_fa_1, .long x_fa_2, .long x_fa_3, .long x_fa_4])), (fb, .inr (1, [.int x_fb_0, .long x_fb_1, .long x_fb_2, .long x_fb_3, .long x_fb_4]))] → va_S A s.heap H locs → W p l e ({ frames := 2, cells := 0, slots := 0, locals := 41 }) s m [.ref fa, .int v0, .int v1, .ref fb].toArray below meth c H locs 0 0 Q (F0 m 37 ls []) := by
        intro  H locs ls  hl hP hD hS
        refine lv_iconst (v := 0) hx hb dX1_shiftBits_37 (by decide) ?_
        exact b38 (0 : Int32) H locs ls (rg_w (rg_l (by decide)) (by decide)) (lv_sub hl [0, 1, 2, 3] rfl) hP hD hS
      refine lv_icmp_ne (tgt := 37) hx hb dX1_shiftBits_22 (by decide) (fun c22_1 => ?_) (fun c22_1 => ?_)
      · have t22_2 := (i_ne c22_1)
        exact b37  H locs ls  (lv_sub hl [1, 3, 4, 0] rfl) hP hD hS
      · have t22_3 := (i_nne c22_1)
        have r22_4 : rg v0 12 12 := rg_eqA t22_3 (rg_any v0) (show rg (12 : Int32) 12 12 from (rg_l (by decide))) (by decide)
        refine lv_aload_n hx hb dX1_shiftBits_25 rfl (lv_at hl 1 rfl) ?_
        refine lv_iload_n hx hb dX1_shiftBits_26 rfl (lv_at hl 3 rfl) ?_
        refine go_i (k1 := 0) (n1 := 0) (wr := [(fb, .inr (1, [.int x_fb_0, .long x_fb_1, .long x_fb_2, .long x_fb_3, .long x_fb_4]))]) [0] [1] (rn_V (As := [.int v1]) (rest := []) (c_X1_isUnsigned l D ct fa v1 x_fa_0 x_fa_1 x_fa_2 x_fa_3 x_fa_4 h_v1 _) (cb_of (n := 1) hn mw_1128 mw_12 mw_1125 mhX1_isUnsigned ⟨(Nat.le_of_ble_eq_true rfl), (Nat.le_of_ble_eq_true rfl)⟩) hx hb hml hown hn hK hZ hS mw_1127 mw_s118 (ci := 1) (q0 := 0) rfl rfl rfl rfl hl.1 (Nat.le_of_ble_eq_true rfl) dX1_shiftBits_27 ⟨(Nat.le_of_ble_eq_true rfl), (Nat.le_of_ble_eq_true rfl)⟩) hP hD hS hA rfl rfl (by decide) (by decide) (by decide) (Nat.le_of_ble_eq_true rfl) (Nat.le_of_ble_eq_true rfl) (fun r27_1 u27_2 H locs hp27_3 hP hD hS => ?_)
        have hp27_4 := hp27_3
        have hp27_4 : rg r27_1 0 1 := hp27_4
        have hP : va_P D vwCl [(fb, .inr (1, [.int x_fb_0, .long x_fb_1, .long x_fb_2, .long x_fb_3, .long x_fb_4])), (fa, .inr (1, [.int x_fa_0, .long x_fa_1, .long x_fa_2, .long x_fa_3, .long x_fa_4]))] _ := hP
        have hD : va_D A [(fb, .inr (1, [.int x_fb_0, .long x_fb_1, .long x_fb_2, .long x_fb_3, .long x_fb_4])), (fa, .inr (1, [.int x_fa_0, .long x_fa_1, .long x_fa_2, .long x_fa_3, .long x_fa_4]))] := hD
        refine lv_if_eq (tgt := 37) hx hb dX1_shiftBits_30 (by decide) (fun c30_1 => ?_) (fun c30_1 => ?_)
        · have t30_2 := (i_eq c30_1)
          have r30_3 : rg r27_1 0 0 := rg_eqA t30_2 hp27_4 (show rg (0 : Int32) 0 0 from (rg_l (by decide))) (by decide)
          have hP := hP.sub (ws' := [(fa, .inr (1, [.int x_fa_0, .long x_fa_1, .long x_fa_2, .long x_fa_3, .long x_fa_4])), (fb, .inr (1, [.int x_fb_0, .long x_fb_1, .long x_fb_2, .long x_fb_3, .long x_fb_4]))]) [1, 0] rfl
          have hD := hD.sub (ws' := [(fa, .inr (1, [.int x_fa_0, .long x_fa_1, .long x_fa_2, .long x_fa_3, .long x_fa_4])), (fb, .inr (1, [.int x_fb_0, .long x_fb_1, .long x_fb_2, .long x_fb_3, .long x_fb_4]))]) [1, 0] (by decide) rfl
          exact b37  H locs ls  (lv_sub hl [1, 3, 4, 0] rfl) hP hD hS
        · have t30_4 := (i_ne c30_1)
          have r30_5 : rg r27_1 1 1 := rg_neAl t30_4 hp27_4 (show rg (0 : Int32) 0 0 from (rg_l (by decide))) (by decide)
          have hP := hP.sub (ws' := [(fa, .inr (1, [.int x_fa_0, .long x_fa_1, .long x_fa_2, .long x_fa_3, .long x_fa_4])), (fb, .inr (1, [.int x_fb_0, .long x_fb_1, .long x_fb_2, .long x_fb_3, .long x_fb_4]))]) [1, 0] rfl
          have hD := hD.sub (ws' := [(fa, .inr (1, [.int x_fa_0, .long x_fa_1, .long x_fa_2, .long x_fa_3, .long x_fa_4])), (fb, .inr (1, [.int x_fb_0, .long x_fb_1, .long x_fb_2, .long x_fb_3, .long x_fb_4]))]) [1, 0] (by decide) rfl
          exact b33  H locs ls  (lv_sub hl [1, 3, 4, 0] rfl) hP hD hS
  refine lv_icmp_ne (tgt := 10) hx hb dX1_shiftBits_3 (by decide) (fun c3_1 => ?_) (fun c3_1 => ?_)
  · have t3_2 := (i_ne c3_1)
    refine lv_iconst (v := 0) hx hb dX1_shiftBits_10 (by decide) ?_
    exact b11 (0 : Int32) H locs ls (rg_w (rg_l (by decide)) (by decide)) (lv_sub hl [0, 1, 2, 3] rfl) hP hD hS
  · have t10_1 := (i_nne c3_1)
    have r10_2 : rg v0 6 6 := rg_eqA t10_1 (rg_any v0) (show rg (6 : Int32) 6 6 from (rg_l (by decide))) (by decide)
    refine lv_iconst (v := 1) hx hb dX1_shiftBits_6 (by decide) ?_
    refine lv_goto (tgt := 11) hx hb dX1_shiftBits_7 (by decide) ?_
    exact b11 (1 : Int32) H locs ls (rg_w (rg_l (by decide)) (by decide)) (lv_sub hl [0, 1, 2, 3] rfl) hP hD hS
set_option maxHeartbeats 2000000 in
theorem c_X1_takeBits (l : Launch) (D : va_G) (ct : Nat → ClassId) (fa : Nat) (fb : Nat) (x_fa_0 : Int32) (x_fa_1 : Int64) (x_fa_2 : Int64) (x_fa_3 : Int64) (x_fa_4 : Int64) (x_fb_0 : Int32) (x_fb_1 : Int64) (x_fb_2 : Int64) (x_fb_3 : Int64) (x_fb_4 : Int64)  : KV (S := Int64 × Int64) l yX1_takeBits cX1_takeBits 8 none 1 20 D ct [.ref fa, .ref fb] [(fa, .inr (1, [.int x_fa_0, .long x_fa_1, .long x_fa_2, .long x_fa_3, .long x_fa_4])), (fb, .inr (1, [.int x_fb_0, .long x_fb_1, .long x_fb_2, .long x_fb_3, .long x_fb_4]))] 0 0 (fun (u : Int64 × Int64) => match u with | (y_fa_3, y_fa_4) => True) (fun (u : Int64 × Int64) => match u with | (y_fa_3, y_fa_4) => [(fa, .inr (1, [.int x_fa_0, .long x_fa_1, .long x_fa_2, .long y_fa_3, .long y_fa_4])), (fb, .inr (1, [.int x_fb_0, .long x_fb_1, .long x_fb_2, .long x_fb_3, .long x_fb_4]))]) := by
  refine KVq_of (by decide) (Nat.le_of_ble_eq_true rfl) (fun p e s m below meth c A Q C0 hA hS hP hD hQ ls hl => ?_)
  obtain ⟨hx, hb, hr, hown, hin, hml, hlocks, hn, hK, hZ⟩ := C0
  have hl : lv_has ls 8 [(0, .ref fa), (1, .ref fb)] := hl
  refine lv_aload_n hx hb dX1_takeBits_0 rfl (lv_at hl 0 rfl) ?_
  refine va_get (D := D) (ci := 1) (v := .long x_fa_4) (C := RX1) (T := TX1) (N := 5) hx hb (htX1 hn) (fun _ h => h) hown hK hP 0 rfl rfl 4 (by decide) (hn.get mw_325 rfl) (fun _ h9 => h9) rfl dX1_takeBits_1 ?_
  refine lv_aload_n hx hb dX1_takeBits_4 rfl (lv_at hl 1 rfl) ?_
  refine va_get (D := D) (ci := 1) (v := .long x_fb_4) (C := RX1) (T := TX1) (N := 5) hx hb (htX1 hn) (fun _ h => h) hown hK hP 1 rfl rfl 4 (by decide) (hn.get mw_325 rfl) (fun _ h9 => h9) rfl dX1_takeBits_5 ?_
  refine lv_lsub hx hb dX1_takeBits_8 ?_
  refine lv_topl (fun z8_1 ez8_1 => ?_)
  refine lv_lstore_n (lv' := [(2, .long z8_1), (0, .ref fa), (1, .ref fb)]) hx hb dX1_takeBits_9 rfl hl (by decide) rfl (fun ls hl => ?_)
  refine lv_lload_n hx hb dX1_takeBits_10 rfl (lv_at hl 0 rfl) ?_
  refine lv_aload_n hx hb dX1_takeBits_11 rfl (lv_at hl 1 rfl) ?_
  refine va_get (D := D) (ci := 1) (v := .long x_fa_3) (C := RX1) (T := TX1) (N := 5) hx hb (htX1 hn) (fun _ h => h) hown hK hP 0 rfl rfl 3 (by decide) (hn.get mw_323 rfl) (fun _ h9 => h9) rfl dX1_takeBits_12 ?_
  refine lv_ldc2 (v := (-1)) hx hb hown (hn.get mw_1025 rfl) dX1_takeBits_15 ?_
  refine lv_lxor hx hb dX1_takeBits_18 ?_
  refine lv_topl (fun z18_1 ez18_1 => ?_)
  refine lv_ladd hx hb dX1_takeBits_19 ?_
  refine lv_topl (fun z19_1 ez19_1 => ?_)
  refine lv_lstore (lv' := [(4, .long z19_1), (2, .long z8_1), (0, .ref fa), (1, .ref fb)]) hx hb dX1_takeBits_20 hl (by decide) rfl (fun ls hl => ?_)
  refine lv_lload_n hx hb dX1_takeBits_22 rfl (lv_at hl 1 rfl) ?_
  refine lv_aload_n hx hb dX1_takeBits_23 rfl (lv_at hl 3 rfl) ?_
  refine va_get (D := D) (ci := 1) (v := .long x_fb_3) (C := RX1) (T := TX1) (N := 5) hx hb (htX1 hn) (fun _ h => h) hown hK hP 1 rfl rfl 3 (by decide) (hn.get mw_323 rfl) (fun _ h9 => h9) rfl dX1_takeBits_24 ?_
  refine lv_ldc2 (v := (-1)) hx hb hown (hn.get mw_1025 rfl) dX1_takeBits_27 ?_
  refine lv_lxor hx hb dX1_takeBits_30 ?_
  refine lv_topl (fun z30_1 ez30_1 => ?_)
  refine lv_lsub hx hb dX1_takeBits_31 ?_
  refine lv_topl (fun z31_1 ez31_1 => ?_)
  refine lv_lstore (lv' := [(6, .long z31_1), (4, .long z19_1), (2, .long z8_1), (0, .ref fa), (1, .ref fb)]) hx hb dX1_takeBits_32 hl (by decide) rfl (fun ls hl => ?_)
  refine lv_aload_n hx hb dX1_takeBits_34 rfl (lv_at hl 3 rfl) ?_
  refine lv_lload hx hb dX1_takeBits_35 (lv_at hl 1 rfl) ?_
  refine lv_lload hx hb dX1_takeBits_37 (lv_at hl 0 rfl) ?_
  refine lv_lxor hx hb dX1_takeBits_39 ?_
  refine lv_topl (fun z39_1 ez39_1 => ?_)
  refine lv_aload_n hx hb dX1_takeBits_40 rfl (lv_at hl 3 rfl) ?_
  refine va_get (D := D) (ci := 1) (v := .long x_fa_3) (C := RX1) (T := TX1) (N := 5) hx hb (htX1 hn) (fun _ h => h) hown hK hP 0 rfl rfl 3 (by decide) (hn.get mw_323 rfl) (fun _ h9 => h9) rfl dX1_takeBits_41 ?_
  refine lv_ldc2 (v := (-1)) hx hb hown (hn.get mw_1025 rfl) dX1_takeBits_44 ?_
  refine lv_lxor hx hb dX1_takeBits_47 ?_
  refine lv_topl (fun z47_1 ez47_1 => ?_)
  refine lv_lor hx hb dX1_takeBits_48 ?_
  refine lv_topl (fun z48_1 ez48_1 => ?_)
  refine lv_aload_n hx hb dX1_takeBits_49 rfl (lv_at hl 4 rfl) ?_
  refine va_get (D := D) (ci := 1) (v := .long x_fb_3) (C := RX1) (T := TX1) (N := 5) hx hb (htX1 hn) (fun _ h => h) hown hK hP 1 rfl rfl 3 (by decide) (hn.get mw_323 rfl) (fun _ h9 => h9) rfl dX1_takeBits_50 ?_
  refine lv_ldc2 (v := (-1)) hx hb hown (hn.get mw_1025 rfl) dX1_takeBits_53 ?_
  refine lv_lxor hx hb dX1_takeBits_56 ?_
  refine lv_topl (fun z56_1 ez56_1 => ?_)
  refine lv_lor hx hb dX1_takeBits_57 ?_
  refine lv_topl (fun z57_1 ez57_1 => ?_)
  refine lv_ldc2 (v := (-1)) hx hb hown (hn.get mw_1025 rfl) dX1_takeBits_58 ?_
  refine lv_lxor hx hb dX1_takeBits_61 ?_
  refine lv_topl (fun z61_1 ez61_1 => ?_)
  refine va_put (D := D) (ci := 1) (v := .long z61_1) (ty := .long) (C := RX1) (T := TX1) (N := 5) hx hb (htX1 hn) (fun _ h => h) tyX1 tyX1_ok nmX1 hown hK hP hD hS 0 rfl rfl 3 (by decide) (hn.get mw_323 rfl) (fun _ h9 => h9) rfl (by decide +kernel) rfl rfl (Nat.le_of_ble_eq_true rfl) dX1_takeBits_62 (fun H locs hP hD hS => ?_)
  have hP : va_P D vwCl [(fa, .inr (1, [.int x_fa_0, .long x_fa_1, .long x_fa_2, .long z61_1, .long x_fa_4])), (fb, .inr (1, [.int x_fb_0, .long x_fb_1, .long x_fb_2, .long x_fb_3, .long x_fb_4]))] _ := hP
  have hD : va_D A [(fa, .inr (1, [.int x_fa_0, .long x_fa_1, .long x_fa_2, .long z61_1, .long x_fa_4])), (fb, .inr (1, [.int x_fb_0, .long x_fb_1, .long x_fb_2, .long x_fb_3, .long x_fb_4]))] := hD
  refine lv_aload_n hx hb dX1_takeBits_65 rfl (lv_at hl 3 rfl) ?_
  refine lv_lload_n hx hb dX1_takeBits_66 rfl (lv_at hl 2 rfl) ?_
  refine lv_aload_n hx hb dX1_takeBits_67 rfl (lv_at hl 3 rfl) ?_
  refine va_get (D := D) (ci := 1) (v := .long z61_1) (C := RX1) (T := TX1) (N := 5) hx hb (htX1 hn) (fun _ h => h) hown hK hP 0 rfl rfl 3 (by decide) (hn.get mw_323 rfl) (fun _ h9 => h9) rfl dX1_takeBits_68 ?_
  refine lv_land hx hb dX1_takeBits_71 ?_
  refine lv_topl (fun z71_1 ez71_1 => ?_)
  refine va_put (D := D) (ci := 1) (v := .long z71_1) (ty := .long) (C := RX1) (T := TX1) (N := 5) hx hb (htX1 hn) (fun _ h => h) tyX1 tyX1_ok nmX1 hown hK hP hD hS 0 rfl rfl 4 (by decide) (hn.get mw_325 rfl) (fun _ h9 => h9) rfl (by decide +kernel) rfl rfl (Nat.le_of_ble_eq_true rfl) dX1_takeBits_72 (fun H locs hP hD hS => ?_)
  have hP : va_P D vwCl [(fa, .inr (1, [.int x_fa_0, .long x_fa_1, .long x_fa_2, .long z61_1, .long z71_1])), (fb, .inr (1, [.int x_fb_0, .long x_fb_1, .long x_fb_2, .long x_fb_3, .long x_fb_4]))] _ := hP
  have hD : va_D A [(fa, .inr (1, [.int x_fa_0, .long x_fa_1, .long x_fa_2, .long z61_1, .long z71_1])), (fb, .inr (1, [.int x_fb_0, .long x_fb_1, .long x_fb_2, .long x_fb_3, .long x_fb_4]))] := hD
  exact endq_v hQ hx hb hr hlocks dX1_takeBits_75 (z61_1, z71_1) trivial hP hD hS [0, 1] rfl (by decide) rfl (Nat.le_of_ble_eq_true rfl) (Nat.le_of_ble_eq_true rfl)
set_option maxHeartbeats 2000000 in
theorem c_X1_workBits (l : Launch) (D : va_G) (ct : Nat → ClassId) (fa : Nat) (v0 : Int32) (v1 : Int32) (fb : Nat) (x_fa_0 : Int32) (x_fa_1 : Int64) (x_fa_2 : Int64) (x_fa_3 : Int64) (x_fa_4 : Int64) (x_fb_0 : Int32) (x_fb_1 : Int64) (x_fb_2 : Int64) (x_fb_3 : Int64) (x_fb_4 : Int64) (h_v1 : rg v1 0 1) : KV (S := Int64 × Int64) l yX1_workBits cX1_workBits 8 none 3 67 D ct [.ref fa, .int v0, .int v1, .ref fb] [(fa, .inr (1, [.int x_fa_0, .long x_fa_1, .long x_fa_2, .long x_fa_3, .long x_fa_4])), (fb, .inr (1, [.int x_fb_0, .long x_fb_1, .long x_fb_2, .long x_fb_3, .long x_fb_4]))] 0 0 (fun (u : Int64 × Int64) => match u with | (y_fa_3, y_fa_4) => True) (fun (u : Int64 × Int64) => match u with | (y_fa_3, y_fa_4) => [(fa, .inr (1, [.int x_fa_0, .long x_fa_1, .long x_fa_2, .long y_fa_3, .long y_fa_4])), (fb, .inr (1, [.int x_fb_0, .long x_fb_1, .long x_fb_2, .long x_fb_3, .long x_fb_4]))]) := by
  refine KVq_of (by decide) (Nat.le_of_ble_eq_true rfl) (fun p e s m below meth c A Q C0 hA hS hP hD hQ ls hl => ?_)
  obtain ⟨hx, hb, hr, hown, hin, hml, hlocks, hn, hK, hZ⟩ := C0
  have hl : lv_has ls 8 [(0, .ref fa), (1, .int v0), (2, .int v1), (3, .ref fb)] := hl
  refine lv_aload_n hx hb dX1_workBits_0 rfl (lv_at hl 0 rfl) ?_
  refine va_get (D := D) (ci := 1) (v := .long x_fa_3) (C := RX1) (T := TX1) (N := 5) hx hb (htX1 hn) (fun _ h => h) hown hK hP 0 rfl rfl 3 (by decide) (hn.get mw_323 rfl) (fun _ h9 => h9) rfl dX1_workBits_1 ?_
  refine lv_aload_n hx hb dX1_workBits_4 rfl (lv_at hl 0 rfl) ?_
  refine va_get (D := D) (ci := 1) (v := .long x_fa_4) (C := RX1) (T := TX1) (N := 5) hx hb (htX1 hn) (fun _ h => h) hown hK hP 0 rfl rfl 4 (by decide) (hn.get mw_325 rfl) (fun _ h9 => h9) rfl dX1_workBits_5 ?_
  refine lv_ldc2 (v := (-1)) hx hb hown (hn.get mw_1025 rfl) dX1_workBits_8 ?_
  refine lv_lxor hx hb dX1_workBits_11 ?_
  refine lv_topl (fun z11_1 ez11_1 => ?_)
  refine lv_land hx hb dX1_workBits_12 ?_
  refine lv_topl (fun z12_1 ez12_1 => ?_)
  refine lv_lstore (lv' := [(4, .long z12_1), (0, .ref fa), (1, .int v0), (2, .int v1), (3, .ref fb)]) hx hb dX1_workBits_13 hl (by decide) rfl (fun ls hl => ?_)
  refine lv_aload_n hx hb dX1_workBits_15 rfl (lv_at hl 4 rfl) ?_
  refine va_get (D := D) (ci := 1) (v := .long x_fb_3) (C := RX1) (T := TX1) (N := 5) hx hb (htX1 hn) (fun _ h => h) hown hK hP 1 rfl rfl 3 (by decide) (hn.get mw_323 rfl) (fun _ h9 => h9) rfl dX1_workBits_16 ?_
  refine lv_aload_n hx hb dX1_workBits_19 rfl (lv_at hl 4 rfl) ?_
  refine va_get (D := D) (ci := 1) (v := .long x_fb_4) (C := RX1) (T := TX1) (N := 5) hx hb (htX1 hn) (fun _ h => h) hown hK hP 1 rfl rfl 4 (by decide) (hn.get mw_325 rfl) (fun _ h9 => h9) rfl dX1_workBits_20 ?_
  refine lv_ldc2 (v := (-1)) hx hb hown (hn.get mw_1025 rfl) dX1_workBits_23 ?_
  refine lv_lxor hx hb dX1_workBits_26 ?_
  refine lv_topl (fun z26_1 ez26_1 => ?_)
  refine lv_land hx hb dX1_workBits_27 ?_
  refine lv_topl (fun z27_1 ez27_1 => ?_)
  refine lv_lstore (lv' := [(6, .long z27_1), (4, .long z12_1), (0, .ref fa), (1, .int v0), (2, .int v1), (3, .ref fb)]) hx hb dX1_workBits_28 hl (by decide) rfl (fun ls hl => ?_)
  refine lv_iload_n hx hb dX1_workBits_30 rfl (lv_at hl 3 rfl) ?_
  have b198 : ∀  (H : Heap) (locs : List Loc) (ls : Array Slot), lv_has ls 8 [(0, .ref fa), (1, .int v0), (2, .int v1), (3, .ref fb)] → va_P D vwCl [(fa, .inr (1, [.int x_fa_0, .long x_fa_1, .long x_fa_2, .long x_fa_3, .long x_fa_4])), (fb, .inr (1, [.int x_fb_0, .long x_fb_1, .long x_fb_2, .long x_fb_3, .long x_fb_4]))] H → va_D A [(fa, .inr (1, [.int x_fa_0, .long x_fa_1, .long x_fa_2, .long x_fa_3, .long x_fa_4])), (fb, .inr (1, [.int x_fb_0, .long x_fb_1, .long x_fb_2, .long x_fb_3, .long x_fb_4]))] → va_S A s.heap H locs → W p l e ({ frames := 3, cells := 0, slots := 0, locals := 67 }) s m [.ref fa, .int v0, .int v1, .ref fb].toArray below meth c H locs 0 0 Q (F0 m 198 ls []) := by
    intro  H locs ls  hl hP hD hS
    refine lv_aload_n hx hb dX1_workBits_198 rfl (lv_at hl 0 rfl) ?_
    refine lv_iload_n hx hb dX1_workBits_199 rfl (lv_at hl 1 rfl) ?_
    refine lv_iload_n hx hb dX1_workBits_200 rfl (lv_at hl 2 rfl) ?_
    refine lv_aload_n hx hb dX1_workBits_201 rfl (lv_at hl 3 rfl) ?_
    refine go_v (k1 := 0) (n1 := 0) (wr := []) [0, 1] [] (rn_V (As := [.int v0, .int v1, .ref fb]) (rest := []) (c_X1_shiftBits l D ct fa v0 v1 fb x_fa_0 x_fa_1 x_fa_2 x_fa_3 x_fa_4 x_fb_0 x_fb_1 x_fb_2 x_fb_3 x_fb_4 h_v1 _) (cb_of (n := 3) hn mw_1124 mw_12 mw_1121 mhX1_shiftBits ⟨(Nat.le_of_ble_eq_true rfl), (Nat.le_of_ble_eq_true rfl)⟩) hx hb hml hown hn hK hZ hS mw_1123 mw_s117 (ci := 1) (q0 := 0) rfl rfl rfl rfl hl.1 (Nat.le_of_ble_eq_true rfl) dX1_workBits_202 ⟨(Nat.le_of_ble_eq_true rfl), (Nat.le_of_ble_eq_true rfl)⟩) hP hD hS hA rfl rfl (by decide) (by decide) (by decide) (Nat.le_of_ble_eq_true rfl) (Nat.le_of_ble_eq_true rfl) (fun u202_2 H locs hp202_3 hP hD hS => ?_)
    obtain ⟨y_fa_3202_4, y_fa_4202_5⟩ := u202_2
    have hP : va_P D vwCl [(fa, .inr (1, [.int x_fa_0, .long x_fa_1, .long x_fa_2, .long y_fa_3202_4, .long y_fa_4202_5])), (fb, .inr (1, [.int x_fb_0, .long x_fb_1, .long x_fb_2, .long x_fb_3, .long x_fb_4]))] _ := hP
    have hD : va_D A [(fa, .inr (1, [.int x_fa_0, .long x_fa_1, .long x_fa_2, .long y_fa_3202_4, .long y_fa_4202_5])), (fb, .inr (1, [.int x_fb_0, .long x_fb_1, .long x_fb_2, .long x_fb_3, .long x_fb_4]))] := hD
    exact endq_v hQ hx hb hr hlocks dX1_workBits_205 (y_fa_3202_4, y_fa_4202_5) trivial hP hD hS [0, 1] rfl (by decide) rfl (Nat.le_of_ble_eq_true rfl) (Nat.le_of_ble_eq_true rfl)
  by_cases h31_1 : v0.toInt = 0
  · have r31_2 : rg v0 0 0 := rg_at h31_1
    refine lv_tableIn (off := 57) (tgt := 88) hx hb dX1_workBits_31 (by rw [h31_1]; decide) (by rw [h31_1]; decide) (by rw [h31_1]; rfl) (by decide) ?_
    refine lv_aload_n hx hb dX1_workBits_88 rfl (lv_at hl 2 rfl) ?_
    refine lv_aload_n hx hb dX1_workBits_89 rfl (lv_at hl 5 rfl) ?_
    refine go_v (k1 := 0) (n1 := 0) (wr := []) [0, 1] [] (rn_V (As := [.ref fb]) (rest := []) (c_X1_addBits l D ct fa fb x_fa_0 x_fa_1 x_fa_2 x_fa_3 x_fa_4 x_fb_0 x_fb_1 x_fb_2 x_fb_3 x_fb_4  _) (cb_of (n := 1) hn mw_1116 mw_12 mw_1113 mhX1_addBits ⟨(Nat.le_of_ble_eq_true rfl), (Nat.le_of_ble_eq_true rfl)⟩) hx hb hml hown hn hK hZ hS mw_1115 mw_s115 (ci := 1) (q0 := 0) rfl rfl rfl rfl hl.1 (Nat.le_of_ble_eq_true rfl) dX1_workBits_90 ⟨(Nat.le_of_ble_eq_true rfl), (Nat.le_of_ble_eq_true rfl)⟩) hP hD hS hA rfl rfl (by decide) (by decide) (by decide) (Nat.le_of_ble_eq_true rfl) (Nat.le_of_ble_eq_true rfl) (fun u90_2 H locs hp90_3 hP hD hS => ?_)
    obtain ⟨y_fa_390_4, y_fa_490_5⟩ := u90_2
    have hP : va_P D vwCl [(fa, .inr (1, [.int x_fa_0, .long x_fa_1, .long x_fa_2, .long y_fa_390_4, .long y_fa_490_5])), (fb, .inr (1, [.int x_fb_0, .long x_fb_1, .long x_fb_2, .long x_fb_3, .long x_fb_4]))] _ := hP
    have hD : va_D A [(fa, .inr (1, [.int x_fa_0, .long x_fa_1, .long x_fa_2, .long y_fa_390_4, .long y_fa_490_5])), (fb, .inr (1, [.int x_fb_0, .long x_fb_1, .long x_fb_2, .long x_fb_3, .long x_fb_4]))] := hD
    refine lv_goto (tgt := 205) hx hb dX1_workBits_93 (by decide) ?_
    exact endq_v hQ hx hb hr hlocks dX1_workBits_205 (y_fa_390_4, y_fa_490_5) trivial hP hD hS [0, 1] rfl (by decide) rfl (Nat.le_of_ble_eq_true rfl) (Nat.le_of_ble_eq_true rfl)
  by_cases h205_1 : v0.toInt = 1
  · have r205_2 : rg v0 1 1 := rg_at h205_1
    refine lv_tableIn (off := 65) (tgt := 96) hx hb dX1_workBits_31 (by rw [h205_1]; decide) (by rw [h205_1]; decide) (by rw [h205_1]; rfl) (by decide) ?_
    refine lv_aload_n hx hb dX1_workBits_96 rfl (lv_at hl 2 rfl) ?_
    refine lv_aload_n hx hb dX1_workBits_97 rfl (lv_at hl 5 rfl) ?_
    refine go_v (k1 := 0) (n1 := 0) (wr := []) [0, 1] [] (rn_V (As := [.ref fb]) (rest := []) (c_X1_takeBits l D ct fa fb x_fa_0 x_fa_1 x_fa_2 x_fa_3 x_fa_4 x_fb_0 x_fb_1 x_fb_2 x_fb_3 x_fb_4  _) (cb_of (n := 1) hn mw_1120 mw_12 mw_1117 mhX1_takeBits ⟨(Nat.le_of_ble_eq_true rfl), (Nat.le_of_ble_eq_true rfl)⟩) hx hb hml hown hn hK hZ hS mw_1119 mw_s116 (ci := 1) (q0 := 0) rfl rfl rfl rfl hl.1 (Nat.le_of_ble_eq_true rfl) dX1_workBits_98 ⟨(Nat.le_of_ble_eq_true rfl), (Nat.le_of_ble_eq_true rfl)⟩) hP hD hS hA rfl rfl (by decide) (by decide) (by decide) (Nat.le_of_ble_eq_true rfl) (Nat.le_of_ble_eq_true rfl) (fun u98_2 H locs hp98_3 hP hD hS => ?_)
    obtain ⟨y_fa_398_4, y_fa_498_5⟩ := u98_2
    have hP : va_P D vwCl [(fa, .inr (1, [.int x_fa_0, .long x_fa_1, .long x_fa_2, .long y_fa_398_4, .long y_fa_498_5])), (fb, .inr (1, [.int x_fb_0, .long x_fb_1, .long x_fb_2, .long x_fb_3, .long x_fb_4]))] _ := hP
    have hD : va_D A [(fa, .inr (1, [.int x_fa_0, .long x_fa_1, .long x_fa_2, .long y_fa_398_4, .long y_fa_498_5])), (fb, .inr (1, [.int x_fb_0, .long x_fb_1, .long x_fb_2, .long x_fb_3, .long x_fb_4]))] := hD
    refine lv_goto (tgt := 205) hx hb dX1_workBits_101 (by decide) ?_
    exact endq_v hQ hx hb hr hlocks dX1_workBits_205 (y_fa_398_4, y_fa_498_5) trivial hP hD hS [0, 1] rfl (by decide) rfl (Nat.le_of_ble_eq_true rfl) (Nat.le_of_ble_eq_true rfl)
  by_cases h205_1 : v0.toInt = 2
  · have r205_2 : rg v0 2 2 := rg_at h205_1
    refine lv_tableIn (off := 167) (tgt := 198) hx hb dX1_workBits_31 (by rw [h205_1]; decide) (by rw [h205_1]; decide) (by rw [h205_1]; rfl) (by decide) ?_
    exact b198  H locs ls  (lv_sub hl [2, 3, 4, 5] rfl) hP hD hS
  by_cases h205_3 : v0.toInt = 3
  · have r205_4 : rg v0 3 3 := rg_at h205_3
    refine lv_tableIn (off := 167) (tgt := 198) hx hb dX1_workBits_31 (by rw [h205_3]; decide) (by rw [h205_3]; decide) (by rw [h205_3]; rfl) (by decide) ?_
    exact b198  H locs ls  (lv_sub hl [2, 3, 4, 5] rfl) hP hD hS
  by_cases h205_5 : v0.toInt = 4
  · have r205_6 : rg v0 4 4 := rg_at h205_5
    refine lv_tableIn (off := 73) (tgt := 104) hx hb dX1_workBits_31 (by rw [h205_5]; decide) (by rw [h205_5]; decide) (by rw [h205_5]; rfl) (by decide) ?_
    refine lv_aload_n hx hb dX1_workBits_104 rfl (lv_at hl 2 rfl) ?_
    refine lv_dup hx hb dX1_workBits_105 rfl ?_
    refine va_get (D := D) (ci := 1) (v := .long x_fa_4) (C := RX1) (T := TX1) (N := 5) hx hb (htX1 hn) (fun _ h => h) hown hK hP 0 rfl rfl 4 (by decide) (hn.get mw_325 rfl) (fun _ h9 => h9) rfl dX1_workBits_106 ?_
    refine lv_aload_n hx hb dX1_workBits_109 rfl (lv_at hl 5 rfl) ?_
    refine va_get (D := D) (ci := 1) (v := .long x_fb_4) (C := RX1) (T := TX1) (N := 5) hx hb (htX1 hn) (fun _ h => h) hown hK hP 1 rfl rfl 4 (by decide) (hn.get mw_325 rfl) (fun _ h9 => h9) rfl dX1_workBits_110 ?_
    refine lv_lor hx hb dX1_workBits_113 ?_
    refine lv_topl (fun z113_1 ez113_1 => ?_)
    refine va_put (D := D) (ci := 1) (v := .long z113_1) (ty := .long) (C := RX1) (T := TX1) (N := 5) hx hb (htX1 hn) (fun _ h => h) tyX1 tyX1_ok nmX1 hown hK hP hD hS 0 rfl rfl 4 (by decide) (hn.get mw_325 rfl) (fun _ h9 => h9) rfl (by decide +kernel) rfl rfl (Nat.le_of_ble_eq_true rfl) dX1_workBits_114 (fun H locs hP hD hS => ?_)
    have hP : va_P D vwCl [(fa, .inr (1, [.int x_fa_0, .long x_fa_1, .long x_fa_2, .long x_fa_3, .long z113_1])), (fb, .inr (1, [.int x_fb_0, .long x_fb_1, .long x_fb_2, .long x_fb_3, .long x_fb_4]))] _ := hP
    have hD : va_D A [(fa, .inr (1, [.int x_fa_0, .long x_fa_1, .long x_fa_2, .long x_fa_3, .long z113_1])), (fb, .inr (1, [.int x_fb_0, .long x_fb_1, .long x_fb_2, .long x_fb_3, .long x_fb_4]))] := hD
    refine lv_aload_n hx hb dX1_workBits_117 rfl (lv_at hl 2 rfl) ?_
    refine lv_aload_n hx hb dX1_workBits_118 rfl (lv_at hl 2 rfl) ?_
    refine va_get (D := D) (ci := 1) (v := .long z113_1) (C := RX1) (T := TX1) (N := 5) hx hb (htX1 hn) (fun _ h => h) hown hK hP 0 rfl rfl 4 (by decide) (hn.get mw_325 rfl) (fun _ h9 => h9) rfl dX1_workBits_119 ?_
    refine lv_lload hx hb dX1_workBits_122 (lv_at hl 1 rfl) ?_
    refine lv_lload hx hb dX1_workBits_124 (lv_at hl 0 rfl) ?_
    refine lv_land hx hb dX1_workBits_126 ?_
    refine lv_topl (fun z126_1 ez126_1 => ?_)
    refine lv_lor hx hb dX1_workBits_127 ?_
    refine lv_topl (fun z127_1 ez127_1 => ?_)
    refine va_put (D := D) (ci := 1) (v := .long z127_1) (ty := .long) (C := RX1) (T := TX1) (N := 5) hx hb (htX1 hn) (fun _ h => h) tyX1 tyX1_ok nmX1 hown hK hP hD hS 0 rfl rfl 3 (by decide) (hn.get mw_323 rfl) (fun _ h9 => h9) rfl (by decide +kernel) rfl rfl (Nat.le_of_ble_eq_true rfl) dX1_workBits_128 (fun H locs hP hD hS => ?_)
    have hP : va_P D vwCl [(fa, .inr (1, [.int x_fa_0, .long x_fa_1, .long x_fa_2, .long z127_1, .long z113_1])), (fb, .inr (1, [.int x_fb_0, .long x_fb_1, .long x_fb_2, .long x_fb_3, .long x_fb_4]))] _ := hP
    have hD : va_D A [(fa, .inr (1, [.int x_fa_0, .long x_fa_1, .long x_fa_2, .long z127_1, .long z113_1])), (fb, .inr (1, [.int x_fb_0, .long x_fb_1, .long x_fb_2, .long x_fb_3, .long x_fb_4]))] := hD
    refine lv_goto (tgt := 205) hx hb dX1_workBits_131 (by decide) ?_
    exact endq_v hQ hx hb hr hlocks dX1_workBits_205 (z127_1, z113_1) trivial hP hD hS [0, 1] rfl (by decide) rfl (Nat.le_of_ble_eq_true rfl) (Nat.le_of_ble_eq_true rfl)
  by_cases h205_1 : v0.toInt = 5
  · have r205_2 : rg v0 5 5 := rg_at h205_1
    refine lv_tableIn (off := 103) (tgt := 134) hx hb dX1_workBits_31 (by rw [h205_1]; decide) (by rw [h205_1]; decide) (by rw [h205_1]; rfl) (by decide) ?_
    refine lv_aload_n hx hb dX1_workBits_134 rfl (lv_at hl 2 rfl) ?_
    refine lv_dup hx hb dX1_workBits_135 rfl ?_
    refine va_get (D := D) (ci := 1) (v := .long x_fa_4) (C := RX1) (T := TX1) (N := 5) hx hb (htX1 hn) (fun _ h => h) hown hK hP 0 rfl rfl 4 (by decide) (hn.get mw_325 rfl) (fun _ h9 => h9) rfl dX1_workBits_136 ?_
    refine lv_aload_n hx hb dX1_workBits_139 rfl (lv_at hl 5 rfl) ?_
    refine va_get (D := D) (ci := 1) (v := .long x_fb_4) (C := RX1) (T := TX1) (N := 5) hx hb (htX1 hn) (fun _ h => h) hown hK hP 1 rfl rfl 4 (by decide) (hn.get mw_325 rfl) (fun _ h9 => h9) rfl dX1_workBits_140 ?_
    refine lv_land hx hb dX1_workBits_143 ?_
    refine lv_topl (fun z143_1 ez143_1 => ?_)
    refine va_put (D := D) (ci := 1) (v := .long z143_1) (ty := .long) (C := RX1) (T := TX1) (N := 5) hx hb (htX1 hn) (fun _ h => h) tyX1 tyX1_ok nmX1 hown hK hP hD hS 0 rfl rfl 4 (by decide) (hn.get mw_325 rfl) (fun _ h9 => h9) rfl (by decide +kernel) rfl rfl (Nat.le_of_ble_eq_true rfl) dX1_workBits_144 (fun H locs hP hD hS => ?_)
    have hP : va_P D vwCl [(fa, .inr (1, [.int x_fa_0, .long x_fa_1, .long x_fa_2, .long x_fa_3, .long z143_1])), (fb, .inr (1, [.int x_fb_0, .long x_fb_1, .long x_fb_2, .long x_fb_3, .long x_fb_4]))] _ := hP
    have hD : va_D A [(fa, .inr (1, [.int x_fa_0, .long x_fa_1, .long x_fa_2, .long x_fa_3, .long z143_1])), (fb, .inr (1, [.int x_fb_0, .long x_fb_1, .long x_fb_2, .long x_fb_3, .long x_fb_4]))] := hD
    refine lv_aload_n hx hb dX1_workBits_147 rfl (lv_at hl 2 rfl) ?_
    refine lv_aload_n hx hb dX1_workBits_148 rfl (lv_at hl 2 rfl) ?_
    refine va_get (D := D) (ci := 1) (v := .long z143_1) (C := RX1) (T := TX1) (N := 5) hx hb (htX1 hn) (fun _ h => h) hown hK hP 0 rfl rfl 4 (by decide) (hn.get mw_325 rfl) (fun _ h9 => h9) rfl dX1_workBits_149 ?_
    refine lv_lload hx hb dX1_workBits_152 (lv_at hl 1 rfl) ?_
    refine lv_lor hx hb dX1_workBits_154 ?_
    refine lv_topl (fun z154_1 ez154_1 => ?_)
    refine lv_lload hx hb dX1_workBits_155 (lv_at hl 0 rfl) ?_
    refine lv_lor hx hb dX1_workBits_157 ?_
    refine lv_topl (fun z157_1 ez157_1 => ?_)
    refine va_put (D := D) (ci := 1) (v := .long z157_1) (ty := .long) (C := RX1) (T := TX1) (N := 5) hx hb (htX1 hn) (fun _ h => h) tyX1 tyX1_ok nmX1 hown hK hP hD hS 0 rfl rfl 3 (by decide) (hn.get mw_323 rfl) (fun _ h9 => h9) rfl (by decide +kernel) rfl rfl (Nat.le_of_ble_eq_true rfl) dX1_workBits_158 (fun H locs hP hD hS => ?_)
    have hP : va_P D vwCl [(fa, .inr (1, [.int x_fa_0, .long x_fa_1, .long x_fa_2, .long z157_1, .long z143_1])), (fb, .inr (1, [.int x_fb_0, .long x_fb_1, .long x_fb_2, .long x_fb_3, .long x_fb_4]))] _ := hP
    have hD : va_D A [(fa, .inr (1, [.int x_fa_0, .long x_fa_1, .long x_fa_2, .long z157_1, .long z143_1])), (fb, .inr (1, [.int x_fb_0, .long x_fb_1, .long x_fb_2, .long x_fb_3, .long x_fb_4]))] := hD
    refine lv_goto (tgt := 205) hx hb dX1_workBits_161 (by decide) ?_
    exact endq_v hQ hx hb hr hlocks dX1_workBits_205 (z157_1, z143_1) trivial hP hD hS [0, 1] rfl (by decide) rfl (Nat.le_of_ble_eq_true rfl) (Nat.le_of_ble_eq_true rfl)
  by_cases h205_1 : v0.toInt = 6
  · have r205_2 : rg v0 6 6 := rg_at h205_1
    refine lv_tableIn (off := 167) (tgt := 198) hx hb dX1_workBits_31 (by rw [h205_1]; decide) (by rw [h205_1]; decide) (by rw [h205_1]; rfl) (by decide) ?_
    exact b198  H locs ls  (lv_sub hl [2, 3, 4, 5] rfl) hP hD hS
  by_cases h205_3 : v0.toInt = 7
  · have r205_4 : rg v0 7 7 := rg_at h205_3
    refine lv_tableIn (off := 167) (tgt := 198) hx hb dX1_workBits_31 (by rw [h205_3]; decide) (by rw [h205_3]; decide) (by rw [h205_3]; rfl) (by decide) ?_
    exact b198  H locs ls  (lv_sub hl [2, 3, 4, 5] rfl) hP hD hS
  by_cases h205_5 : v0.toInt = 8
  · have r205_6 : rg v0 8 8 := rg_at h205_5
    refine lv_tableIn (off := 167) (tgt := 198) hx hb dX1_workBits_31 (by rw [h205_5]; decide) (by rw [h205_5]; decide) (by rw [h205_5]; rfl) (by decide) ?_
    exact b198  H locs ls  (lv_sub hl [2, 3, 4, 5] rfl) hP hD hS
  by_cases h205_7 : v0.toInt = 9
  · have r205_8 : rg v0 9 9 := rg_at h205_7
    refine lv_tableIn (off := 167) (tgt := 198) hx hb dX1_workBits_31 (by rw [h205_7]; decide) (by rw [h205_7]; decide) (by rw [h205_7]; rfl) (by decide) ?_
    exact b198  H locs ls  (lv_sub hl [2, 3, 4, 5] rfl) hP hD hS
  by_cases h205_9 : v0.toInt = 10
  · have r205_10 : rg v0 10 10 := rg_at h205_9
    refine lv_tableIn (off := 133) (tgt := 164) hx hb dX1_workBits_31 (by rw [h205_9]; decide) (by rw [h205_9]; decide) (by rw [h205_9]; rfl) (by decide) ?_
    refine lv_aload_n hx hb dX1_workBits_164 rfl (lv_at hl 2 rfl) ?_
    refine lv_dup hx hb dX1_workBits_165 rfl ?_
    refine va_get (D := D) (ci := 1) (v := .long x_fa_3) (C := RX1) (T := TX1) (N := 5) hx hb (htX1 hn) (fun _ h => h) hown hK hP 0 rfl rfl 3 (by decide) (hn.get mw_323 rfl) (fun _ h9 => h9) rfl dX1_workBits_166 ?_
    refine lv_aload_n hx hb dX1_workBits_169 rfl (lv_at hl 5 rfl) ?_
    refine va_get (D := D) (ci := 1) (v := .long x_fb_3) (C := RX1) (T := TX1) (N := 5) hx hb (htX1 hn) (fun _ h => h) hown hK hP 1 rfl rfl 3 (by decide) (hn.get mw_323 rfl) (fun _ h9 => h9) rfl dX1_workBits_170 ?_
    refine lv_land hx hb dX1_workBits_173 ?_
    refine lv_topl (fun z173_1 ez173_1 => ?_)
    refine va_put (D := D) (ci := 1) (v := .long z173_1) (ty := .long) (C := RX1) (T := TX1) (N := 5) hx hb (htX1 hn) (fun _ h => h) tyX1 tyX1_ok nmX1 hown hK hP hD hS 0 rfl rfl 3 (by decide) (hn.get mw_323 rfl) (fun _ h9 => h9) rfl (by decide +kernel) rfl rfl (Nat.le_of_ble_eq_true rfl) dX1_workBits_174 (fun H locs hP hD hS => ?_)
    have hP : va_P D vwCl [(fa, .inr (1, [.int x_fa_0, .long x_fa_1, .long x_fa_2, .long z173_1, .long x_fa_4])), (fb, .inr (1, [.int x_fb_0, .long x_fb_1, .long x_fb_2, .long x_fb_3, .long x_fb_4]))] _ := hP
    have hD : va_D A [(fa, .inr (1, [.int x_fa_0, .long x_fa_1, .long x_fa_2, .long z173_1, .long x_fa_4])), (fb, .inr (1, [.int x_fb_0, .long x_fb_1, .long x_fb_2, .long x_fb_3, .long x_fb_4]))] := hD
    refine lv_aload_n hx hb dX1_workBits_177 rfl (lv_at hl 2 rfl) ?_
    refine lv_aload_n hx hb dX1_workBits_178 rfl (lv_at hl 2 rfl) ?_
    refine va_get (D := D) (ci := 1) (v := .long x_fa_4) (C := RX1) (T := TX1) (N := 5) hx hb (htX1 hn) (fun _ h => h) hown hK hP 0 rfl rfl 4 (by decide) (hn.get mw_325 rfl) (fun _ h9 => h9) rfl dX1_workBits_179 ?_
    refine lv_aload_n hx hb dX1_workBits_182 rfl (lv_at hl 5 rfl) ?_
    refine va_get (D := D) (ci := 1) (v := .long x_fb_4) (C := RX1) (T := TX1) (N := 5) hx hb (htX1 hn) (fun _ h => h) hown hK hP 1 rfl rfl 4 (by decide) (hn.get mw_325 rfl) (fun _ h9 => h9) rfl dX1_workBits_183 ?_
    refine lv_lxor hx hb dX1_workBits_186 ?_
    refine lv_topl (fun z186_1 ez186_1 => ?_)
    refine lv_aload_n hx hb dX1_workBits_187 rfl (lv_at hl 2 rfl) ?_
    refine va_get (D := D) (ci := 1) (v := .long z173_1) (C := RX1) (T := TX1) (N := 5) hx hb (htX1 hn) (fun _ h => h) hown hK hP 0 rfl rfl 3 (by decide) (hn.get mw_323 rfl) (fun _ h9 => h9) rfl dX1_workBits_188 ?_
    refine lv_land hx hb dX1_workBits_191 ?_
    refine lv_topl (fun z191_1 ez191_1 => ?_)
    refine va_put (D := D) (ci := 1) (v := .long z191_1) (ty := .long) (C := RX1) (T := TX1) (N := 5) hx hb (htX1 hn) (fun _ h => h) tyX1 tyX1_ok nmX1 hown hK hP hD hS 0 rfl rfl 4 (by decide) (hn.get mw_325 rfl) (fun _ h9 => h9) rfl (by decide +kernel) rfl rfl (Nat.le_of_ble_eq_true rfl) dX1_workBits_192 (fun H locs hP hD hS => ?_)
    have hP : va_P D vwCl [(fa, .inr (1, [.int x_fa_0, .long x_fa_1, .long x_fa_2, .long z173_1, .long z191_1])), (fb, .inr (1, [.int x_fb_0, .long x_fb_1, .long x_fb_2, .long x_fb_3, .long x_fb_4]))] _ := hP
    have hD : va_D A [(fa, .inr (1, [.int x_fa_0, .long x_fa_1, .long x_fa_2, .long z173_1, .long z191_1])), (fb, .inr (1, [.int x_fb_0, .long x_fb_1, .long x_fb_2, .long x_fb_3, .long x_fb_4]))] := hD
    refine lv_goto (tgt := 205) hx hb dX1_workBits_195 (by decide) ?_
    exact endq_v hQ hx hb hr hlocks dX1_workBits_205 (z173_1, z191_1) trivial hP hD hS [0, 1] rfl (by decide) rfl (Nat.le_of_ble_eq_true rfl) (Nat.le_of_ble_eq_true rfl)
  refine lv_tableOut (tgt := 198) hx hb dX1_workBits_31 (by have q0 := (rg_any v0); have q1 := q0.1; have q2 := q0.2; omega) (by decide) ?_
  exact b198  H locs ls  (lv_sub hl [2, 3, 4, 5] rfl) hP hD hS
set_option maxHeartbeats 2000000 in
theorem c_X11_quotient (l : Launch) (D : va_G) (ct : Nat → ClassId) (v0 : Int64) (v1 : Int64)  : KL (S := Unit) l yX11_quotient cX11_quotient 9 (some .long) 1 20 D ct [.long v0, .long v1] [] 0 0 (fun (r : Int64) (_ : Unit) => True) (fun (_ : Unit) => []) := by
  refine KLq_of (by decide) (Nat.le_of_ble_eq_true rfl) (fun p e s m below meth c A Q C0 hA hS hP hD hQ ls hl => ?_)
  obtain ⟨hx, hb, hr, hown, hin, hml, hlocks, hn, hK, hZ⟩ := C0
  have hl : lv_has ls 9 [(0, .long v0), (2, .long v1)] := hl
  refine lv_lload_n hx hb dX11_quotient_0 rfl (lv_at hl 1 rfl) ?_
  refine lv_lconst (v := 0) hx hb dX11_quotient_1 (by decide) ?_
  refine W.lcmp hx hb dX11_quotient_2 ?_
  refine lv_topi (fun z2_1 ez2_1 => ?_)
  refine lv_if_ne (tgt := 8) hx hb dX11_quotient_3 (by decide) (fun c3_1 => ?_) (fun c3_1 => ?_)
  · have t3_2 := (l_ne ez2_1 c3_1)
    refine lv_lload_n hx hb dX11_quotient_8 rfl (lv_at hl 0 rfl) ?_
    refine lv_ldc2 (v := (-9223372036854775808)) hx hb hown (hn.get mw_1041 rfl) dX11_quotient_9 ?_
    refine lv_ladd hx hb dX11_quotient_12 ?_
    refine lv_topl (fun z12_1 ez12_1 => ?_)
    refine lv_lload_n hx hb dX11_quotient_13 rfl (lv_at hl 1 rfl) ?_
    refine lv_ldc2 (v := (-9223372036854775808)) hx hb hown (hn.get mw_1041 rfl) dX11_quotient_14 ?_
    refine lv_ladd hx hb dX11_quotient_17 ?_
    refine lv_topl (fun z17_1 ez17_1 => ?_)
    refine W.lcmp hx hb dX11_quotient_18 ?_
    refine lv_topi (fun z18_1 ez18_1 => ?_)
    have b27 : ∀ (j27_s0 : Int32) (H : Heap) (locs : List Loc) (ls : Array Slot), rg j27_s0 0 1 → lv_has ls 9 [(0, .long v0), (2, .long v1)] → va_P D vwCl [] H → va_D A [] → va_S A s.heap H locs → W p l e ({ frames := 1, cells := 0, slots := 0, locals := 20 }) s m [.long v0, .long v1].toArray below meth c H locs 0 0 Q (F0 m 27 ls [.int j27_s0]) := by
      intro j27_s0 H locs ls r27_1001 hl hP hD hS
      refine lv_istore (lv' := [(4, .int j27_s0), (0, .long v0), (2, .long v1)]) hx hb dX11_quotient_27 hl (by decide) rfl (fun ls hl => ?_)
      refine lv_lload_n hx hb dX11_quotient_29 rfl (lv_at hl 2 rfl) ?_
      refine lv_lconst (v := 0) hx hb dX11_quotient_30 (by decide) ?_
      refine W.lcmp hx hb dX11_quotient_31 ?_
      refine lv_topi (fun z31_1 ez31_1 => ?_)
      refine lv_if_ge (tgt := 46) hx hb dX11_quotient_32 (by decide) (fun c32_1 => ?_) (fun c32_1 => ?_)
      · have t32_2 := (l_ge ez31_1 c32_1)
        have r32_3 : rl v1 0 9223372036854775807 := rl_leB t32_2 (show rl (0 : Int64) 0 0 from (rl_l (by decide))) (rl_any v1) (by decide)
        refine lv_lload_n hx hb dX11_quotient_46 rfl (lv_at hl 1 rfl) ?_
        refine lv_lconst (v := 0) hx hb dX11_quotient_47 (by decide) ?_
        refine W.lcmp hx hb dX11_quotient_48 ?_
        refine lv_topi (fun z48_1 ez48_1 => ?_)
        refine lv_if_lt (tgt := 56) hx hb dX11_quotient_49 (by decide) (fun c49_1 => ?_) (fun c49_1 => ?_)
        · have t49_2 := (l_lt ez48_1 c49_1)
          have r49_3 : rl v0 (-9223372036854775808) (-1) := rl_ltA t49_2 (rl_any v0) (show rl (0 : Int64) 0 0 from (rl_l (by decide))) (by decide)
          refine lv_lload_n hx hb dX11_quotient_56 rfl (lv_at hl 1 rfl) ?_
          refine lv_iconst (v := 1) hx hb dX11_quotient_57 (by decide) ?_
          refine lv_lushr hx hb dX11_quotient_58 rfl ?_
          refine lv_topl (fun z58_1 ez58_1 => ?_)
          refine lv_lload_n hx hb dX11_quotient_59 rfl (lv_at hl 2 rfl) ?_
          refine lv_ldiv hx hb dX11_quotient_60 (rl_nz (show v1.toInt ≠ 0 by have q0 := r32_3.1; have q1 := r32_3.2; have q2 := t3_2; have q4 := t32_2; have q6 := (show rl (0 : Int64) 0 0 from (rl_l (by decide))).1; have q7 := (show rl (0 : Int64) 0 0 from (rl_l (by decide))).2; have q8 := t49_2; have q10 := r49_3.1; have q11 := r49_3.2; omega)) ?_
          refine lv_topl (fun z60_1 ez60_1 => ?_)
          refine lv_iconst (v := 1) hx hb dX11_quotient_61 (by decide) ?_
          refine lv_lshl hx hb dX11_quotient_62 rfl ?_
          refine lv_topl (fun z62_1 ez62_1 => ?_)
          refine lv_lstore (lv' := [(5, .long z62_1), (4, .int j27_s0), (0, .long v0), (2, .long v1)]) hx hb dX11_quotient_63 hl (by decide) rfl (fun ls hl => ?_)
          refine lv_lload_n hx hb dX11_quotient_65 rfl (lv_at hl 2 rfl) ?_
          refine lv_lload hx hb dX11_quotient_66 (lv_at hl 0 rfl) ?_
          refine lv_lload_n hx hb dX11_quotient_68 rfl (lv_at hl 3 rfl) ?_
          refine lv_lmul hx hb dX11_quotient_69 ?_
          refine lv_topl (fun z69_1 ez69_1 => ?_)
          refine lv_lsub hx hb dX11_quotient_70 ?_
          refine lv_topl (fun z70_1 ez70_1 => ?_)
          refine lv_lstore (lv' := [(7, .long z70_1), (5, .long z62_1), (4, .int j27_s0), (0, .long v0), (2, .long v1)]) hx hb dX11_quotient_71 hl (by decide) rfl (fun ls hl => ?_)
          refine lv_lload hx hb dX11_quotient_73 (lv_at hl 0 rfl) ?_
          refine lv_ldc2 (v := (-9223372036854775808)) hx hb hown (hn.get mw_1041 rfl) dX11_quotient_75 ?_
          refine lv_ladd hx hb dX11_quotient_78 ?_
          refine lv_topl (fun z78_1 ez78_1 => ?_)
          refine lv_lload_n hx hb dX11_quotient_79 rfl (lv_at hl 4 rfl) ?_
          refine lv_ldc2 (v := (-9223372036854775808)) hx hb hown (hn.get mw_1041 rfl) dX11_quotient_80 ?_
          refine lv_ladd hx hb dX11_quotient_83 ?_
          refine lv_topl (fun z83_1 ez83_1 => ?_)
          have r83_2 : rl z83_1 (-9223372036854775808) (-1) := rgL_add ez83_1 r32_3 (rl_l (by decide)) (by decide)
          refine W.lcmp hx hb dX11_quotient_84 ?_
          refine lv_topi (fun z84_1 ez84_1 => ?_)
          refine lv_if_ge (tgt := 93) hx hb dX11_quotient_85 (by decide) (fun c85_1 => ?_) (fun c85_1 => ?_)
          · have t85_2 := (l_ge ez84_1 c85_1)
            refine lv_lload hx hb dX11_quotient_93 (lv_at hl 1 rfl) ?_
            refine lv_lconst (v := 1) hx hb dX11_quotient_95 (by decide) ?_
            refine lv_ladd hx hb dX11_quotient_96 ?_
            refine lv_topl (fun z96_1 ez96_1 => ?_)
            exact endq_l hQ hx hb hr hlocks dX11_quotient_97 () trivial hP hD hS [] rfl (by decide) rfl (Nat.le_of_ble_eq_true rfl) (Nat.le_of_ble_eq_true rfl)
          · have t97_1 := (l_nge ez84_1 c85_1)
            have r97_2 : rl z78_1 (-9223372036854775808) (-2) := rl_ltA t97_1 (rl_any z78_1) r83_2 (by decide)
            have r97_3 : rl z83_1 (-9223372036854775807) (-1) := rl_ltB t97_1 (rl_any z78_1) r83_2 (by decide)
            refine lv_lload hx hb dX11_quotient_88 (lv_at hl 1 rfl) ?_
            refine lv_goto (tgt := 97) hx hb dX11_quotient_90 (by decide) ?_
            exact endq_l hQ hx hb hr hlocks dX11_quotient_97 () trivial hP hD hS [] rfl (by decide) rfl (Nat.le_of_ble_eq_true rfl) (Nat.le_of_ble_eq_true rfl)
        · have t97_1 := (l_nlt ez48_1 c49_1)
          have r97_2 : rl v0 0 9223372036854775807 := rl_leB t97_1 (show rl (0 : Int64) 0 0 from (rl_l (by decide))) (rl_any v0) (by decide)
          refine lv_lload_n hx hb dX11_quotient_52 rfl (lv_at hl 1 rfl) ?_
          refine lv_lload_n hx hb dX11_quotient_53 rfl (lv_at hl 2 rfl) ?_
          refine lv_ldiv hx hb dX11_quotient_54 (rl_nz (show v1.toInt ≠ 0 by have q0 := r32_3.1; have q1 := r32_3.2; have q2 := t3_2; have q4 := t32_2; have q6 := (show rl (0 : Int64) 0 0 from (rl_l (by decide))).1; have q7 := (show rl (0 : Int64) 0 0 from (rl_l (by decide))).2; have q8 := t97_1; have q10 := r97_2.1; have q11 := r97_2.2; omega)) ?_
          refine lv_topl (fun z54_1 ez54_1 => ?_)
          exact endq_l hQ hx hb hr hlocks dX11_quotient_55 () trivial hP hD hS [] rfl (by decide) rfl (Nat.le_of_ble_eq_true rfl) (Nat.le_of_ble_eq_true rfl)
      · have t55_1 := (l_nge ez31_1 c32_1)
        have r55_2 : rl v1 (-9223372036854775808) (-1) := rl_ltA t55_1 (rl_any v1) (show rl (0 : Int64) 0 0 from (rl_l (by decide))) (by decide)
        refine lv_iload hx hb dX11_quotient_35 (lv_at hl 0 rfl) ?_
        refine lv_if_eq (tgt := 44) hx hb dX11_quotient_37 (by decide) (fun c37_1 => ?_) (fun c37_1 => ?_)
        · have t37_2 := (i_eq c37_1)
          have r37_3 : rg j27_s0 0 0 := rg_eqA t37_2 r27_1001 (show rg (0 : Int32) 0 0 from (rg_l (by decide))) (by decide)
          refine lv_lconst (v := 1) hx hb dX11_quotient_44 (by decide) ?_
          exact endq_l hQ hx hb hr hlocks dX11_quotient_45 () trivial hP hD hS [] rfl (by decide) rfl (Nat.le_of_ble_eq_true rfl) (Nat.le_of_ble_eq_true rfl)
        · have t45_1 := (i_ne c37_1)
          have r45_2 : rg j27_s0 1 1 := rg_neAl t45_1 r27_1001 (show rg (0 : Int32) 0 0 from (rg_l (by decide))) (by decide)
          refine lv_lconst (v := 0) hx hb dX11_quotient_40 (by decide) ?_
          refine lv_goto (tgt := 45) hx hb dX11_quotient_41 (by decide) ?_
          exact endq_l hQ hx hb hr hlocks dX11_quotient_45 () trivial hP hD hS [] rfl (by decide) rfl (Nat.le_of_ble_eq_true rfl) (Nat.le_of_ble_eq_true rfl)
    refine lv_if_ge (tgt := 26) hx hb dX11_quotient_19 (by decide) (fun c19_1 => ?_) (fun c19_1 => ?_)
    · have t19_2 := (l_ge ez18_1 c19_1)
      refine lv_iconst (v := 0) hx hb dX11_quotient_26 (by decide) ?_
      exact b27 (0 : Int32) H locs ls (rg_w (rg_l (by decide)) (by decide)) (lv_sub hl [0, 1] rfl) hP hD hS
    · have t26_1 := (l_nge ez18_1 c19_1)
      have r26_2 : rl z12_1 (-9223372036854775808) 9223372036854775806 := rl_ltA t26_1 (rl_any z12_1) (rl_any z17_1) (by decide)
      have r26_3 : rl z17_1 (-9223372036854775807) 9223372036854775807 := rl_ltB t26_1 (rl_any z12_1) (rl_any z17_1) (by decide)
      refine lv_iconst (v := 1) hx hb dX11_quotient_22 (by decide) ?_
      refine lv_goto (tgt := 27) hx hb dX11_quotient_23 (by decide) ?_
      exact b27 (1 : Int32) H locs ls (rg_w (rg_l (by decide)) (by decide)) (lv_sub hl [0, 1] rfl) hP hD hS
  · have t23_1 := (l_nne ez2_1 c3_1)
    have r23_2 : rl v1 0 0 := rl_eqA t23_1 (rl_any v1) (show rl (0 : Int64) 0 0 from (rl_l (by decide))) (by decide)
    refine lv_lconst (v := 0) hx hb dX11_quotient_6 (by decide) ?_
    exact endq_l hQ hx hb hr hlocks dX11_quotient_7 () trivial hP hD hS [] rfl (by decide) rfl (Nat.le_of_ble_eq_true rfl) (Nat.le_of_ble_eq_true rfl)
set_option maxHeartbeats 2000000 in
theorem c_X11_worked (l : Launch) (D : va_G) (ct : Nat → ClassId) (v0 : Int32) (v1 : Int32) (v2 : Int64) (v3 : Int64) (h_v1 : rg v1 0 1) : KL (S := Unit) l yX11_worked cX11_worked 13 (some .long) 2 48 D ct [.int v0, .int v1, .long v2, .long v3] [] 0 0 (fun (r : Int64) (_ : Unit) => True) (fun (_ : Unit) => []) := by
  refine KLq_of (by decide) (Nat.le_of_ble_eq_true rfl) (fun p e s m below meth c A Q C0 hA hS hP hD hQ ls hl => ?_)
  obtain ⟨hx, hb, hr, hown, hin, hml, hlocks, hn, hK, hZ⟩ := C0
  have hl : lv_has ls 13 [(0, .int v0), (1, .int v1), (2, .long v2), (4, .long v3)] := hl
  refine lv_iload_n hx hb dX11_worked_0 rfl (lv_at hl 1 rfl) ?_
  have b13 : ∀ (j13_s0 : Int64) (H : Heap) (locs : List Loc) (ls : Array Slot), lv_has ls 13 [(0, .int v0), (1, .int v1), (4, .long v3)] → va_P D vwCl [] H → va_D A [] → va_S A s.heap H locs → W p l e ({ frames := 2, cells := 0, slots := 0, locals := 48 }) s m [.int v0, .int v1, .long v2, .long v3].toArray below meth c H locs 0 0 Q (F0 m 13 ls [.long j13_s0]) := by
    intro j13_s0 H locs ls  hl hP hD hS
    refine lv_lstore (lv' := [(6, .long j13_s0), (0, .int v0), (1, .int v1), (4, .long v3)]) hx hb dX11_worked_13 hl (by decide) rfl (fun ls hl => ?_)
    refine lv_iload_n hx hb dX11_worked_15 rfl (lv_at hl 2 rfl) ?_
    have b30 : ∀ (j30_s0 : Int64) (H : Heap) (locs : List Loc) (ls : Array Slot), lv_has ls 13 [(0, .int v0), (1, .int v1), (6, .long j13_s0)] → va_P D vwCl [] H → va_D A [] → va_S A s.heap H locs → W p l e ({ frames := 2, cells := 0, slots := 0, locals := 48 }) s m [.int v0, .int v1, .long v2, .long v3].toArray below meth c H locs 0 0 Q (F0 m 30 ls [.long j30_s0]) := by
      intro j30_s0 H locs ls  hl hP hD hS
      refine lv_lstore (lv' := [(8, .long j30_s0), (0, .int v0), (1, .int v1), (6, .long j13_s0)]) hx hb dX11_worked_30 hl (by decide) rfl (fun ls hl => ?_)
      refine lv_lload hx hb dX11_worked_32 (lv_at hl 0 rfl) ?_
      refine lv_iload_n hx hb dX11_worked_34 rfl (lv_at hl 2 rfl) ?_
      have b45 : ∀ (j45_s0 : Int32) (H : Heap) (locs : List Loc) (ls : Array Slot), rg j45_s0 31 63 → lv_has ls 13 [(0, .int v0), (1, .int v1), (6, .long j13_s0), (8, .long j30_s0)] → va_P D vwCl [] H → va_D A [] → va_S A s.heap H locs → W p l e ({ frames := 2, cells := 0, slots := 0, locals := 48 }) s m [.int v0, .int v1, .long v2, .long v3].toArray below meth c H locs 0 0 Q (F0 m 45 ls [.int j45_s0, .long j30_s0]) := by
        intro j45_s0 H locs ls r45_1001 hl hP hD hS
        refine lv_i2l hx hb dX11_worked_45 rfl ?_
        refine lv_topl (fun z45_1 ez45_1 => ?_)
        have r45_2 : rl z45_1 31 63 := rl_i2l ez45_1 r45_1001
        refine lv_land hx hb dX11_worked_46 ?_
        refine lv_topl (fun z46_1 ez46_1 => ?_)
        have r46_2 : rl z46_1 0 63 := rgL_andr ez46_1 r45_2 (by decide)
        refine lv_l2i hx hb dX11_worked_47 rfl ?_
        refine lv_topi (fun z47_1 ez47_1 => ?_)
        have r47_2 : rg z47_1 0 63 := rg_l2i ez47_1 r46_2 (by decide)
        refine lv_istore (lv' := [(10, .int z47_1), (0, .int v0), (1, .int v1), (6, .long j13_s0), (8, .long j30_s0)]) hx hb dX11_worked_48 hl (by decide) rfl (fun ls hl => ?_)
        refine lv_iload_n hx hb dX11_worked_50 rfl (lv_at hl 1 rfl) ?_
        have b280 : ∀ (j280_l11 : Int64) (H : Heap) (locs : List Loc) (ls : Array Slot), lv_has ls 13 [(1, .int v1), (11, .long j280_l11)] → va_P D vwCl [] H → va_D A [] → va_S A s.heap H locs → W p l e ({ frames := 2, cells := 0, slots := 0, locals := 48 }) s m [.int v0, .int v1, .long v2, .long v3].toArray below meth c H locs 0 0 Q (F0 m 280 ls []) := by
          intro j280_l11 H locs ls  hl hP hD hS
          refine lv_iload_n hx hb dX11_worked_280 rfl (lv_at hl 0 rfl) ?_
          refine lv_if_eq (tgt := 289) hx hb dX11_worked_281 (by decide) (fun c281_1 => ?_) (fun c281_1 => ?_)
          · have t281_2 := (i_eq c281_1)
            have r281_3 : rg v1 0 0 := rg_eqA t281_2 h_v1 (show rg (0 : Int32) 0 0 from (rg_l (by decide))) (by decide)
            refine lv_lload hx hb dX11_worked_289 (lv_at hl 1 rfl) ?_
            refine lv_ldc2 (v := 4294967295) hx hb hown (hn.get mw_1105 rfl) dX11_worked_291 ?_
            refine lv_land hx hb dX11_worked_294 ?_
            refine lv_topl (fun z294_1 ez294_1 => ?_)
            have r294_2 : rl z294_1 0 4294967295 := rgL_andr ez294_1 (rl_l (by decide)) (by decide)
            exact endq_l hQ hx hb hr hlocks dX11_worked_295 () trivial hP hD hS [] rfl (by decide) rfl (Nat.le_of_ble_eq_true rfl) (Nat.le_of_ble_eq_true rfl)
          · have t295_1 := (i_ne c281_1)
            have r295_2 : rg v1 1 1 := rg_neAl t295_1 h_v1 (show rg (0 : Int32) 0 0 from (rg_l (by decide))) (by decide)
            refine lv_lload hx hb dX11_worked_284 (lv_at hl 1 rfl) ?_
            refine lv_goto (tgt := 295) hx hb dX11_worked_286 (by decide) ?_
            exact endq_l hQ hx hb hr hlocks dX11_worked_295 () trivial hP hD hS [] rfl (by decide) rfl (Nat.le_of_ble_eq_true rfl) (Nat.le_of_ble_eq_true rfl)
        by_cases h51_1 : v0.toInt = 0
        · have r51_2 : rg v0 0 0 := rg_at h51_1
          refine lv_tableIn (off := 65) (tgt := 116) hx hb dX11_worked_51 (by rw [h51_1]; decide) (by rw [h51_1]; decide) (by rw [h51_1]; rfl) (by decide) ?_
          refine lv_lload hx hb dX11_worked_116 (lv_at hl 3 rfl) ?_
          refine lv_lload hx hb dX11_worked_118 (lv_at hl 4 rfl) ?_
          refine lv_ladd hx hb dX11_worked_120 ?_
          refine lv_topl (fun z120_1 ez120_1 => ?_)
          refine lv_lstore (lv' := [(11, .long z120_1), (10, .int z47_1), (0, .int v0), (1, .int v1), (6, .long j13_s0), (8, .long j30_s0)]) hx hb dX11_worked_121 hl (by decide) rfl (fun ls hl => ?_)
          refine lv_goto (tgt := 280) hx hb dX11_worked_123 (by decide) ?_
          exact b280 z120_1 H locs ls  (lv_sub hl [3, 0] rfl) hP hD hS
        by_cases h123_1 : v0.toInt = 1
        · have r123_2 : rg v0 1 1 := rg_at h123_1
          refine lv_tableIn (off := 75) (tgt := 126) hx hb dX11_worked_51 (by rw [h123_1]; decide) (by rw [h123_1]; decide) (by rw [h123_1]; rfl) (by decide) ?_
          refine lv_lload hx hb dX11_worked_126 (lv_at hl 3 rfl) ?_
          refine lv_lload hx hb dX11_worked_128 (lv_at hl 4 rfl) ?_
          refine lv_lsub hx hb dX11_worked_130 ?_
          refine lv_topl (fun z130_1 ez130_1 => ?_)
          refine lv_lstore (lv' := [(11, .long z130_1), (10, .int z47_1), (0, .int v0), (1, .int v1), (6, .long j13_s0), (8, .long j30_s0)]) hx hb dX11_worked_131 hl (by decide) rfl (fun ls hl => ?_)
          refine lv_goto (tgt := 280) hx hb dX11_worked_133 (by decide) ?_
          exact b280 z130_1 H locs ls  (lv_sub hl [3, 0] rfl) hP hD hS
        by_cases h133_1 : v0.toInt = 2
        · have r133_2 : rg v0 2 2 := rg_at h133_1
          refine lv_tableIn (off := 85) (tgt := 136) hx hb dX11_worked_51 (by rw [h133_1]; decide) (by rw [h133_1]; decide) (by rw [h133_1]; rfl) (by decide) ?_
          refine lv_lload hx hb dX11_worked_136 (lv_at hl 3 rfl) ?_
          refine lv_lload hx hb dX11_worked_138 (lv_at hl 4 rfl) ?_
          refine lv_lmul hx hb dX11_worked_140 ?_
          refine lv_topl (fun z140_1 ez140_1 => ?_)
          refine lv_lstore (lv' := [(11, .long z140_1), (10, .int z47_1), (0, .int v0), (1, .int v1), (6, .long j13_s0), (8, .long j30_s0)]) hx hb dX11_worked_141 hl (by decide) rfl (fun ls hl => ?_)
          refine lv_goto (tgt := 280) hx hb dX11_worked_143 (by decide) ?_
          exact b280 z140_1 H locs ls  (lv_sub hl [3, 0] rfl) hP hD hS
        by_cases h143_1 : v0.toInt = 3
        · have r143_2 : rg v0 3 3 := rg_at h143_1
          refine lv_tableIn (off := 95) (tgt := 146) hx hb dX11_worked_51 (by rw [h143_1]; decide) (by rw [h143_1]; decide) (by rw [h143_1]; rfl) (by decide) ?_
          refine lv_lload hx hb dX11_worked_146 (lv_at hl 3 rfl) ?_
          refine lv_lload hx hb dX11_worked_148 (lv_at hl 4 rfl) ?_
          refine go_l (k1 := 0) (n1 := 0) (wr := []) [] [] (rn_S (As := [.long j13_s0, .long j30_s0]) (rest := []) (c_X11_quotient l D ct j13_s0 j30_s0  _) (cb_of (n := 2) hn mw_1108 mw_1 mw_1106 mhX11_quotient ⟨(Nat.le_of_ble_eq_true rfl), (Nat.le_of_ble_eq_true rfl)⟩) hx hb hml hown hn hK hZ hS mw_1107 rfl hl.1 (Nat.le_of_ble_eq_true rfl) dX11_worked_150 ⟨(Nat.le_of_ble_eq_true rfl), (Nat.le_of_ble_eq_true rfl)⟩) hP hD hS hA rfl rfl (by decide) (by decide) (by decide) (Nat.le_of_ble_eq_true rfl) (Nat.le_of_ble_eq_true rfl) (fun r150_1 u150_2 H locs hp150_3 hP hD hS => ?_)
          have hP : va_P D vwCl [] _ := hP
          have hD : va_D A [] := hD
          refine lv_lstore (lv' := [(11, .long r150_1), (10, .int z47_1), (0, .int v0), (1, .int v1), (6, .long j13_s0), (8, .long j30_s0)]) hx hb dX11_worked_153 hl (by decide) rfl (fun ls hl => ?_)
          refine lv_goto (tgt := 280) hx hb dX11_worked_155 (by decide) ?_
          exact b280 r150_1 H locs ls  (lv_sub hl [3, 0] rfl) hP hD hS
        by_cases h155_1 : v0.toInt = 4
        · have r155_2 : rg v0 4 4 := rg_at h155_1
          refine lv_tableIn (off := 107) (tgt := 158) hx hb dX11_worked_51 (by rw [h155_1]; decide) (by rw [h155_1]; decide) (by rw [h155_1]; rfl) (by decide) ?_
          refine lv_lload hx hb dX11_worked_158 (lv_at hl 3 rfl) ?_
          refine lv_lload hx hb dX11_worked_160 (lv_at hl 4 rfl) ?_
          refine lv_lor hx hb dX11_worked_162 ?_
          refine lv_topl (fun z162_1 ez162_1 => ?_)
          refine lv_lstore (lv' := [(11, .long z162_1), (10, .int z47_1), (0, .int v0), (1, .int v1), (6, .long j13_s0), (8, .long j30_s0)]) hx hb dX11_worked_163 hl (by decide) rfl (fun ls hl => ?_)
          refine lv_goto (tgt := 280) hx hb dX11_worked_165 (by decide) ?_
          exact b280 z162_1 H locs ls  (lv_sub hl [3, 0] rfl) hP hD hS
        by_cases h165_1 : v0.toInt = 5
        · have r165_2 : rg v0 5 5 := rg_at h165_1
          refine lv_tableIn (off := 117) (tgt := 168) hx hb dX11_worked_51 (by rw [h165_1]; decide) (by rw [h165_1]; decide) (by rw [h165_1]; rfl) (by decide) ?_
          refine lv_lload hx hb dX11_worked_168 (lv_at hl 3 rfl) ?_
          refine lv_lload hx hb dX11_worked_170 (lv_at hl 4 rfl) ?_
          refine lv_land hx hb dX11_worked_172 ?_
          refine lv_topl (fun z172_1 ez172_1 => ?_)
          refine lv_lstore (lv' := [(11, .long z172_1), (10, .int z47_1), (0, .int v0), (1, .int v1), (6, .long j13_s0), (8, .long j30_s0)]) hx hb dX11_worked_173 hl (by decide) rfl (fun ls hl => ?_)
          refine lv_goto (tgt := 280) hx hb dX11_worked_175 (by decide) ?_
          exact b280 z172_1 H locs ls  (lv_sub hl [3, 0] rfl) hP hD hS
        by_cases h175_1 : v0.toInt = 6
        · have r175_2 : rg v0 6 6 := rg_at h175_1
          refine lv_tableIn (off := 127) (tgt := 178) hx hb dX11_worked_51 (by rw [h175_1]; decide) (by rw [h175_1]; decide) (by rw [h175_1]; rfl) (by decide) ?_
          refine lv_lload hx hb dX11_worked_178 (lv_at hl 3 rfl) ?_
          refine lv_iload hx hb dX11_worked_180 (lv_at hl 0 rfl) ?_
          refine lv_lshl hx hb dX11_worked_182 rfl ?_
          refine lv_topl (fun z182_1 ez182_1 => ?_)
          refine lv_lstore (lv' := [(11, .long z182_1), (10, .int z47_1), (0, .int v0), (1, .int v1), (6, .long j13_s0), (8, .long j30_s0)]) hx hb dX11_worked_183 hl (by decide) rfl (fun ls hl => ?_)
          refine lv_goto (tgt := 280) hx hb dX11_worked_185 (by decide) ?_
          exact b280 z182_1 H locs ls  (lv_sub hl [3, 0] rfl) hP hD hS
        by_cases h185_1 : v0.toInt = 7
        · have r185_2 : rg v0 7 7 := rg_at h185_1
          refine lv_tableIn (off := 137) (tgt := 188) hx hb dX11_worked_51 (by rw [h185_1]; decide) (by rw [h185_1]; decide) (by rw [h185_1]; rfl) (by decide) ?_
          refine lv_lload hx hb dX11_worked_188 (lv_at hl 3 rfl) ?_
          refine lv_iload hx hb dX11_worked_190 (lv_at hl 0 rfl) ?_
          refine lv_lushr hx hb dX11_worked_192 rfl ?_
          refine lv_topl (fun z192_1 ez192_1 => ?_)
          refine lv_lstore (lv' := [(11, .long z192_1), (10, .int z47_1), (0, .int v0), (1, .int v1), (6, .long j13_s0), (8, .long j30_s0)]) hx hb dX11_worked_193 hl (by decide) rfl (fun ls hl => ?_)
          refine lv_goto (tgt := 280) hx hb dX11_worked_195 (by decide) ?_
          exact b280 z192_1 H locs ls  (lv_sub hl [3, 0] rfl) hP hD hS
        by_cases h195_1 : v0.toInt = 8
        · have r195_2 : rg v0 8 8 := rg_at h195_1
          refine lv_tableIn (off := 147) (tgt := 198) hx hb dX11_worked_51 (by rw [h195_1]; decide) (by rw [h195_1]; decide) (by rw [h195_1]; rfl) (by decide) ?_
          refine lv_lload hx hb dX11_worked_198 (lv_at hl 3 rfl) ?_
          refine lv_lneg hx hb dX11_worked_200 ?_
          refine lv_topl (fun z200_1 ez200_1 => ?_)
          refine lv_lstore (lv' := [(11, .long z200_1), (10, .int z47_1), (0, .int v0), (1, .int v1), (6, .long j13_s0), (8, .long j30_s0)]) hx hb dX11_worked_201 hl (by decide) rfl (fun ls hl => ?_)
          refine lv_goto (tgt := 280) hx hb dX11_worked_203 (by decide) ?_
          exact b280 z200_1 H locs ls  (lv_sub hl [3, 0] rfl) hP hD hS
        by_cases h203_1 : v0.toInt = 9
        · have r203_2 : rg v0 9 9 := rg_at h203_1
          refine lv_tableIn (off := 155) (tgt := 206) hx hb dX11_worked_51 (by rw [h203_1]; decide) (by rw [h203_1]; decide) (by rw [h203_1]; rfl) (by decide) ?_
          refine lv_lload hx hb dX11_worked_206 (lv_at hl 4 rfl) ?_
          refine lv_lconst (v := 0) hx hb dX11_worked_208 (by decide) ?_
          refine W.lcmp hx hb dX11_worked_209 ?_
          refine lv_topi (fun z209_1 ez209_1 => ?_)
          have b231 : ∀ (j231_s0 : Int64) (H : Heap) (locs : List Loc) (ls : Array Slot), lv_has ls 13 [(1, .int v1)] → va_P D vwCl [] H → va_D A [] → va_S A s.heap H locs → W p l e ({ frames := 2, cells := 0, slots := 0, locals := 48 }) s m [.int v0, .int v1, .long v2, .long v3].toArray below meth c H locs 0 0 Q (F0 m 231 ls [.long j231_s0]) := by
            intro j231_s0 H locs ls  hl hP hD hS
            refine lv_lstore (lv' := [(11, .long j231_s0), (1, .int v1)]) hx hb dX11_worked_231 hl (by decide) rfl (fun ls hl => ?_)
            refine lv_goto (tgt := 280) hx hb dX11_worked_233 (by decide) ?_
            exact b280 j231_s0 H locs ls  (lv_sub hl [1, 0] rfl) hP hD hS
          refine lv_if_ne (tgt := 218) hx hb dX11_worked_210 (by decide) (fun c210_1 => ?_) (fun c210_1 => ?_)
          · have t210_2 := (l_ne ez209_1 c210_1)
            refine lv_lload hx hb dX11_worked_218 (lv_at hl 3 rfl) ?_
            refine lv_lload hx hb dX11_worked_220 (lv_at hl 3 rfl) ?_
            refine lv_lload hx hb dX11_worked_222 (lv_at hl 4 rfl) ?_
            refine go_l (k1 := 0) (n1 := 0) (wr := []) [] [] (rn_S (As := [.long j13_s0, .long j30_s0]) (rest := [.long j13_s0]) (c_X11_quotient l D ct j13_s0 j30_s0  _) (cb_of (n := 2) hn mw_1108 mw_1 mw_1106 mhX11_quotient ⟨(Nat.le_of_ble_eq_true rfl), (Nat.le_of_ble_eq_true rfl)⟩) hx hb hml hown hn hK hZ hS mw_1107 rfl hl.1 (Nat.le_of_ble_eq_true rfl) dX11_worked_224 ⟨(Nat.le_of_ble_eq_true rfl), (Nat.le_of_ble_eq_true rfl)⟩) hP hD hS hA rfl rfl (by decide) (by decide) (by decide) (Nat.le_of_ble_eq_true rfl) (Nat.le_of_ble_eq_true rfl) (fun r224_1 u224_2 H locs hp224_3 hP hD hS => ?_)
            have hP : va_P D vwCl [] _ := hP
            have hD : va_D A [] := hD
            refine lv_lload hx hb dX11_worked_227 (lv_at hl 4 rfl) ?_
            refine lv_lmul hx hb dX11_worked_229 ?_
            refine lv_topl (fun z229_1 ez229_1 => ?_)
            refine lv_lsub hx hb dX11_worked_230 ?_
            refine lv_topl (fun z230_1 ez230_1 => ?_)
            exact b231 z230_1 H locs ls  (lv_sub hl [2] rfl) hP hD hS
          · have t230_2 := (l_nne ez209_1 c210_1)
            have r230_3 : rl j30_s0 0 0 := rl_eqA t230_2 (rl_any j30_s0) (show rl (0 : Int64) 0 0 from (rl_l (by decide))) (by decide)
            refine lv_lload hx hb dX11_worked_213 (lv_at hl 3 rfl) ?_
            refine lv_goto (tgt := 231) hx hb dX11_worked_215 (by decide) ?_
            exact b231 j13_s0 H locs ls  (lv_sub hl [2] rfl) hP hD hS
        by_cases h215_1 : v0.toInt = 10
        · have r215_2 : rg v0 10 10 := rg_at h215_1
          refine lv_tableIn (off := 185) (tgt := 236) hx hb dX11_worked_51 (by rw [h215_1]; decide) (by rw [h215_1]; decide) (by rw [h215_1]; rfl) (by decide) ?_
          refine lv_lload hx hb dX11_worked_236 (lv_at hl 3 rfl) ?_
          refine lv_lload hx hb dX11_worked_238 (lv_at hl 4 rfl) ?_
          refine lv_lxor hx hb dX11_worked_240 ?_
          refine lv_topl (fun z240_1 ez240_1 => ?_)
          refine lv_lstore (lv' := [(11, .long z240_1), (10, .int z47_1), (0, .int v0), (1, .int v1), (6, .long j13_s0), (8, .long j30_s0)]) hx hb dX11_worked_241 hl (by decide) rfl (fun ls hl => ?_)
          refine lv_goto (tgt := 280) hx hb dX11_worked_243 (by decide) ?_
          exact b280 z240_1 H locs ls  (lv_sub hl [3, 0] rfl) hP hD hS
        by_cases h243_1 : v0.toInt = 11
        · have r243_2 : rg v0 11 11 := rg_at h243_1
          refine lv_tableIn (off := 195) (tgt := 246) hx hb dX11_worked_51 (by rw [h243_1]; decide) (by rw [h243_1]; decide) (by rw [h243_1]; rfl) (by decide) ?_
          refine lv_lload hx hb dX11_worked_246 (lv_at hl 4 rfl) ?_
          refine lv_lstore (lv' := [(11, .long j30_s0), (10, .int z47_1), (0, .int v0), (1, .int v1), (6, .long j13_s0), (8, .long j30_s0)]) hx hb dX11_worked_248 hl (by decide) rfl (fun ls hl => ?_)
          refine lv_goto (tgt := 280) hx hb dX11_worked_250 (by decide) ?_
          exact b280 j30_s0 H locs ls  (lv_sub hl [3, 0] rfl) hP hD hS
        by_cases h250_1 : v0.toInt = 12
        · have r250_2 : rg v0 12 12 := rg_at h250_1
          refine lv_tableIn (off := 202) (tgt := 253) hx hb dX11_worked_51 (by rw [h250_1]; decide) (by rw [h250_1]; decide) (by rw [h250_1]; rfl) (by decide) ?_
          refine lv_iload_n hx hb dX11_worked_253 rfl (lv_at hl 2 rfl) ?_
          have b272 : ∀ (j272_s0 : Int64) (H : Heap) (locs : List Loc) (ls : Array Slot), lv_has ls 13 [(1, .int v1)] → va_P D vwCl [] H → va_D A [] → va_S A s.heap H locs → W p l e ({ frames := 2, cells := 0, slots := 0, locals := 48 }) s m [.int v0, .int v1, .long v2, .long v3].toArray below meth c H locs 0 0 Q (F0 m 272 ls [.long j272_s0]) := by
            intro j272_s0 H locs ls  hl hP hD hS
            refine lv_lstore (lv' := [(11, .long j272_s0), (1, .int v1)]) hx hb dX11_worked_272 hl (by decide) rfl (fun ls hl => ?_)
            refine lv_goto (tgt := 280) hx hb dX11_worked_274 (by decide) ?_
            exact b280 j272_s0 H locs ls  (lv_sub hl [1, 0] rfl) hP hD hS
          refine lv_if_eq (tgt := 265) hx hb dX11_worked_254 (by decide) (fun c254_1 => ?_) (fun c254_1 => ?_)
          · have t254_2 := (i_eq c254_1)
            have r254_3 : rg v1 0 0 := rg_eqA t254_2 h_v1 (show rg (0 : Int32) 0 0 from (rg_l (by decide))) (by decide)
            refine lv_lload hx hb dX11_worked_265 (lv_at hl 3 rfl) ?_
            refine lv_l2i hx hb dX11_worked_267 rfl ?_
            refine lv_topi (fun z267_1 ez267_1 => ?_)
            refine lv_iload hx hb dX11_worked_268 (lv_at hl 0 rfl) ?_
            refine lv_ishr hx hb dX11_worked_270 ?_
            refine lv_topi (fun z270_1 ez270_1 => ?_)
            refine lv_i2l hx hb dX11_worked_271 rfl ?_
            refine lv_topl (fun z271_1 ez271_1 => ?_)
            have r271_2 : rl z271_1 (-2147483648) 2147483647 := rl_i2l ez271_1 (rg_any z270_1)
            exact b272 z271_1 H locs ls  (lv_sub hl [2] rfl) hP hD hS
          · have t271_3 := (i_ne c254_1)
            have r271_4 : rg v1 1 1 := rg_neAl t271_3 h_v1 (show rg (0 : Int32) 0 0 from (rg_l (by decide))) (by decide)
            refine lv_lload hx hb dX11_worked_257 (lv_at hl 3 rfl) ?_
            refine lv_iload hx hb dX11_worked_259 (lv_at hl 0 rfl) ?_
            refine lv_lshr hx hb dX11_worked_261 rfl ?_
            refine lv_topl (fun z261_1 ez261_1 => ?_)
            refine lv_goto (tgt := 272) hx hb dX11_worked_262 (by decide) ?_
            exact b272 z261_1 H locs ls  (lv_sub hl [2] rfl) hP hD hS
        refine lv_tableOut (tgt := 277) hx hb dX11_worked_51 (by have q0 := (rg_any v0); have q1 := q0.1; have q2 := q0.2; omega) (by decide) ?_
        refine lv_lconst (v := 0) hx hb dX11_worked_277 (by decide) ?_
        refine lv_lstore (lv' := [(11, .long 0), (10, .int z47_1), (0, .int v0), (1, .int v1), (6, .long j13_s0), (8, .long j30_s0)]) hx hb dX11_worked_278 hl (by decide) rfl (fun ls hl => ?_)
        exact b280 (0 : Int64) H locs ls  (lv_sub hl [3, 0] rfl) hP hD hS
      refine lv_if_eq (tgt := 43) hx hb dX11_worked_35 (by decide) (fun c35_1 => ?_) (fun c35_1 => ?_)
      · have t35_2 := (i_eq c35_1)
        have r35_3 : rg v1 0 0 := rg_eqA t35_2 h_v1 (show rg (0 : Int32) 0 0 from (rg_l (by decide))) (by decide)
        refine lv_bipush (v := 31) hx hb dX11_worked_43 (by decide) ?_
        exact b45 (31 : Int32) H locs ls (rg_w (rg_l (by decide)) (by decide)) (lv_sub hl [1, 2, 3, 0] rfl) hP hD hS
      · have t43_1 := (i_ne c35_1)
        have r43_2 : rg v1 1 1 := rg_neAl t43_1 h_v1 (show rg (0 : Int32) 0 0 from (rg_l (by decide))) (by decide)
        refine lv_bipush (v := 63) hx hb dX11_worked_38 (by decide) ?_
        refine lv_goto (tgt := 45) hx hb dX11_worked_40 (by decide) ?_
        exact b45 (63 : Int32) H locs ls (rg_w (rg_l (by decide)) (by decide)) (lv_sub hl [1, 2, 3, 0] rfl) hP hD hS
    refine lv_if_eq (tgt := 24) hx hb dX11_worked_16 (by decide) (fun c16_1 => ?_) (fun c16_1 => ?_)
    · have t16_2 := (i_eq c16_1)
      have r16_3 : rg v1 0 0 := rg_eqA t16_2 h_v1 (show rg (0 : Int32) 0 0 from (rg_l (by decide))) (by decide)
      refine lv_lload hx hb dX11_worked_24 (lv_at hl 3 rfl) ?_
      refine lv_ldc2 (v := 4294967295) hx hb hown (hn.get mw_1105 rfl) dX11_worked_26 ?_
      refine lv_land hx hb dX11_worked_29 ?_
      refine lv_topl (fun z29_1 ez29_1 => ?_)
      have r29_2 : rl z29_1 0 4294967295 := rgL_andr ez29_1 (rl_l (by decide)) (by decide)
      exact b30 z29_1 H locs ls  (lv_sub hl [1, 2, 0] rfl) hP hD hS
    · have t29_3 := (i_ne c16_1)
      have r29_4 : rg v1 1 1 := rg_neAl t29_3 h_v1 (show rg (0 : Int32) 0 0 from (rg_l (by decide))) (by decide)
      refine lv_lload hx hb dX11_worked_19 (lv_at hl 3 rfl) ?_
      refine lv_goto (tgt := 30) hx hb dX11_worked_21 (by decide) ?_
      exact b30 v3 H locs ls  (lv_sub hl [1, 2, 0] rfl) hP hD hS
  refine lv_if_eq (tgt := 8) hx hb dX11_worked_1 (by decide) (fun c1_1 => ?_) (fun c1_1 => ?_)
  · have t1_2 := (i_eq c1_1)
    have r1_3 : rg v1 0 0 := rg_eqA t1_2 h_v1 (show rg (0 : Int32) 0 0 from (rg_l (by decide))) (by decide)
    refine lv_lload_n hx hb dX11_worked_8 rfl (lv_at hl 2 rfl) ?_
    refine lv_ldc2 (v := 4294967295) hx hb hown (hn.get mw_1105 rfl) dX11_worked_9 ?_
    refine lv_land hx hb dX11_worked_12 ?_
    refine lv_topl (fun z12_1 ez12_1 => ?_)
    have r12_2 : rl z12_1 0 4294967295 := rgL_andr ez12_1 (rl_l (by decide)) (by decide)
    exact b13 z12_1 H locs ls  (lv_sub hl [0, 1, 3] rfl) hP hD hS
  · have t12_3 := (i_ne c1_1)
    have r12_4 : rg v1 1 1 := rg_neAl t12_3 h_v1 (show rg (0 : Int32) 0 0 from (rg_l (by decide))) (by decide)
    refine lv_lload_n hx hb dX11_worked_4 rfl (lv_at hl 2 rfl) ?_
    refine lv_goto (tgt := 13) hx hb dX11_worked_5 (by decide) ?_
    exact b13 v2 H locs ls  (lv_sub hl [0, 1, 3] rfl) hP hD hS
set_option maxHeartbeats 2000000 in
theorem c_X10_placeOf (l : Launch) (D : va_G) (ct : Nat → ClassId) (v0 : Int32)  : KI (S := Unit) l yX10_placeOf cX10_placeOf 1 (some .int) 1 20 D ct [.int v0] [] 0 0 (fun (r : Int32) (_ : Unit) => True) (fun (_ : Unit) => []) := by
  refine KIq_of (by decide) (Nat.le_of_ble_eq_true rfl) (fun p e s m below meth c A Q C0 hA hS hP hD hQ ls hl => ?_)
  obtain ⟨hx, hb, hr, hown, hin, hml, hlocks, hn, hK, hZ⟩ := C0
  have hl : lv_has ls 1 [(0, .int v0)] := hl
  refine lv_iload_n hx hb dX10_placeOf_0 rfl (lv_at hl 0 rfl) ?_
  refine lv_bipush (v := 6) hx hb dX10_placeOf_1 (by decide) ?_
  refine lv_icmp_ge (tgt := 13) hx hb dX10_placeOf_3 (by decide) (fun c3_1 => ?_) (fun c3_1 => ?_)
  · have t3_2 := (i_le c3_1)
    have r3_3 : rg v0 6 2147483647 := rg_leB t3_2 (show rg (6 : Int32) 6 6 from (rg_l (by decide))) (rg_any v0) (by decide)
    refine lv_bipush (v := 12) hx hb dX10_placeOf_13 (by decide) ?_
    refine lv_iload_n hx hb dX10_placeOf_15 rfl (lv_at hl 0 rfl) ?_
    refine lv_iadd hx hb dX10_placeOf_16 ?_
    refine lv_topi (fun z16_1 ez16_1 => ?_)
    exact endq_i hQ hx hb hr hlocks dX10_placeOf_17 rfl () trivial hP hD hS [] rfl (by decide) rfl (Nat.le_of_ble_eq_true rfl) (Nat.le_of_ble_eq_true rfl)
  · have t17_1 := (i_nle c3_1)
    have r17_2 : rg v0 (-2147483648) 5 := rg_ltA t17_1 (rg_any v0) (show rg (6 : Int32) 6 6 from (rg_l (by decide))) (by decide)
    refine lv_bipush (v := 10) hx hb dX10_placeOf_6 (by decide) ?_
    refine lv_iload_n hx hb dX10_placeOf_8 rfl (lv_at hl 0 rfl) ?_
    refine lv_iadd hx hb dX10_placeOf_9 ?_
    refine lv_topi (fun z9_1 ez9_1 => ?_)
    have r9_2 : rg z9_1 (-2147483638) 15 := rg_add ez9_1 (rg_l (by decide)) r17_2 (by decide)
    refine lv_goto (tgt := 17) hx hb dX10_placeOf_10 (by decide) ?_
    exact endq_i hQ hx hb hr hlocks dX10_placeOf_17 rfl () trivial hP hD hS [] rfl (by decide) rfl (Nat.le_of_ble_eq_true rfl) (Nat.le_of_ble_eq_true rfl)
set_option maxHeartbeats 2000000 in
theorem c_X10_put (l : Launch) (D : va_G) (ct : Nat → ClassId) (tl : Nat) (v0 : Int32) (tls : Nat) (o0 : Nat) (p0 : Nat) (x_tl_3 : Int32) (x_tl_4 : Int32) (o0r : Nat) (x_o0_1 : Int32) (g_o0r : Nat → Int32) (h_x_tl_3 : rg x_tl_3 0 1) (h_x_tl_4 : rg x_tl_4 0 1073741824) (h_x_o0_1 : rg x_o0_1 0 60000) : KV (S := Int32 × (Nat → Int32)) l yX10_put cX10_put 2 none 1 20 D ct [.ref tl, .int v0] [(tl, .inr (10, [.ref tls, .ref o0, .ref p0, .int x_tl_3, .int x_tl_4])), (o0, .inr (5, [.ref o0r, .int x_o0_1])), (o0r, .inl (ct 1, 60000, .inl g_o0r))] 0 0 (fun (u : Int32 × (Nat → Int32)) => match u with | (y_tl_4, k_o0r) => rg y_tl_4 1 1073741825) (fun (u : Int32 × (Nat → Int32)) => match u with | (y_tl_4, k_o0r) => [(tl, .inr (10, [.ref tls, .ref o0, .ref p0, .int x_tl_3, .int y_tl_4])), (o0, .inr (5, [.ref o0r, .int x_o0_1])), (o0r, .inl (ct 1, 60000, .inl k_o0r))]) := by
  refine KVq_of (by decide) (Nat.le_of_ble_eq_true rfl) (fun p e s m below meth c A Q C0 hA hS hP hD hQ ls hl => ?_)
  obtain ⟨hx, hb, hr, hown, hin, hml, hlocks, hn, hK, hZ⟩ := C0
  have hl : lv_has ls 2 [(0, .ref tl), (1, .int v0)] := hl
  refine lv_aload_n hx hb dX10_put_0 rfl (lv_at hl 0 rfl) ?_
  refine va_get (D := D) (ci := 10) (v := .int x_tl_3) (C := RX10) (T := TX10) (N := 5) hx hb (htX10 hn) (fun _ h => h) hown hK hP 0 rfl rfl 3 (by decide) (hn.get mw_291 rfl) (fun _ h9 => h9) rfl dX10_put_1 ?_
  have b29 : ∀ (j29_co0r : Nat → Int32) (H : Heap) (locs : List Loc) (ls : Array Slot), lv_has ls 2 [(0, .ref tl)] → va_P D vwCl [(tl, .inr (10, [.ref tls, .ref o0, .ref p0, .int x_tl_3, .int x_tl_4])), (o0, .inr (5, [.ref o0r, .int x_o0_1])), (o0r, .inl (ct 1, 60000, .inl j29_co0r))] H → va_D A [(tl, .inr (10, [.ref tls, .ref o0, .ref p0, .int x_tl_3, .int x_tl_4])), (o0, .inr (5, [.ref o0r, .int x_o0_1])), (o0r, .inl (ct 1, 60000, .inl j29_co0r))] → va_S A s.heap H locs → W p l e ({ frames := 1, cells := 0, slots := 0, locals := 20 }) s m [.ref tl, .int v0].toArray below meth c H locs 0 0 Q (F0 m 29 ls []) := by
    intro j29_co0r H locs ls  hl hP hD hS
    refine lv_aload_n hx hb dX10_put_29 rfl (lv_at hl 0 rfl) ?_
    refine lv_dup hx hb dX10_put_30 rfl ?_
    refine va_get (D := D) (ci := 10) (v := .int x_tl_4) (C := RX10) (T := TX10) (N := 5) hx hb (htX10 hn) (fun _ h => h) hown hK hP 0 rfl rfl 4 (by decide) (hn.get mw_292 rfl) (fun _ h9 => h9) rfl dX10_put_31 ?_
    refine lv_iconst (v := 1) hx hb dX10_put_34 (by decide) ?_
    refine lv_iadd hx hb dX10_put_35 ?_
    refine lv_topi (fun z35_1 ez35_1 => ?_)
    have r35_2 : rg z35_1 1 1073741825 := rg_add ez35_1 h_x_tl_4 (rg_l (by decide)) (by decide)
    refine va_put (D := D) (ci := 10) (v := .int z35_1) (ty := .int) (C := RX10) (T := TX10) (N := 5) hx hb (htX10 hn) (fun _ h => h) tyX10 tyX10_ok nmX10 hown hK hP hD hS 0 rfl rfl 4 (by decide) (hn.get mw_292 rfl) (fun _ h9 => h9) rfl (by decide +kernel) rfl rfl (Nat.le_of_ble_eq_true rfl) dX10_put_36 (fun H locs hP hD hS => ?_)
    have hP : va_P D vwCl [(tl, .inr (10, [.ref tls, .ref o0, .ref p0, .int x_tl_3, .int z35_1])), (o0, .inr (5, [.ref o0r, .int x_o0_1])), (o0r, .inl (ct 1, 60000, .inl j29_co0r))] _ := hP
    have hD : va_D A [(tl, .inr (10, [.ref tls, .ref o0, .ref p0, .int x_tl_3, .int z35_1])), (o0, .inr (5, [.ref o0r, .int x_o0_1])), (o0r, .inl (ct 1, 60000, .inl j29_co0r))] := hD
    exact endq_v hQ hx hb hr hlocks dX10_put_39 (z35_1, j29_co0r) r35_2 hP hD hS [0, 1, 2] rfl (by decide) rfl (Nat.le_of_ble_eq_true rfl) (Nat.le_of_ble_eq_true rfl)
  refine lv_if_eq (tgt := 29) hx hb dX10_put_4 (by decide) (fun c4_1 => ?_) (fun c4_1 => ?_)
  · have t4_2 := (i_eq c4_1)
    have r4_3 : rg x_tl_3 0 0 := rg_eqA t4_2 h_x_tl_3 (show rg (0 : Int32) 0 0 from (rg_l (by decide))) (by decide)
    exact b29 g_o0r H locs ls  (lv_sub hl [0] rfl) hP hD hS
  · have t4_4 := (i_ne c4_1)
    have r4_5 : rg x_tl_3 1 1 := rg_neAl t4_4 h_x_tl_3 (show rg (0 : Int32) 0 0 from (rg_l (by decide))) (by decide)
    refine lv_aload_n hx hb dX10_put_7 rfl (lv_at hl 0 rfl) ?_
    refine va_get (D := D) (ci := 10) (v := .int x_tl_4) (C := RX10) (T := TX10) (N := 5) hx hb (htX10 hn) (fun _ h => h) hown hK hP 0 rfl rfl 4 (by decide) (hn.get mw_292 rfl) (fun _ h9 => h9) rfl dX10_put_8 ?_
    refine lv_ldc (v := 60000) hx hb hown (hn.get mw_1320 rfl) dX10_put_11 ?_
    refine lv_icmp_ge (tgt := 29) hx hb dX10_put_13 (by decide) (fun c13_1 => ?_) (fun c13_1 => ?_)
    · have t13_2 := (i_le c13_1)
      have r13_3 : rg x_tl_4 60000 1073741824 := rg_leB t13_2 (show rg (60000 : Int32) 60000 60000 from (rg_l (by decide))) h_x_tl_4 (by decide)
      exact b29 g_o0r H locs ls  (lv_sub hl [0] rfl) hP hD hS
    · have t13_4 := (i_nle c13_1)
      have r13_5 : rg x_tl_4 0 59999 := rg_ltA t13_4 h_x_tl_4 (show rg (60000 : Int32) 60000 60000 from (rg_l (by decide))) (by decide)
      refine lv_aload_n hx hb dX10_put_16 rfl (lv_at hl 0 rfl) ?_
      refine va_get (D := D) (ci := 10) (v := .ref o0) (C := RX10) (T := TX10) (N := 5) hx hb (htX10 hn) (fun _ h => h) hown hK hP 0 rfl rfl 1 (by decide) (hn.get mw_289 rfl) (fun _ h9 => h9) rfl dX10_put_17 ?_
      refine va_getN (D := D) (ci := 5) (v := .ref o0r) (C := RX5) (T := TX5) (N := 2) hx hb (htX5 hn) (fun _ h => h) hown hK hP 1 rfl rfl 0 (by decide) (hn.get mw_132 rfl) (fun _ h9 => h9) rfl dX10_put_20 ?_
      refine lv_aload_n hx hb dX10_put_23 rfl (lv_at hl 0 rfl) ?_
      refine va_get (D := D) (ci := 10) (v := .int x_tl_4) (C := RX10) (T := TX10) (N := 5) hx hb (htX10 hn) (fun _ h => h) hown hK hP 0 rfl rfl 4 (by decide) (hn.get mw_292 rfl) (fun _ h9 => h9) rfl dX10_put_24 ?_
      refine lv_iload_n hx hb dX10_put_27 rfl (lv_at hl 1 rfl) ?_
      have hi28_1 : vp_in x_tl_4 60000 := (in_rg r13_5 (by decide))
      refine va_iast hx hb hK hP hD hS 2 1 rfl rfl hi28_1 dX10_put_28 (fun H locs hP hD hS => ?_)
      have hP : va_P D vwCl [(tl, .inr (10, [.ref tls, .ref o0, .ref p0, .int x_tl_3, .int x_tl_4])), (o0, .inr (5, [.ref o0r, .int x_o0_1])), (o0r, .inl (ct 1, 60000, .inl (upd g_o0r x_tl_4.toNatClampNeg v0)))] _ := hP
      have hD : va_D A [(tl, .inr (10, [.ref tls, .ref o0, .ref p0, .int x_tl_3, .int x_tl_4])), (o0, .inr (5, [.ref o0r, .int x_o0_1])), (o0r, .inl (ct 1, 60000, .inl (upd g_o0r x_tl_4.toNatClampNeg v0)))] := hD
      obtain ⟨f28_2, ef28_2⟩ : ∃ z, z = (upd g_o0r x_tl_4.toNatClampNeg v0) := ⟨_, rfl⟩
      rw [← ef28_2] at hP hD
      exact b29 f28_2 H locs ls  (lv_sub hl [0] rfl) hP hD hS
set_option maxHeartbeats 2000000 in
theorem c_X10_putAdd (l : Launch) (D : va_G) (ct : Nat → ClassId) (tl : Nat) (v0 : Int32) (v1 : Int32) (v2 : Int32) (tls : Nat) (o0 : Nat) (p0 : Nat) (x_tl_3 : Int32) (x_tl_4 : Int32) (o0r : Nat) (x_o0_1 : Int32) (g_o0r : Nat → Int32) (h_x_tl_3 : rg x_tl_3 0 1) (h_x_tl_4 : rg x_tl_4 0 1073741824) (h_x_o0_1 : rg x_o0_1 0 60000) : KV (S := Int32 × (Nat → Int32)) l yX10_putAdd cX10_putAdd 4 none 2 41 D ct [.ref tl, .int v0, .int v1, .int v2] [(tl, .inr (10, [.ref tls, .ref o0, .ref p0, .int x_tl_3, .int x_tl_4])), (o0, .inr (5, [.ref o0r, .int x_o0_1])), (o0r, .inl (ct 1, 60000, .inl g_o0r))] 0 0 (fun (u : Int32 × (Nat → Int32)) => match u with | (y_tl_4, k_o0r) => rg y_tl_4 1 1073741825) (fun (u : Int32 × (Nat → Int32)) => match u with | (y_tl_4, k_o0r) => [(tl, .inr (10, [.ref tls, .ref o0, .ref p0, .int x_tl_3, .int y_tl_4])), (o0, .inr (5, [.ref o0r, .int x_o0_1])), (o0r, .inl (ct 1, 60000, .inl k_o0r))]) := by
  refine KVq_of (by decide) (Nat.le_of_ble_eq_true rfl) (fun p e s m below meth c A Q C0 hA hS hP hD hQ ls hl => ?_)
  obtain ⟨hx, hb, hr, hown, hin, hml, hlocks, hn, hK, hZ⟩ := C0
  have hl : lv_has ls 4 [(0, .ref tl), (1, .int v0), (2, .int v1), (3, .int v2)] := hl
  refine lv_aload_n hx hb dX10_putAdd_0 rfl (lv_at hl 0 rfl) ?_
  refine lv_iload_n hx hb dX10_putAdd_1 rfl (lv_at hl 3 rfl) ?_
  refine lv_bipush (v := 20) hx hb dX10_putAdd_2 (by decide) ?_
  refine lv_ishl hx hb dX10_putAdd_4 ?_
  refine lv_topi (fun z4_1 ez4_1 => ?_)
  refine lv_iload_n hx hb dX10_putAdd_5 rfl (lv_at hl 2 rfl) ?_
  refine lv_bipush (v := 15) hx hb dX10_putAdd_6 (by decide) ?_
  refine lv_ishl hx hb dX10_putAdd_8 ?_
  refine lv_topi (fun z8_1 ez8_1 => ?_)
  refine lv_ior hx hb dX10_putAdd_9 ?_
  refine lv_topi (fun z9_1 ez9_1 => ?_)
  refine lv_iload_n hx hb dX10_putAdd_10 rfl (lv_at hl 1 rfl) ?_
  refine lv_bipush (v := 7) hx hb dX10_putAdd_11 (by decide) ?_
  refine lv_ishl hx hb dX10_putAdd_13 ?_
  refine lv_topi (fun z13_1 ez13_1 => ?_)
  refine lv_ior hx hb dX10_putAdd_14 ?_
  refine lv_topi (fun z14_1 ez14_1 => ?_)
  refine lv_bipush (v := 19) hx hb dX10_putAdd_15 (by decide) ?_
  refine lv_ior hx hb dX10_putAdd_17 ?_
  refine lv_topi (fun z17_1 ez17_1 => ?_)
  refine go_v (k1 := 0) (n1 := 0) (wr := []) [0, 1, 2] [] (rn_V (As := [.int z17_1]) (rest := []) (c_X10_put l D ct tl z17_1 tls o0 p0 x_tl_3 x_tl_4 o0r x_o0_1 g_o0r h_x_tl_3 h_x_tl_4 h_x_o0_1 _) (cb_of (n := 1) hn mw_1319 mw_10 mw_1316 mhX10_put ⟨(Nat.le_of_ble_eq_true rfl), (Nat.le_of_ble_eq_true rfl)⟩) hx hb hml hown hn hK hZ hS mw_1318 mw_s149 (ci := 10) (q0 := 0) rfl rfl rfl rfl hl.1 (Nat.le_of_ble_eq_true rfl) dX10_putAdd_18 ⟨(Nat.le_of_ble_eq_true rfl), (Nat.le_of_ble_eq_true rfl)⟩) hP hD hS hA rfl rfl (by decide) (by decide) (by decide) (Nat.le_of_ble_eq_true rfl) (Nat.le_of_ble_eq_true rfl) (fun u18_2 H locs hp18_3 hP hD hS => ?_)
  obtain ⟨y_tl_418_4, k_o0r18_5⟩ := u18_2
  have hp18_6 := hp18_3
  have hp18_6 : rg y_tl_418_4 1 1073741825 := hp18_6
  have hP : va_P D vwCl [(tl, .inr (10, [.ref tls, .ref o0, .ref p0, .int x_tl_3, .int y_tl_418_4])), (o0, .inr (5, [.ref o0r, .int x_o0_1])), (o0r, .inl (ct 1, 60000, .inl k_o0r18_5))] _ := hP
  have hD : va_D A [(tl, .inr (10, [.ref tls, .ref o0, .ref p0, .int x_tl_3, .int y_tl_418_4])), (o0, .inr (5, [.ref o0r, .int x_o0_1])), (o0r, .inl (ct 1, 60000, .inl k_o0r18_5))] := hD
  exact endq_v hQ hx hb hr hlocks dX10_putAdd_21 (y_tl_418_4, k_o0r18_5) hp18_6 hP hD hS [0, 1, 2] rfl (by decide) rfl (Nat.le_of_ble_eq_true rfl) (Nat.le_of_ble_eq_true rfl)
set_option maxHeartbeats 2000000 in
theorem c_X10_putBranch (l : Launch) (D : va_G) (ct : Nat → ClassId) (tl : Nat) (v0 : Int32) (v1 : Int32) (v2 : Int32) (v3 : Int32) (tls : Nat) (o0 : Nat) (p0 : Nat) (x_tl_3 : Int32) (x_tl_4 : Int32) (o0r : Nat) (x_o0_1 : Int32) (g_o0r : Nat → Int32) (h_x_tl_3 : rg x_tl_3 0 1) (h_x_tl_4 : rg x_tl_4 0 1073741824) (h_x_o0_1 : rg x_o0_1 0 60000) : KV (S := Int32 × (Nat → Int32)) l yX10_putBranch cX10_putBranch 5 none 2 41 D ct [.ref tl, .int v0, .int v1, .int v2, .int v3] [(tl, .inr (10, [.ref tls, .ref o0, .ref p0, .int x_tl_3, .int x_tl_4])), (o0, .inr (5, [.ref o0r, .int x_o0_1])), (o0r, .inl (ct 1, 60000, .inl g_o0r))] 0 0 (fun (u : Int32 × (Nat → Int32)) => match u with | (y_tl_4, k_o0r) => rg y_tl_4 1 1073741825) (fun (u : Int32 × (Nat → Int32)) => match u with | (y_tl_4, k_o0r) => [(tl, .inr (10, [.ref tls, .ref o0, .ref p0, .int x_tl_3, .int y_tl_4])), (o0, .inr (5, [.ref o0r, .int x_o0_1])), (o0r, .inl (ct 1, 60000, .inl k_o0r))]) := by
  refine KVq_of (by decide) (Nat.le_of_ble_eq_true rfl) (fun p e s m below meth c A Q C0 hA hS hP hD hQ ls hl => ?_)
  obtain ⟨hx, hb, hr, hown, hin, hml, hlocks, hn, hK, hZ⟩ := C0
  have hl : lv_has ls 5 [(0, .ref tl), (1, .int v0), (2, .int v1), (3, .int v2), (4, .int v3)] := hl
  refine lv_aload_n hx hb dX10_putBranch_0 rfl (lv_at hl 0 rfl) ?_
  refine lv_iload_n hx hb dX10_putBranch_1 rfl (lv_at hl 3 rfl) ?_
  refine lv_bipush (v := 20) hx hb dX10_putBranch_2 (by decide) ?_
  refine lv_ishl hx hb dX10_putBranch_4 ?_
  refine lv_topi (fun z4_1 ez4_1 => ?_)
  refine lv_iload_n hx hb dX10_putBranch_5 rfl (lv_at hl 2 rfl) ?_
  refine lv_bipush (v := 15) hx hb dX10_putBranch_6 (by decide) ?_
  refine lv_ishl hx hb dX10_putBranch_8 ?_
  refine lv_topi (fun z8_1 ez8_1 => ?_)
  refine lv_ior hx hb dX10_putBranch_9 ?_
  refine lv_topi (fun z9_1 ez9_1 => ?_)
  refine lv_iload_n hx hb dX10_putBranch_10 rfl (lv_at hl 1 rfl) ?_
  refine lv_bipush (v := 12) hx hb dX10_putBranch_11 (by decide) ?_
  refine lv_ishl hx hb dX10_putBranch_13 ?_
  refine lv_topi (fun z13_1 ez13_1 => ?_)
  refine lv_ior hx hb dX10_putBranch_14 ?_
  refine lv_topi (fun z14_1 ez14_1 => ?_)
  refine lv_iload hx hb dX10_putBranch_15 (lv_at hl 4 rfl) ?_
  refine lv_bipush (v := 7) hx hb dX10_putBranch_17 (by decide) ?_
  refine lv_ishl hx hb dX10_putBranch_19 ?_
  refine lv_topi (fun z19_1 ez19_1 => ?_)
  refine lv_ior hx hb dX10_putBranch_20 ?_
  refine lv_topi (fun z20_1 ez20_1 => ?_)
  refine lv_bipush (v := 99) hx hb dX10_putBranch_21 (by decide) ?_
  refine lv_ior hx hb dX10_putBranch_23 ?_
  refine lv_topi (fun z23_1 ez23_1 => ?_)
  refine go_v (k1 := 0) (n1 := 0) (wr := []) [0, 1, 2] [] (rn_V (As := [.int z23_1]) (rest := []) (c_X10_put l D ct tl z23_1 tls o0 p0 x_tl_3 x_tl_4 o0r x_o0_1 g_o0r h_x_tl_3 h_x_tl_4 h_x_o0_1 _) (cb_of (n := 1) hn mw_1319 mw_10 mw_1316 mhX10_put ⟨(Nat.le_of_ble_eq_true rfl), (Nat.le_of_ble_eq_true rfl)⟩) hx hb hml hown hn hK hZ hS mw_1318 mw_s149 (ci := 10) (q0 := 0) rfl rfl rfl rfl hl.1 (Nat.le_of_ble_eq_true rfl) dX10_putBranch_24 ⟨(Nat.le_of_ble_eq_true rfl), (Nat.le_of_ble_eq_true rfl)⟩) hP hD hS hA rfl rfl (by decide) (by decide) (by decide) (Nat.le_of_ble_eq_true rfl) (Nat.le_of_ble_eq_true rfl) (fun u24_2 H locs hp24_3 hP hD hS => ?_)
  obtain ⟨y_tl_424_4, k_o0r24_5⟩ := u24_2
  have hp24_6 := hp24_3
  have hp24_6 : rg y_tl_424_4 1 1073741825 := hp24_6
  have hP : va_P D vwCl [(tl, .inr (10, [.ref tls, .ref o0, .ref p0, .int x_tl_3, .int y_tl_424_4])), (o0, .inr (5, [.ref o0r, .int x_o0_1])), (o0r, .inl (ct 1, 60000, .inl k_o0r24_5))] _ := hP
  have hD : va_D A [(tl, .inr (10, [.ref tls, .ref o0, .ref p0, .int x_tl_3, .int y_tl_424_4])), (o0, .inr (5, [.ref o0r, .int x_o0_1])), (o0r, .inl (ct 1, 60000, .inl k_o0r24_5))] := hD
  exact endq_v hQ hx hb hr hlocks dX10_putBranch_27 (y_tl_424_4, k_o0r24_5) hp24_6 hP hD hS [0, 1, 2] rfl (by decide) rfl (Nat.le_of_ble_eq_true rfl) (Nat.le_of_ble_eq_true rfl)
set_option maxHeartbeats 2000000 in
theorem c_X10_putImm (l : Launch) (D : va_G) (ct : Nat → ClassId) (tl : Nat) (v0 : Int32) (v1 : Int32) (v2 : Int32) (v3 : Int32) (v4 : Int32) (tls : Nat) (o0 : Nat) (p0 : Nat) (x_tl_3 : Int32) (x_tl_4 : Int32) (o0r : Nat) (x_o0_1 : Int32) (g_o0r : Nat → Int32) (h_x_tl_3 : rg x_tl_3 0 1) (h_x_tl_4 : rg x_tl_4 0 1073741824) (h_x_o0_1 : rg x_o0_1 0 60000) : KV (S := Int32 × (Nat → Int32)) l yX10_putImm cX10_putImm 6 none 2 41 D ct [.ref tl, .int v0, .int v1, .int v2, .int v3, .int v4] [(tl, .inr (10, [.ref tls, .ref o0, .ref p0, .int x_tl_3, .int x_tl_4])), (o0, .inr (5, [.ref o0r, .int x_o0_1])), (o0r, .inl (ct 1, 60000, .inl g_o0r))] 0 0 (fun (u : Int32 × (Nat → Int32)) => match u with | (y_tl_4, k_o0r) => rg y_tl_4 1 1073741825) (fun (u : Int32 × (Nat → Int32)) => match u with | (y_tl_4, k_o0r) => [(tl, .inr (10, [.ref tls, .ref o0, .ref p0, .int x_tl_3, .int y_tl_4])), (o0, .inr (5, [.ref o0r, .int x_o0_1])), (o0r, .inl (ct 1, 60000, .inl k_o0r))]) := by
  refine KVq_of (by decide) (Nat.le_of_ble_eq_true rfl) (fun p e s m below meth c A Q C0 hA hS hP hD hQ ls hl => ?_)
  obtain ⟨hx, hb, hr, hown, hin, hml, hlocks, hn, hK, hZ⟩ := C0
  have hl : lv_has ls 6 [(0, .ref tl), (1, .int v0), (2, .int v1), (3, .int v2), (4, .int v3), (5, .int v4)] := hl
  refine lv_aload_n hx hb dX10_putImm_0 rfl (lv_at hl 0 rfl) ?_
  refine lv_iload hx hb dX10_putImm_1 (lv_at hl 5 rfl) ?_
  refine lv_bipush (v := 20) hx hb dX10_putImm_3 (by decide) ?_
  refine lv_ishl hx hb dX10_putImm_5 ?_
  refine lv_topi (fun z5_1 ez5_1 => ?_)
  refine lv_iload hx hb dX10_putImm_6 (lv_at hl 4 rfl) ?_
  refine lv_bipush (v := 15) hx hb dX10_putImm_8 (by decide) ?_
  refine lv_ishl hx hb dX10_putImm_10 ?_
  refine lv_topi (fun z10_1 ez10_1 => ?_)
  refine lv_ior hx hb dX10_putImm_11 ?_
  refine lv_topi (fun z11_1 ez11_1 => ?_)
  refine lv_iload_n hx hb dX10_putImm_12 rfl (lv_at hl 2 rfl) ?_
  refine lv_bipush (v := 12) hx hb dX10_putImm_13 (by decide) ?_
  refine lv_ishl hx hb dX10_putImm_15 ?_
  refine lv_topi (fun z15_1 ez15_1 => ?_)
  refine lv_ior hx hb dX10_putImm_16 ?_
  refine lv_topi (fun z16_1 ez16_1 => ?_)
  refine lv_iload_n hx hb dX10_putImm_17 rfl (lv_at hl 3 rfl) ?_
  refine lv_bipush (v := 7) hx hb dX10_putImm_18 (by decide) ?_
  refine lv_ishl hx hb dX10_putImm_20 ?_
  refine lv_topi (fun z20_1 ez20_1 => ?_)
  refine lv_ior hx hb dX10_putImm_21 ?_
  refine lv_topi (fun z21_1 ez21_1 => ?_)
  refine lv_iload_n hx hb dX10_putImm_22 rfl (lv_at hl 1 rfl) ?_
  refine lv_ior hx hb dX10_putImm_23 ?_
  refine lv_topi (fun z23_1 ez23_1 => ?_)
  refine go_v (k1 := 0) (n1 := 0) (wr := []) [0, 1, 2] [] (rn_V (As := [.int z23_1]) (rest := []) (c_X10_put l D ct tl z23_1 tls o0 p0 x_tl_3 x_tl_4 o0r x_o0_1 g_o0r h_x_tl_3 h_x_tl_4 h_x_o0_1 _) (cb_of (n := 1) hn mw_1319 mw_10 mw_1316 mhX10_put ⟨(Nat.le_of_ble_eq_true rfl), (Nat.le_of_ble_eq_true rfl)⟩) hx hb hml hown hn hK hZ hS mw_1318 mw_s149 (ci := 10) (q0 := 0) rfl rfl rfl rfl hl.1 (Nat.le_of_ble_eq_true rfl) dX10_putImm_24 ⟨(Nat.le_of_ble_eq_true rfl), (Nat.le_of_ble_eq_true rfl)⟩) hP hD hS hA rfl rfl (by decide) (by decide) (by decide) (Nat.le_of_ble_eq_true rfl) (Nat.le_of_ble_eq_true rfl) (fun u24_2 H locs hp24_3 hP hD hS => ?_)
  obtain ⟨y_tl_424_4, k_o0r24_5⟩ := u24_2
  have hp24_6 := hp24_3
  have hp24_6 : rg y_tl_424_4 1 1073741825 := hp24_6
  have hP : va_P D vwCl [(tl, .inr (10, [.ref tls, .ref o0, .ref p0, .int x_tl_3, .int y_tl_424_4])), (o0, .inr (5, [.ref o0r, .int x_o0_1])), (o0r, .inl (ct 1, 60000, .inl k_o0r24_5))] _ := hP
  have hD : va_D A [(tl, .inr (10, [.ref tls, .ref o0, .ref p0, .int x_tl_3, .int y_tl_424_4])), (o0, .inr (5, [.ref o0r, .int x_o0_1])), (o0r, .inl (ct 1, 60000, .inl k_o0r24_5))] := hD
  exact endq_v hQ hx hb hr hlocks dX10_putImm_27 (y_tl_424_4, k_o0r24_5) hp24_6 hP hD hS [0, 1, 2] rfl (by decide) rfl (Nat.le_of_ble_eq_true rfl) (Nat.le_of_ble_eq_true rfl)
set_option maxHeartbeats 2000000 in
theorem c_X10_putCut (l : Launch) (D : va_G) (ct : Nat → ClassId) (tl : Nat) (v0 : Int32) (tls : Nat) (o0 : Nat) (p0 : Nat) (x_tl_3 : Int32) (x_tl_4 : Int32) (o0r : Nat) (x_o0_1 : Int32) (g_o0r : Nat → Int32) (h_x_tl_3 : rg x_tl_3 0 1) (h_x_tl_4 : rg x_tl_4 0 1073741824) (h_x_o0_1 : rg x_o0_1 0 60000) : KV (S := Int32 × (Nat → Int32)) l yX10_putCut cX10_putCut 2 none 3 66 D ct [.ref tl, .int v0] [(tl, .inr (10, [.ref tls, .ref o0, .ref p0, .int x_tl_3, .int x_tl_4])), (o0, .inr (5, [.ref o0r, .int x_o0_1])), (o0r, .inl (ct 1, 60000, .inl g_o0r))] 0 0 (fun (u : Int32 × (Nat → Int32)) => match u with | (y_tl_4, k_o0r) => rg y_tl_4 1 1073741825) (fun (u : Int32 × (Nat → Int32)) => match u with | (y_tl_4, k_o0r) => [(tl, .inr (10, [.ref tls, .ref o0, .ref p0, .int x_tl_3, .int y_tl_4])), (o0, .inr (5, [.ref o0r, .int x_o0_1])), (o0r, .inl (ct 1, 60000, .inl k_o0r))]) := by
  refine KVq_of (by decide) (Nat.le_of_ble_eq_true rfl) (fun p e s m below meth c A Q C0 hA hS hP hD hQ ls hl => ?_)
  obtain ⟨hx, hb, hr, hown, hin, hml, hlocks, hn, hK, hZ⟩ := C0
  have hl : lv_has ls 2 [(0, .ref tl), (1, .int v0)] := hl
  refine lv_aload_n hx hb dX10_putCut_0 rfl (lv_at hl 0 rfl) ?_
  refine lv_bipush (v := 19) hx hb dX10_putCut_1 (by decide) ?_
  refine lv_iconst (v := 1) hx hb dX10_putCut_3 (by decide) ?_
  refine lv_iload_n hx hb dX10_putCut_4 rfl (lv_at hl 1 rfl) ?_
  refine lv_iload_n hx hb dX10_putCut_5 rfl (lv_at hl 1 rfl) ?_
  refine lv_bipush (v := 32) hx hb dX10_putCut_6 (by decide) ?_
  refine go_v (k1 := 0) (n1 := 0) (wr := []) [0, 1, 2] [] (rn_V (As := [.int 19, .int 1, .int v0, .int v0, .int 32]) (rest := []) (c_X10_putImm l D ct tl (19 : Int32) (1 : Int32) v0 v0 (32 : Int32) tls o0 p0 x_tl_3 x_tl_4 o0r x_o0_1 g_o0r h_x_tl_3 h_x_tl_4 h_x_o0_1 _) (cb_of (n := 5) hn mw_1341 mw_10 mw_1338 mhX10_putImm ⟨(Nat.le_of_ble_eq_true rfl), (Nat.le_of_ble_eq_true rfl)⟩) hx hb hml hown hn hK hZ hS mw_1340 mw_s154 (ci := 10) (q0 := 0) rfl rfl rfl rfl hl.1 (Nat.le_of_ble_eq_true rfl) dX10_putCut_8 ⟨(Nat.le_of_ble_eq_true rfl), (Nat.le_of_ble_eq_true rfl)⟩) hP hD hS hA rfl rfl (by decide) (by decide) (by decide) (Nat.le_of_ble_eq_true rfl) (Nat.le_of_ble_eq_true rfl) (fun u8_2 H locs hp8_3 hP hD hS => ?_)
  obtain ⟨y_tl_48_4, k_o0r8_5⟩ := u8_2
  have hp8_6 := hp8_3
  have hp8_6 : rg y_tl_48_4 1 1073741825 := hp8_6
  have hP : va_P D vwCl [(tl, .inr (10, [.ref tls, .ref o0, .ref p0, .int x_tl_3, .int y_tl_48_4])), (o0, .inr (5, [.ref o0r, .int x_o0_1])), (o0r, .inl (ct 1, 60000, .inl k_o0r8_5))] _ := hP
  have hD : va_D A [(tl, .inr (10, [.ref tls, .ref o0, .ref p0, .int x_tl_3, .int y_tl_48_4])), (o0, .inr (5, [.ref o0r, .int x_o0_1])), (o0r, .inl (ct 1, 60000, .inl k_o0r8_5))] := hD
  refine lv_aload_n hx hb dX10_putCut_11 rfl (lv_at hl 0 rfl) ?_
  refine lv_bipush (v := 19) hx hb dX10_putCut_12 (by decide) ?_
  refine lv_iconst (v := 5) hx hb dX10_putCut_14 (by decide) ?_
  refine lv_iload_n hx hb dX10_putCut_15 rfl (lv_at hl 1 rfl) ?_
  refine lv_iload_n hx hb dX10_putCut_16 rfl (lv_at hl 1 rfl) ?_
  refine lv_bipush (v := 32) hx hb dX10_putCut_17 (by decide) ?_
  refine go_v (k1 := 0) (n1 := 0) (wr := []) [0, 1, 2] [] (rn_V (As := [.int 19, .int 5, .int v0, .int v0, .int 32]) (rest := []) (c_X10_putImm l D ct tl (19 : Int32) (5 : Int32) v0 v0 (32 : Int32) tls o0 p0 x_tl_3 y_tl_48_4 o0r x_o0_1 k_o0r8_5 h_x_tl_3 (rg_of (show 0 ≤ y_tl_48_4.toInt ∧ y_tl_48_4.toInt ≤ 1073741824 by have q0 := hp8_6.1; have q1 := hp8_6.2; omega)) h_x_o0_1 _) (cb_of (n := 5) hn mw_1341 mw_10 mw_1338 mhX10_putImm ⟨(Nat.le_of_ble_eq_true rfl), (Nat.le_of_ble_eq_true rfl)⟩) hx hb hml hown hn hK hZ hS mw_1340 mw_s154 (ci := 10) (q0 := 0) rfl rfl rfl rfl hl.1 (Nat.le_of_ble_eq_true rfl) dX10_putCut_19 ⟨(Nat.le_of_ble_eq_true rfl), (Nat.le_of_ble_eq_true rfl)⟩) hP hD hS hA rfl rfl (by decide) (by decide) (by decide) (Nat.le_of_ble_eq_true rfl) (Nat.le_of_ble_eq_true rfl) (fun u19_2 H locs hp19_3 hP hD hS => ?_)
  obtain ⟨y_tl_419_4, k_o0r19_5⟩ := u19_2
  have hp19_6 := hp19_3
  have hp19_6 : rg y_tl_419_4 1 1073741825 := hp19_6
  have hP : va_P D vwCl [(tl, .inr (10, [.ref tls, .ref o0, .ref p0, .int x_tl_3, .int y_tl_419_4])), (o0, .inr (5, [.ref o0r, .int x_o0_1])), (o0r, .inl (ct 1, 60000, .inl k_o0r19_5))] _ := hP
  have hD : va_D A [(tl, .inr (10, [.ref tls, .ref o0, .ref p0, .int x_tl_3, .int y_tl_419_4])), (o0, .inr (5, [.ref o0r, .int x_o0_1])), (o0r, .inl (ct 1, 60000, .inl k_o0r19_5))] := hD
  exact endq_v hQ hx hb hr hlocks dX10_putCut_22 (y_tl_419_4, k_o0r19_5) hp19_6 hP hD hS [0, 1, 2] rfl (by decide) rfl (Nat.le_of_ble_eq_true rfl) (Nat.le_of_ble_eq_true rfl)
set_option maxHeartbeats 2000000 in
theorem c_X10_putGoing (l : Launch) (D : va_G) (ct : Nat → ClassId) (tl : Nat) (v0 : Int32) (tls : Nat) (o0 : Nat) (p0 : Nat) (x_tl_3 : Int32) (x_tl_4 : Int32) (o0r : Nat) (x_o0_1 : Int32) (g_o0r : Nat → Int32) (h_x_tl_3 : rg x_tl_3 0 1) (h_x_tl_4 : rg x_tl_4 0 1073741824) (h_x_o0_1 : rg x_o0_1 0 60000) : KV (S := Int32 × (Nat → Int32)) l yX10_putGoing cX10_putGoing 3 none 2 41 D ct [.ref tl, .int v0] [(tl, .inr (10, [.ref tls, .ref o0, .ref p0, .int x_tl_3, .int x_tl_4])), (o0, .inr (5, [.ref o0r, .int x_o0_1])), (o0r, .inl (ct 1, 60000, .inl g_o0r))] 0 0 (fun (u : Int32 × (Nat → Int32)) => match u with | (y_tl_4, k_o0r) => rg y_tl_4 1 1073741825) (fun (u : Int32 × (Nat → Int32)) => match u with | (y_tl_4, k_o0r) => [(tl, .inr (10, [.ref tls, .ref o0, .ref p0, .int x_tl_3, .int y_tl_4])), (o0, .inr (5, [.ref o0r, .int x_o0_1])), (o0r, .inl (ct 1, 60000, .inl k_o0r))]) := by
  refine KVq_of (by decide) (Nat.le_of_ble_eq_true rfl) (fun p e s m below meth c A Q C0 hA hS hP hD hQ ls hl => ?_)
  obtain ⟨hx, hb, hr, hown, hin, hml, hlocks, hn, hK, hZ⟩ := C0
  have hl : lv_has ls 3 [(0, .ref tl), (1, .int v0)] := hl
  refine lv_iload_n hx hb dX10_putGoing_0 rfl (lv_at hl 1 rfl) ?_
  refine lv_bipush (v := 20) hx hb dX10_putGoing_1 (by decide) ?_
  refine lv_ishr hx hb dX10_putGoing_3 ?_
  refine lv_topi (fun z3_1 ez3_1 => ?_)
  have r3_2 : rg z3_1 (-2048) 2047 := rg_shr (k := 20) ez3_1 (by decide) (rg_any _) (by decide)
  refine lv_iconst (v := 1) hx hb dX10_putGoing_4 (by decide) ?_
  refine lv_iand hx hb dX10_putGoing_5 ?_
  refine lv_topi (fun z5_1 ez5_1 => ?_)
  have r5_2 : rg z5_1 0 1 := rg_andr ez5_1 (rg_l (by decide)) (by decide)
  refine lv_istore_n (lv' := [(2, .int z5_1), (0, .ref tl), (1, .int v0)]) hx hb dX10_putGoing_6 rfl hl (by decide) rfl (fun ls hl => ?_)
  refine lv_aload_n hx hb dX10_putGoing_7 rfl (lv_at hl 1 rfl) ?_
  refine lv_iload_n hx hb dX10_putGoing_8 rfl (lv_at hl 0 rfl) ?_
  refine lv_bipush (v := 31) hx hb dX10_putGoing_9 (by decide) ?_
  refine lv_ishl hx hb dX10_putGoing_11 ?_
  refine lv_topi (fun z11_1 ez11_1 => ?_)
  refine lv_iload_n hx hb dX10_putGoing_12 rfl (lv_at hl 2 rfl) ?_
  refine lv_iconst (v := 1) hx hb dX10_putGoing_13 (by decide) ?_
  refine lv_ishr hx hb dX10_putGoing_14 ?_
  refine lv_topi (fun z14_1 ez14_1 => ?_)
  have r14_2 : rg z14_1 (-1073741824) 1073741823 := rg_shr (k := 1) ez14_1 (by decide) (rg_any _) (by decide)
  refine lv_sipush (v := 1023) hx hb dX10_putGoing_15 (by decide) ?_
  refine lv_iand hx hb dX10_putGoing_18 ?_
  refine lv_topi (fun z18_1 ez18_1 => ?_)
  have r18_2 : rg z18_1 0 1023 := rg_andr ez18_1 (rg_l (by decide)) (by decide)
  refine lv_bipush (v := 21) hx hb dX10_putGoing_19 (by decide) ?_
  refine lv_ishl hx hb dX10_putGoing_21 ?_
  refine lv_topi (fun z21_1 ez21_1 => ?_)
  have r21_2 : rg z21_1 0 2145386496 := rg_shl (c := 2097152) (k := 21) ez21_1 (by decide) r18_2 (by decide)
  refine lv_ior hx hb dX10_putGoing_22 ?_
  refine lv_topi (fun z22_1 ez22_1 => ?_)
  refine lv_iload_n hx hb dX10_putGoing_23 rfl (lv_at hl 2 rfl) ?_
  refine lv_bipush (v := 11) hx hb dX10_putGoing_24 (by decide) ?_
  refine lv_ishr hx hb dX10_putGoing_26 ?_
  refine lv_topi (fun z26_1 ez26_1 => ?_)
  have r26_2 : rg z26_1 (-1048576) 1048575 := rg_shr (k := 11) ez26_1 (by decide) (rg_any _) (by decide)
  refine lv_iconst (v := 1) hx hb dX10_putGoing_27 (by decide) ?_
  refine lv_iand hx hb dX10_putGoing_28 ?_
  refine lv_topi (fun z28_1 ez28_1 => ?_)
  have r28_2 : rg z28_1 0 1 := rg_andr ez28_1 (rg_l (by decide)) (by decide)
  refine lv_bipush (v := 20) hx hb dX10_putGoing_29 (by decide) ?_
  refine lv_ishl hx hb dX10_putGoing_31 ?_
  refine lv_topi (fun z31_1 ez31_1 => ?_)
  have r31_2 : rg z31_1 0 1048576 := rg_shl (c := 1048576) (k := 20) ez31_1 (by decide) r28_2 (by decide)
  refine lv_ior hx hb dX10_putGoing_32 ?_
  refine lv_topi (fun z32_1 ez32_1 => ?_)
  refine lv_iload_n hx hb dX10_putGoing_33 rfl (lv_at hl 2 rfl) ?_
  refine lv_ldc (v := 1044480) hx hb hown (hn.get mw_1350 rfl) dX10_putGoing_34 ?_
  refine lv_iand hx hb dX10_putGoing_36 ?_
  refine lv_topi (fun z36_1 ez36_1 => ?_)
  have r36_2 : rg z36_1 0 1044480 := rg_andr ez36_1 (rg_l (by decide)) (by decide)
  refine lv_ior hx hb dX10_putGoing_37 ?_
  refine lv_topi (fun z37_1 ez37_1 => ?_)
  refine lv_bipush (v := 111) hx hb dX10_putGoing_38 (by decide) ?_
  refine lv_ior hx hb dX10_putGoing_40 ?_
  refine lv_topi (fun z40_1 ez40_1 => ?_)
  refine go_v (k1 := 0) (n1 := 0) (wr := []) [0, 1, 2] [] (rn_V (As := [.int z40_1]) (rest := []) (c_X10_put l D ct tl z40_1 tls o0 p0 x_tl_3 x_tl_4 o0r x_o0_1 g_o0r h_x_tl_3 h_x_tl_4 h_x_o0_1 _) (cb_of (n := 1) hn mw_1319 mw_10 mw_1316 mhX10_put ⟨(Nat.le_of_ble_eq_true rfl), (Nat.le_of_ble_eq_true rfl)⟩) hx hb hml hown hn hK hZ hS mw_1318 mw_s149 (ci := 10) (q0 := 0) rfl rfl rfl rfl hl.1 (Nat.le_of_ble_eq_true rfl) dX10_putGoing_41 ⟨(Nat.le_of_ble_eq_true rfl), (Nat.le_of_ble_eq_true rfl)⟩) hP hD hS hA rfl rfl (by decide) (by decide) (by decide) (Nat.le_of_ble_eq_true rfl) (Nat.le_of_ble_eq_true rfl) (fun u41_2 H locs hp41_3 hP hD hS => ?_)
  obtain ⟨y_tl_441_4, k_o0r41_5⟩ := u41_2
  have hp41_6 := hp41_3
  have hp41_6 : rg y_tl_441_4 1 1073741825 := hp41_6
  have hP : va_P D vwCl [(tl, .inr (10, [.ref tls, .ref o0, .ref p0, .int x_tl_3, .int y_tl_441_4])), (o0, .inr (5, [.ref o0r, .int x_o0_1])), (o0r, .inl (ct 1, 60000, .inl k_o0r41_5))] _ := hP
  have hD : va_D A [(tl, .inr (10, [.ref tls, .ref o0, .ref p0, .int x_tl_3, .int y_tl_441_4])), (o0, .inr (5, [.ref o0r, .int x_o0_1])), (o0r, .inl (ct 1, 60000, .inl k_o0r41_5))] := hD
  exact endq_v hQ hx hb hr hlocks dX10_putGoing_44 (y_tl_441_4, k_o0r41_5) hp41_6 hP hD hS [0, 1, 2] rfl (by decide) rfl (Nat.le_of_ble_eq_true rfl) (Nat.le_of_ble_eq_true rfl)
set_option maxHeartbeats 2000000 in
theorem c_X10_putNumber (l : Launch) (D : va_G) (ct : Nat → ClassId) (tl : Nat) (v0 : Int32) (v1 : Int32) (tls : Nat) (o0 : Nat) (p0 : Nat) (x_tl_3 : Int32) (x_tl_4 : Int32) (o0r : Nat) (x_o0_1 : Int32) (g_o0r : Nat → Int32) (h_x_tl_3 : rg x_tl_3 0 1) (h_x_tl_4 : rg x_tl_4 0 1073741824) (h_x_o0_1 : rg x_o0_1 0 60000) : KV (S := Int32 × (Nat → Int32)) l yX10_putNumber cX10_putNumber 3 none 2 41 D ct [.ref tl, .int v0, .int v1] [(tl, .inr (10, [.ref tls, .ref o0, .ref p0, .int x_tl_3, .int x_tl_4])), (o0, .inr (5, [.ref o0r, .int x_o0_1])), (o0r, .inl (ct 1, 60000, .inl g_o0r))] 0 0 (fun (u : Int32 × (Nat → Int32)) => match u with | (y_tl_4, k_o0r) => rg y_tl_4 1 1073741825) (fun (u : Int32 × (Nat → Int32)) => match u with | (y_tl_4, k_o0r) => [(tl, .inr (10, [.ref tls, .ref o0, .ref p0, .int x_tl_3, .int y_tl_4])), (o0, .inr (5, [.ref o0r, .int x_o0_1])), (o0r, .inl (ct 1, 60000, .inl k_o0r))]) := by
  refine KVq_of (by decide) (Nat.le_of_ble_eq_true rfl) (fun p e s m below meth c A Q C0 hA hS hP hD hQ ls hl => ?_)
  obtain ⟨hx, hb, hr, hown, hin, hml, hlocks, hn, hK, hZ⟩ := C0
  have hl : lv_has ls 3 [(0, .ref tl), (1, .int v0), (2, .int v1)] := hl
  refine lv_iload_n hx hb dX10_putNumber_0 rfl (lv_at hl 2 rfl) ?_
  refine lv_sipush (v := (-2048)) hx hb dX10_putNumber_1 (by decide) ?_
  have b31 : ∀  (H : Heap) (locs : List Loc) (ls : Array Slot), lv_has ls 3 [(0, .ref tl), (1, .int v0), (2, .int v1)] → va_P D vwCl [(tl, .inr (10, [.ref tls, .ref o0, .ref p0, .int x_tl_3, .int x_tl_4])), (o0, .inr (5, [.ref o0r, .int x_o0_1])), (o0r, .inl (ct 1, 60000, .inl g_o0r))] H → va_D A [(tl, .inr (10, [.ref tls, .ref o0, .ref p0, .int x_tl_3, .int x_tl_4])), (o0, .inr (5, [.ref o0r, .int x_o0_1])), (o0r, .inl (ct 1, 60000, .inl g_o0r))] → va_S A s.heap H locs → W p l e ({ frames := 2, cells := 0, slots := 0, locals := 41 }) s m [.ref tl, .int v0, .int v1].toArray below meth c H locs 0 0 Q (F0 m 31 ls []) := by
    intro  H locs ls  hl hP hD hS
    refine lv_aload_n hx hb dX10_putNumber_31 rfl (lv_at hl 0 rfl) ?_
    refine lv_iload_n hx hb dX10_putNumber_32 rfl (lv_at hl 2 rfl) ?_
    refine lv_sipush (v := 2048) hx hb dX10_putNumber_33 (by decide) ?_
    refine lv_iadd hx hb dX10_putNumber_36 ?_
    refine lv_topi (fun z36_1 ez36_1 => ?_)
    refine lv_sipush (v := (-4096)) hx hb dX10_putNumber_37 (by decide) ?_
    refine lv_iand hx hb dX10_putNumber_40 ?_
    refine lv_topi (fun z40_1 ez40_1 => ?_)
    refine lv_iload_n hx hb dX10_putNumber_41 rfl (lv_at hl 1 rfl) ?_
    refine lv_bipush (v := 7) hx hb dX10_putNumber_42 (by decide) ?_
    refine lv_ishl hx hb dX10_putNumber_44 ?_
    refine lv_topi (fun z44_1 ez44_1 => ?_)
    refine lv_ior hx hb dX10_putNumber_45 ?_
    refine lv_topi (fun z45_1 ez45_1 => ?_)
    refine lv_bipush (v := 55) hx hb dX10_putNumber_46 (by decide) ?_
    refine lv_ior hx hb dX10_putNumber_48 ?_
    refine lv_topi (fun z48_1 ez48_1 => ?_)
    refine go_v (k1 := 0) (n1 := 0) (wr := []) [0, 1, 2] [] (rn_V (As := [.int z48_1]) (rest := []) (c_X10_put l D ct tl z48_1 tls o0 p0 x_tl_3 x_tl_4 o0r x_o0_1 g_o0r h_x_tl_3 h_x_tl_4 h_x_o0_1 _) (cb_of (n := 1) hn mw_1319 mw_10 mw_1316 mhX10_put ⟨(Nat.le_of_ble_eq_true rfl), (Nat.le_of_ble_eq_true rfl)⟩) hx hb hml hown hn hK hZ hS mw_1318 mw_s149 (ci := 10) (q0 := 0) rfl rfl rfl rfl hl.1 (Nat.le_of_ble_eq_true rfl) dX10_putNumber_49 ⟨(Nat.le_of_ble_eq_true rfl), (Nat.le_of_ble_eq_true rfl)⟩) hP hD hS hA rfl rfl (by decide) (by decide) (by decide) (Nat.le_of_ble_eq_true rfl) (Nat.le_of_ble_eq_true rfl) (fun u49_2 H locs hp49_3 hP hD hS => ?_)
    obtain ⟨y_tl_449_4, k_o0r49_5⟩ := u49_2
    have hp49_6 := hp49_3
    have hp49_6 : rg y_tl_449_4 1 1073741825 := hp49_6
    have hP : va_P D vwCl [(tl, .inr (10, [.ref tls, .ref o0, .ref p0, .int x_tl_3, .int y_tl_449_4])), (o0, .inr (5, [.ref o0r, .int x_o0_1])), (o0r, .inl (ct 1, 60000, .inl k_o0r49_5))] _ := hP
    have hD : va_D A [(tl, .inr (10, [.ref tls, .ref o0, .ref p0, .int x_tl_3, .int y_tl_449_4])), (o0, .inr (5, [.ref o0r, .int x_o0_1])), (o0r, .inl (ct 1, 60000, .inl k_o0r49_5))] := hD
    refine lv_aload_n hx hb dX10_putNumber_52 rfl (lv_at hl 0 rfl) ?_
    refine lv_iload_n hx hb dX10_putNumber_53 rfl (lv_at hl 2 rfl) ?_
    refine lv_bipush (v := 20) hx hb dX10_putNumber_54 (by decide) ?_
    refine lv_ishl hx hb dX10_putNumber_56 ?_
    refine lv_topi (fun z56_1 ez56_1 => ?_)
    refine lv_iload_n hx hb dX10_putNumber_57 rfl (lv_at hl 1 rfl) ?_
    refine lv_bipush (v := 15) hx hb dX10_putNumber_58 (by decide) ?_
    refine lv_ishl hx hb dX10_putNumber_60 ?_
    refine lv_topi (fun z60_1 ez60_1 => ?_)
    refine lv_ior hx hb dX10_putNumber_61 ?_
    refine lv_topi (fun z61_1 ez61_1 => ?_)
    refine lv_iload_n hx hb dX10_putNumber_62 rfl (lv_at hl 1 rfl) ?_
    refine lv_bipush (v := 7) hx hb dX10_putNumber_63 (by decide) ?_
    refine lv_ishl hx hb dX10_putNumber_65 ?_
    refine lv_topi (fun z65_1 ez65_1 => ?_)
    refine lv_ior hx hb dX10_putNumber_66 ?_
    refine lv_topi (fun z66_1 ez66_1 => ?_)
    refine lv_bipush (v := 27) hx hb dX10_putNumber_67 (by decide) ?_
    refine lv_ior hx hb dX10_putNumber_69 ?_
    refine lv_topi (fun z69_1 ez69_1 => ?_)
    refine go_v (k1 := 0) (n1 := 0) (wr := []) [0, 1, 2] [] (rn_V (As := [.int z69_1]) (rest := []) (c_X10_put l D ct tl z69_1 tls o0 p0 x_tl_3 y_tl_449_4 o0r x_o0_1 k_o0r49_5 h_x_tl_3 (rg_of (show 0 ≤ y_tl_449_4.toInt ∧ y_tl_449_4.toInt ≤ 1073741824 by have q0 := hp49_6.1; have q1 := hp49_6.2; omega)) h_x_o0_1 _) (cb_of (n := 1) hn mw_1319 mw_10 mw_1316 mhX10_put ⟨(Nat.le_of_ble_eq_true rfl), (Nat.le_of_ble_eq_true rfl)⟩) hx hb hml hown hn hK hZ hS mw_1318 mw_s149 (ci := 10) (q0 := 0) rfl rfl rfl rfl hl.1 (Nat.le_of_ble_eq_true rfl) dX10_putNumber_70 ⟨(Nat.le_of_ble_eq_true rfl), (Nat.le_of_ble_eq_true rfl)⟩) hP hD hS hA rfl rfl (by decide) (by decide) (by decide) (Nat.le_of_ble_eq_true rfl) (Nat.le_of_ble_eq_true rfl) (fun u70_2 H locs hp70_3 hP hD hS => ?_)
    obtain ⟨y_tl_470_4, k_o0r70_5⟩ := u70_2
    have hp70_6 := hp70_3
    have hp70_6 : rg y_tl_470_4 1 1073741825 := hp70_6
    have hP : va_P D vwCl [(tl, .inr (10, [.ref tls, .ref o0, .ref p0, .int x_tl_3, .int y_tl_470_4])), (o0, .inr (5, [.ref o0r, .int x_o0_1])), (o0r, .inl (ct 1, 60000, .inl k_o0r70_5))] _ := hP
    have hD : va_D A [(tl, .inr (10, [.ref tls, .ref o0, .ref p0, .int x_tl_3, .int y_tl_470_4])), (o0, .inr (5, [.ref o0r, .int x_o0_1])), (o0r, .inl (ct 1, 60000, .inl k_o0r70_5))] := hD
    exact endq_v hQ hx hb hr hlocks dX10_putNumber_73 (y_tl_470_4, k_o0r70_5) hp70_6 hP hD hS [0, 1, 2] rfl (by decide) rfl (Nat.le_of_ble_eq_true rfl) (Nat.le_of_ble_eq_true rfl)
  refine lv_icmp_lt (tgt := 31) hx hb dX10_putNumber_4 (by decide) (fun c4_1 => ?_) (fun c4_1 => ?_)
  · have t4_2 := (i_lt c4_1)
    have r4_3 : rg v1 (-2147483648) (-2049) := rg_ltA t4_2 (rg_any v1) (show rg (-2048 : Int32) (-2048) (-2048) from (rg_l (by decide))) (by decide)
    exact b31  H locs ls  (lv_sub hl [0, 1, 2] rfl) hP hD hS
  · have t4_4 := (i_nlt c4_1)
    have r4_5 : rg v1 (-2048) 2147483647 := rg_leB t4_4 (show rg (-2048 : Int32) (-2048) (-2048) from (rg_l (by decide))) (rg_any v1) (by decide)
    refine lv_iload_n hx hb dX10_putNumber_7 rfl (lv_at hl 2 rfl) ?_
    refine lv_sipush (v := 2047) hx hb dX10_putNumber_8 (by decide) ?_
    refine lv_icmp_gt (tgt := 31) hx hb dX10_putNumber_11 (by decide) (fun c11_1 => ?_) (fun c11_1 => ?_)
    · have t11_2 := (i_lt c11_1)
      have r11_3 : rg v1 2048 2147483647 := rg_ltB t11_2 (show rg (2047 : Int32) 2047 2047 from (rg_l (by decide))) r4_5 (by decide)
      exact b31  H locs ls  (lv_sub hl [0, 1, 2] rfl) hP hD hS
    · have t11_4 := (i_nlt c11_1)
      have r11_5 : rg v1 (-2048) 2047 := rg_leA t11_4 r4_5 (show rg (2047 : Int32) 2047 2047 from (rg_l (by decide))) (by decide)
      refine lv_aload_n hx hb dX10_putNumber_14 rfl (lv_at hl 0 rfl) ?_
      refine lv_iload_n hx hb dX10_putNumber_15 rfl (lv_at hl 2 rfl) ?_
      refine lv_bipush (v := 20) hx hb dX10_putNumber_16 (by decide) ?_
      refine lv_ishl hx hb dX10_putNumber_18 ?_
      refine lv_topi (fun z18_1 ez18_1 => ?_)
      refine lv_iload_n hx hb dX10_putNumber_19 rfl (lv_at hl 1 rfl) ?_
      refine lv_bipush (v := 7) hx hb dX10_putNumber_20 (by decide) ?_
      refine lv_ishl hx hb dX10_putNumber_22 ?_
      refine lv_topi (fun z22_1 ez22_1 => ?_)
      refine lv_ior hx hb dX10_putNumber_23 ?_
      refine lv_topi (fun z23_1 ez23_1 => ?_)
      refine lv_bipush (v := 19) hx hb dX10_putNumber_24 (by decide) ?_
      refine lv_ior hx hb dX10_putNumber_26 ?_
      refine lv_topi (fun z26_1 ez26_1 => ?_)
      refine go_v (k1 := 0) (n1 := 0) (wr := []) [0, 1, 2] [] (rn_V (As := [.int z26_1]) (rest := []) (c_X10_put l D ct tl z26_1 tls o0 p0 x_tl_3 x_tl_4 o0r x_o0_1 g_o0r h_x_tl_3 h_x_tl_4 h_x_o0_1 _) (cb_of (n := 1) hn mw_1319 mw_10 mw_1316 mhX10_put ⟨(Nat.le_of_ble_eq_true rfl), (Nat.le_of_ble_eq_true rfl)⟩) hx hb hml hown hn hK hZ hS mw_1318 mw_s149 (ci := 10) (q0 := 0) rfl rfl rfl rfl hl.1 (Nat.le_of_ble_eq_true rfl) dX10_putNumber_27 ⟨(Nat.le_of_ble_eq_true rfl), (Nat.le_of_ble_eq_true rfl)⟩) hP hD hS hA rfl rfl (by decide) (by decide) (by decide) (Nat.le_of_ble_eq_true rfl) (Nat.le_of_ble_eq_true rfl) (fun u27_2 H locs hp27_3 hP hD hS => ?_)
      obtain ⟨y_tl_427_4, k_o0r27_5⟩ := u27_2
      have hp27_6 := hp27_3
      have hp27_6 : rg y_tl_427_4 1 1073741825 := hp27_6
      have hP : va_P D vwCl [(tl, .inr (10, [.ref tls, .ref o0, .ref p0, .int x_tl_3, .int y_tl_427_4])), (o0, .inr (5, [.ref o0r, .int x_o0_1])), (o0r, .inl (ct 1, 60000, .inl k_o0r27_5))] _ := hP
      have hD : va_D A [(tl, .inr (10, [.ref tls, .ref o0, .ref p0, .int x_tl_3, .int y_tl_427_4])), (o0, .inr (5, [.ref o0r, .int x_o0_1])), (o0r, .inl (ct 1, 60000, .inl k_o0r27_5))] := hD
      exact endq_v hQ hx hb hr hlocks dX10_putNumber_30 (y_tl_427_4, k_o0r27_5) hp27_6 hP hD hS [0, 1, 2] rfl (by decide) rfl (Nat.le_of_ble_eq_true rfl) (Nat.le_of_ble_eq_true rfl)
set_option maxHeartbeats 2000000 in
theorem c_X10_putOp (l : Launch) (D : va_G) (ct : Nat → ClassId) (tl : Nat) (v0 : Int32) (v1 : Int32) (v2 : Int32) (v3 : Int32) (v4 : Int32) (v5 : Int32) (tls : Nat) (o0 : Nat) (p0 : Nat) (x_tl_3 : Int32) (x_tl_4 : Int32) (o0r : Nat) (x_o0_1 : Int32) (g_o0r : Nat → Int32) (h_x_tl_3 : rg x_tl_3 0 1) (h_x_tl_4 : rg x_tl_4 0 1073741824) (h_x_o0_1 : rg x_o0_1 0 60000) : KV (S := Int32 × (Nat → Int32)) l yX10_putOp cX10_putOp 7 none 2 41 D ct [.ref tl, .int v0, .int v1, .int v2, .int v3, .int v4, .int v5] [(tl, .inr (10, [.ref tls, .ref o0, .ref p0, .int x_tl_3, .int x_tl_4])), (o0, .inr (5, [.ref o0r, .int x_o0_1])), (o0r, .inl (ct 1, 60000, .inl g_o0r))] 0 0 (fun (u : Int32 × (Nat → Int32)) => match u with | (y_tl_4, k_o0r) => rg y_tl_4 1 1073741825) (fun (u : Int32 × (Nat → Int32)) => match u with | (y_tl_4, k_o0r) => [(tl, .inr (10, [.ref tls, .ref o0, .ref p0, .int x_tl_3, .int y_tl_4])), (o0, .inr (5, [.ref o0r, .int x_o0_1])), (o0r, .inl (ct 1, 60000, .inl k_o0r))]) := by
  refine KVq_of (by decide) (Nat.le_of_ble_eq_true rfl) (fun p e s m below meth c A Q C0 hA hS hP hD hQ ls hl => ?_)
  obtain ⟨hx, hb, hr, hown, hin, hml, hlocks, hn, hK, hZ⟩ := C0
  have hl : lv_has ls 7 [(0, .ref tl), (1, .int v0), (2, .int v1), (3, .int v2), (4, .int v3), (5, .int v4), (6, .int v5)] := hl
  refine lv_aload_n hx hb dX10_putOp_0 rfl (lv_at hl 0 rfl) ?_
  refine lv_iload_n hx hb dX10_putOp_1 rfl (lv_at hl 2 rfl) ?_
  refine lv_bipush (v := 25) hx hb dX10_putOp_2 (by decide) ?_
  refine lv_ishl hx hb dX10_putOp_4 ?_
  refine lv_topi (fun z4_1 ez4_1 => ?_)
  refine lv_iload hx hb dX10_putOp_5 (lv_at hl 6 rfl) ?_
  refine lv_bipush (v := 20) hx hb dX10_putOp_7 (by decide) ?_
  refine lv_ishl hx hb dX10_putOp_9 ?_
  refine lv_topi (fun z9_1 ez9_1 => ?_)
  refine lv_ior hx hb dX10_putOp_10 ?_
  refine lv_topi (fun z10_1 ez10_1 => ?_)
  refine lv_iload hx hb dX10_putOp_11 (lv_at hl 5 rfl) ?_
  refine lv_bipush (v := 15) hx hb dX10_putOp_13 (by decide) ?_
  refine lv_ishl hx hb dX10_putOp_15 ?_
  refine lv_topi (fun z15_1 ez15_1 => ?_)
  refine lv_ior hx hb dX10_putOp_16 ?_
  refine lv_topi (fun z16_1 ez16_1 => ?_)
  refine lv_iload_n hx hb dX10_putOp_17 rfl (lv_at hl 3 rfl) ?_
  refine lv_bipush (v := 12) hx hb dX10_putOp_18 (by decide) ?_
  refine lv_ishl hx hb dX10_putOp_20 ?_
  refine lv_topi (fun z20_1 ez20_1 => ?_)
  refine lv_ior hx hb dX10_putOp_21 ?_
  refine lv_topi (fun z21_1 ez21_1 => ?_)
  refine lv_iload hx hb dX10_putOp_22 (lv_at hl 4 rfl) ?_
  refine lv_bipush (v := 7) hx hb dX10_putOp_24 (by decide) ?_
  refine lv_ishl hx hb dX10_putOp_26 ?_
  refine lv_topi (fun z26_1 ez26_1 => ?_)
  refine lv_ior hx hb dX10_putOp_27 ?_
  refine lv_topi (fun z27_1 ez27_1 => ?_)
  refine lv_iload_n hx hb dX10_putOp_28 rfl (lv_at hl 1 rfl) ?_
  refine lv_ior hx hb dX10_putOp_29 ?_
  refine lv_topi (fun z29_1 ez29_1 => ?_)
  refine go_v (k1 := 0) (n1 := 0) (wr := []) [0, 1, 2] [] (rn_V (As := [.int z29_1]) (rest := []) (c_X10_put l D ct tl z29_1 tls o0 p0 x_tl_3 x_tl_4 o0r x_o0_1 g_o0r h_x_tl_3 h_x_tl_4 h_x_o0_1 _) (cb_of (n := 1) hn mw_1319 mw_10 mw_1316 mhX10_put ⟨(Nat.le_of_ble_eq_true rfl), (Nat.le_of_ble_eq_true rfl)⟩) hx hb hml hown hn hK hZ hS mw_1318 mw_s149 (ci := 10) (q0 := 0) rfl rfl rfl rfl hl.1 (Nat.le_of_ble_eq_true rfl) dX10_putOp_30 ⟨(Nat.le_of_ble_eq_true rfl), (Nat.le_of_ble_eq_true rfl)⟩) hP hD hS hA rfl rfl (by decide) (by decide) (by decide) (Nat.le_of_ble_eq_true rfl) (Nat.le_of_ble_eq_true rfl) (fun u30_2 H locs hp30_3 hP hD hS => ?_)
  obtain ⟨y_tl_430_4, k_o0r30_5⟩ := u30_2
  have hp30_6 := hp30_3
  have hp30_6 : rg y_tl_430_4 1 1073741825 := hp30_6
  have hP : va_P D vwCl [(tl, .inr (10, [.ref tls, .ref o0, .ref p0, .int x_tl_3, .int y_tl_430_4])), (o0, .inr (5, [.ref o0r, .int x_o0_1])), (o0r, .inl (ct 1, 60000, .inl k_o0r30_5))] _ := hP
  have hD : va_D A [(tl, .inr (10, [.ref tls, .ref o0, .ref p0, .int x_tl_3, .int y_tl_430_4])), (o0, .inr (5, [.ref o0r, .int x_o0_1])), (o0r, .inl (ct 1, 60000, .inl k_o0r30_5))] := hD
  exact endq_v hQ hx hb hr hlocks dX10_putOp_33 (y_tl_430_4, k_o0r30_5) hp30_6 hP hD hS [0, 1, 2] rfl (by decide) rfl (Nat.le_of_ble_eq_true rfl) (Nat.le_of_ble_eq_true rfl)
set_option maxHeartbeats 2000000 in
theorem c_X10_putPassing (l : Launch) (D : va_G) (ct : Nat → ClassId) (tl : Nat) (v0 : Int32) (v1 : Int32) (v2 : Int32) (tls : Nat) (o0 : Nat) (p0 : Nat) (x_tl_3 : Int32) (x_tl_4 : Int32) (o0r : Nat) (x_o0_1 : Int32) (g_o0r : Nat → Int32) (h_x_tl_3 : rg x_tl_3 0 1) (h_x_tl_4 : rg x_tl_4 0 1073741824) (h_x_o0_1 : rg x_o0_1 0 60000) : KV (S := Int32 × (Nat → Int32)) l yX10_putPassing cX10_putPassing 4 none 3 67 D ct [.ref tl, .int v0, .int v1, .int v2] [(tl, .inr (10, [.ref tls, .ref o0, .ref p0, .int x_tl_3, .int x_tl_4])), (o0, .inr (5, [.ref o0r, .int x_o0_1])), (o0r, .inl (ct 1, 60000, .inl g_o0r))] 0 0 (fun (u : Int32 × (Nat → Int32)) => match u with | (y_tl_4, k_o0r) => rg y_tl_4 1 1073741825) (fun (u : Int32 × (Nat → Int32)) => match u with | (y_tl_4, k_o0r) => [(tl, .inr (10, [.ref tls, .ref o0, .ref p0, .int x_tl_3, .int y_tl_4])), (o0, .inr (5, [.ref o0r, .int x_o0_1])), (o0r, .inl (ct 1, 60000, .inl k_o0r))]) := by
  refine KVq_of (by decide) (Nat.le_of_ble_eq_true rfl) (fun p e s m below meth c A Q C0 hA hS hP hD hQ ls hl => ?_)
  obtain ⟨hx, hb, hr, hown, hin, hml, hlocks, hn, hK, hZ⟩ := C0
  have hl : lv_has ls 4 [(0, .ref tl), (1, .int v0), (2, .int v1), (3, .int v2)] := hl
  refine lv_iload_n hx hb dX10_putPassing_0 rfl (lv_at hl 1 rfl) ?_
  have b202 : ∀  (H : Heap) (locs : List Loc) (ls : Array Slot), lv_has ls 4 [(0, .ref tl), (2, .int v1), (3, .int v2)] → va_P D vwCl [(tl, .inr (10, [.ref tls, .ref o0, .ref p0, .int x_tl_3, .int x_tl_4])), (o0, .inr (5, [.ref o0r, .int x_o0_1])), (o0r, .inl (ct 1, 60000, .inl g_o0r))] H → va_D A [(tl, .inr (10, [.ref tls, .ref o0, .ref p0, .int x_tl_3, .int x_tl_4])), (o0, .inr (5, [.ref o0r, .int x_o0_1])), (o0r, .inl (ct 1, 60000, .inl g_o0r))] → va_S A s.heap H locs → W p l e ({ frames := 3, cells := 0, slots := 0, locals := 67 }) s m [.ref tl, .int v0, .int v1, .int v2].toArray below meth c H locs 0 0 Q (F0 m 202 ls []) := by
    intro  H locs ls  hl hP hD hS
    refine lv_aload_n hx hb dX10_putPassing_202 rfl (lv_at hl 0 rfl) ?_
    refine lv_iconst (v := 4) hx hb dX10_putPassing_203 (by decide) ?_
    refine lv_iload_n hx hb dX10_putPassing_204 rfl (lv_at hl 2 rfl) ?_
    refine lv_iload_n hx hb dX10_putPassing_205 rfl (lv_at hl 1 rfl) ?_
    refine lv_bipush (v := 8) hx hb dX10_putPassing_206 (by decide) ?_
    refine go_v (k1 := 0) (n1 := 0) (wr := []) [0, 1, 2] [] (rn_V (As := [.int 4, .int v2, .int v1, .int 8]) (rest := []) (c_X10_putBranch l D ct tl (4 : Int32) v2 v1 (8 : Int32) tls o0 p0 x_tl_3 x_tl_4 o0r x_o0_1 g_o0r h_x_tl_3 h_x_tl_4 h_x_o0_1 _) (cb_of (n := 4) hn mw_1345 mw_10 mw_1342 mhX10_putBranch ⟨(Nat.le_of_ble_eq_true rfl), (Nat.le_of_ble_eq_true rfl)⟩) hx hb hml hown hn hK hZ hS mw_1344 mw_s155 (ci := 10) (q0 := 0) rfl rfl rfl rfl hl.1 (Nat.le_of_ble_eq_true rfl) dX10_putPassing_208 ⟨(Nat.le_of_ble_eq_true rfl), (Nat.le_of_ble_eq_true rfl)⟩) hP hD hS hA rfl rfl (by decide) (by decide) (by decide) (Nat.le_of_ble_eq_true rfl) (Nat.le_of_ble_eq_true rfl) (fun u208_2 H locs hp208_3 hP hD hS => ?_)
    obtain ⟨y_tl_4208_4, k_o0r208_5⟩ := u208_2
    have hp208_6 := hp208_3
    have hp208_6 : rg y_tl_4208_4 1 1073741825 := hp208_6
    have hP : va_P D vwCl [(tl, .inr (10, [.ref tls, .ref o0, .ref p0, .int x_tl_3, .int y_tl_4208_4])), (o0, .inr (5, [.ref o0r, .int x_o0_1])), (o0r, .inl (ct 1, 60000, .inl k_o0r208_5))] _ := hP
    have hD : va_D A [(tl, .inr (10, [.ref tls, .ref o0, .ref p0, .int x_tl_3, .int y_tl_4208_4])), (o0, .inr (5, [.ref o0r, .int x_o0_1])), (o0r, .inl (ct 1, 60000, .inl k_o0r208_5))] := hD
    exact endq_v hQ hx hb hr hlocks dX10_putPassing_211 (y_tl_4208_4, k_o0r208_5) hp208_6 hP hD hS [0, 1, 2] rfl (by decide) rfl (Nat.le_of_ble_eq_true rfl) (Nat.le_of_ble_eq_true rfl)
  by_cases h1_1 : v0.toInt = 1
  · have r1_2 : rg v0 1 1 := rg_at h1_1
    refine lv_tableIn (off := 89) (tgt := 90) hx hb dX10_putPassing_1 (by rw [h1_1]; decide) (by rw [h1_1]; decide) (by rw [h1_1]; rfl) (by decide) ?_
    refine lv_aload_n hx hb dX10_putPassing_90 rfl (lv_at hl 0 rfl) ?_
    refine lv_iconst (v := 1) hx hb dX10_putPassing_91 (by decide) ?_
    refine lv_iload_n hx hb dX10_putPassing_92 rfl (lv_at hl 2 rfl) ?_
    refine lv_iload_n hx hb dX10_putPassing_93 rfl (lv_at hl 3 rfl) ?_
    refine lv_bipush (v := 8) hx hb dX10_putPassing_94 (by decide) ?_
    refine go_v (k1 := 0) (n1 := 0) (wr := []) [0, 1, 2] [] (rn_V (As := [.int 1, .int v1, .int v2, .int 8]) (rest := []) (c_X10_putBranch l D ct tl (1 : Int32) v1 v2 (8 : Int32) tls o0 p0 x_tl_3 x_tl_4 o0r x_o0_1 g_o0r h_x_tl_3 h_x_tl_4 h_x_o0_1 _) (cb_of (n := 4) hn mw_1345 mw_10 mw_1342 mhX10_putBranch ⟨(Nat.le_of_ble_eq_true rfl), (Nat.le_of_ble_eq_true rfl)⟩) hx hb hml hown hn hK hZ hS mw_1344 mw_s155 (ci := 10) (q0 := 0) rfl rfl rfl rfl hl.1 (Nat.le_of_ble_eq_true rfl) dX10_putPassing_96 ⟨(Nat.le_of_ble_eq_true rfl), (Nat.le_of_ble_eq_true rfl)⟩) hP hD hS hA rfl rfl (by decide) (by decide) (by decide) (Nat.le_of_ble_eq_true rfl) (Nat.le_of_ble_eq_true rfl) (fun u96_2 H locs hp96_3 hP hD hS => ?_)
    obtain ⟨y_tl_496_4, k_o0r96_5⟩ := u96_2
    have hp96_6 := hp96_3
    have hp96_6 : rg y_tl_496_4 1 1073741825 := hp96_6
    have hP : va_P D vwCl [(tl, .inr (10, [.ref tls, .ref o0, .ref p0, .int x_tl_3, .int y_tl_496_4])), (o0, .inr (5, [.ref o0r, .int x_o0_1])), (o0r, .inl (ct 1, 60000, .inl k_o0r96_5))] _ := hP
    have hD : va_D A [(tl, .inr (10, [.ref tls, .ref o0, .ref p0, .int x_tl_3, .int y_tl_496_4])), (o0, .inr (5, [.ref o0r, .int x_o0_1])), (o0r, .inl (ct 1, 60000, .inl k_o0r96_5))] := hD
    refine lv_goto (tgt := 211) hx hb dX10_putPassing_99 (by decide) ?_
    exact endq_v hQ hx hb hr hlocks dX10_putPassing_211 (y_tl_496_4, k_o0r96_5) hp96_6 hP hD hS [0, 1, 2] rfl (by decide) rfl (Nat.le_of_ble_eq_true rfl) (Nat.le_of_ble_eq_true rfl)
  by_cases h211_1 : v0.toInt = 2
  · have r211_2 : rg v0 2 2 := rg_at h211_1
    refine lv_tableIn (off := 113) (tgt := 114) hx hb dX10_putPassing_1 (by rw [h211_1]; decide) (by rw [h211_1]; decide) (by rw [h211_1]; rfl) (by decide) ?_
    refine lv_aload_n hx hb dX10_putPassing_114 rfl (lv_at hl 0 rfl) ?_
    refine lv_bipush (v := 7) hx hb dX10_putPassing_115 (by decide) ?_
    refine lv_iload_n hx hb dX10_putPassing_117 rfl (lv_at hl 3 rfl) ?_
    refine lv_iload_n hx hb dX10_putPassing_118 rfl (lv_at hl 2 rfl) ?_
    refine lv_bipush (v := 8) hx hb dX10_putPassing_119 (by decide) ?_
    refine go_v (k1 := 0) (n1 := 0) (wr := []) [0, 1, 2] [] (rn_V (As := [.int 7, .int v2, .int v1, .int 8]) (rest := []) (c_X10_putBranch l D ct tl (7 : Int32) v2 v1 (8 : Int32) tls o0 p0 x_tl_3 x_tl_4 o0r x_o0_1 g_o0r h_x_tl_3 h_x_tl_4 h_x_o0_1 _) (cb_of (n := 4) hn mw_1345 mw_10 mw_1342 mhX10_putBranch ⟨(Nat.le_of_ble_eq_true rfl), (Nat.le_of_ble_eq_true rfl)⟩) hx hb hml hown hn hK hZ hS mw_1344 mw_s155 (ci := 10) (q0 := 0) rfl rfl rfl rfl hl.1 (Nat.le_of_ble_eq_true rfl) dX10_putPassing_121 ⟨(Nat.le_of_ble_eq_true rfl), (Nat.le_of_ble_eq_true rfl)⟩) hP hD hS hA rfl rfl (by decide) (by decide) (by decide) (Nat.le_of_ble_eq_true rfl) (Nat.le_of_ble_eq_true rfl) (fun u121_2 H locs hp121_3 hP hD hS => ?_)
    obtain ⟨y_tl_4121_4, k_o0r121_5⟩ := u121_2
    have hp121_6 := hp121_3
    have hp121_6 : rg y_tl_4121_4 1 1073741825 := hp121_6
    have hP : va_P D vwCl [(tl, .inr (10, [.ref tls, .ref o0, .ref p0, .int x_tl_3, .int y_tl_4121_4])), (o0, .inr (5, [.ref o0r, .int x_o0_1])), (o0r, .inl (ct 1, 60000, .inl k_o0r121_5))] _ := hP
    have hD : va_D A [(tl, .inr (10, [.ref tls, .ref o0, .ref p0, .int x_tl_3, .int y_tl_4121_4])), (o0, .inr (5, [.ref o0r, .int x_o0_1])), (o0r, .inl (ct 1, 60000, .inl k_o0r121_5))] := hD
    refine lv_goto (tgt := 211) hx hb dX10_putPassing_124 (by decide) ?_
    exact endq_v hQ hx hb hr hlocks dX10_putPassing_211 (y_tl_4121_4, k_o0r121_5) hp121_6 hP hD hS [0, 1, 2] rfl (by decide) rfl (Nat.le_of_ble_eq_true rfl) (Nat.le_of_ble_eq_true rfl)
  by_cases h211_1 : v0.toInt = 3
  · have r211_2 : rg v0 3 3 := rg_at h211_1
    refine lv_tableIn (off := 126) (tgt := 127) hx hb dX10_putPassing_1 (by rw [h211_1]; decide) (by rw [h211_1]; decide) (by rw [h211_1]; rfl) (by decide) ?_
    refine lv_aload_n hx hb dX10_putPassing_127 rfl (lv_at hl 0 rfl) ?_
    refine lv_bipush (v := 6) hx hb dX10_putPassing_128 (by decide) ?_
    refine lv_iload_n hx hb dX10_putPassing_130 rfl (lv_at hl 2 rfl) ?_
    refine lv_iload_n hx hb dX10_putPassing_131 rfl (lv_at hl 3 rfl) ?_
    refine lv_bipush (v := 8) hx hb dX10_putPassing_132 (by decide) ?_
    refine go_v (k1 := 0) (n1 := 0) (wr := []) [0, 1, 2] [] (rn_V (As := [.int 6, .int v1, .int v2, .int 8]) (rest := []) (c_X10_putBranch l D ct tl (6 : Int32) v1 v2 (8 : Int32) tls o0 p0 x_tl_3 x_tl_4 o0r x_o0_1 g_o0r h_x_tl_3 h_x_tl_4 h_x_o0_1 _) (cb_of (n := 4) hn mw_1345 mw_10 mw_1342 mhX10_putBranch ⟨(Nat.le_of_ble_eq_true rfl), (Nat.le_of_ble_eq_true rfl)⟩) hx hb hml hown hn hK hZ hS mw_1344 mw_s155 (ci := 10) (q0 := 0) rfl rfl rfl rfl hl.1 (Nat.le_of_ble_eq_true rfl) dX10_putPassing_134 ⟨(Nat.le_of_ble_eq_true rfl), (Nat.le_of_ble_eq_true rfl)⟩) hP hD hS hA rfl rfl (by decide) (by decide) (by decide) (Nat.le_of_ble_eq_true rfl) (Nat.le_of_ble_eq_true rfl) (fun u134_2 H locs hp134_3 hP hD hS => ?_)
    obtain ⟨y_tl_4134_4, k_o0r134_5⟩ := u134_2
    have hp134_6 := hp134_3
    have hp134_6 : rg y_tl_4134_4 1 1073741825 := hp134_6
    have hP : va_P D vwCl [(tl, .inr (10, [.ref tls, .ref o0, .ref p0, .int x_tl_3, .int y_tl_4134_4])), (o0, .inr (5, [.ref o0r, .int x_o0_1])), (o0r, .inl (ct 1, 60000, .inl k_o0r134_5))] _ := hP
    have hD : va_D A [(tl, .inr (10, [.ref tls, .ref o0, .ref p0, .int x_tl_3, .int y_tl_4134_4])), (o0, .inr (5, [.ref o0r, .int x_o0_1])), (o0r, .inl (ct 1, 60000, .inl k_o0r134_5))] := hD
    refine lv_goto (tgt := 211) hx hb dX10_putPassing_137 (by decide) ?_
    exact endq_v hQ hx hb hr hlocks dX10_putPassing_211 (y_tl_4134_4, k_o0r134_5) hp134_6 hP hD hS [0, 1, 2] rfl (by decide) rfl (Nat.le_of_ble_eq_true rfl) (Nat.le_of_ble_eq_true rfl)
  by_cases h211_1 : v0.toInt = 4
  · have r211_2 : rg v0 4 4 := rg_at h211_1
    refine lv_tableIn (off := 63) (tgt := 64) hx hb dX10_putPassing_1 (by rw [h211_1]; decide) (by rw [h211_1]; decide) (by rw [h211_1]; rfl) (by decide) ?_
    refine lv_aload_n hx hb dX10_putPassing_64 rfl (lv_at hl 0 rfl) ?_
    refine lv_bipush (v := 51) hx hb dX10_putPassing_65 (by decide) ?_
    refine lv_iconst (v := 0) hx hb dX10_putPassing_67 (by decide) ?_
    refine lv_bipush (v := 7) hx hb dX10_putPassing_68 (by decide) ?_
    refine lv_bipush (v := 6) hx hb dX10_putPassing_70 (by decide) ?_
    refine lv_iload_n hx hb dX10_putPassing_72 rfl (lv_at hl 2 rfl) ?_
    refine lv_iload_n hx hb dX10_putPassing_73 rfl (lv_at hl 3 rfl) ?_
    refine go_v (k1 := 0) (n1 := 0) (wr := []) [0, 1, 2] [] (rn_V (As := [.int 51, .int 0, .int 7, .int 6, .int v1, .int v2]) (rest := []) (c_X10_putOp l D ct tl (51 : Int32) (0 : Int32) (7 : Int32) (6 : Int32) v1 v2 tls o0 p0 x_tl_3 x_tl_4 o0r x_o0_1 g_o0r h_x_tl_3 h_x_tl_4 h_x_o0_1 _) (cb_of (n := 6) hn mw_1329 mw_10 mw_1326 mhX10_putOp ⟨(Nat.le_of_ble_eq_true rfl), (Nat.le_of_ble_eq_true rfl)⟩) hx hb hml hown hn hK hZ hS mw_1328 mw_s151 (ci := 10) (q0 := 0) rfl rfl rfl rfl hl.1 (Nat.le_of_ble_eq_true rfl) dX10_putPassing_74 ⟨(Nat.le_of_ble_eq_true rfl), (Nat.le_of_ble_eq_true rfl)⟩) hP hD hS hA rfl rfl (by decide) (by decide) (by decide) (Nat.le_of_ble_eq_true rfl) (Nat.le_of_ble_eq_true rfl) (fun u74_2 H locs hp74_3 hP hD hS => ?_)
    obtain ⟨y_tl_474_4, k_o0r74_5⟩ := u74_2
    have hp74_6 := hp74_3
    have hp74_6 : rg y_tl_474_4 1 1073741825 := hp74_6
    have hP : va_P D vwCl [(tl, .inr (10, [.ref tls, .ref o0, .ref p0, .int x_tl_3, .int y_tl_474_4])), (o0, .inr (5, [.ref o0r, .int x_o0_1])), (o0r, .inl (ct 1, 60000, .inl k_o0r74_5))] _ := hP
    have hD : va_D A [(tl, .inr (10, [.ref tls, .ref o0, .ref p0, .int x_tl_3, .int y_tl_474_4])), (o0, .inr (5, [.ref o0r, .int x_o0_1])), (o0r, .inl (ct 1, 60000, .inl k_o0r74_5))] := hD
    refine lv_aload_n hx hb dX10_putPassing_77 rfl (lv_at hl 0 rfl) ?_
    refine lv_iconst (v := 0) hx hb dX10_putPassing_78 (by decide) ?_
    refine lv_bipush (v := 6) hx hb dX10_putPassing_79 (by decide) ?_
    refine lv_iconst (v := 0) hx hb dX10_putPassing_81 (by decide) ?_
    refine lv_bipush (v := 8) hx hb dX10_putPassing_82 (by decide) ?_
    refine go_v (k1 := 0) (n1 := 0) (wr := []) [0, 1, 2] [] (rn_V (As := [.int 0, .int 6, .int 0, .int 8]) (rest := []) (c_X10_putBranch l D ct tl (0 : Int32) (6 : Int32) (0 : Int32) (8 : Int32) tls o0 p0 x_tl_3 y_tl_474_4 o0r x_o0_1 k_o0r74_5 h_x_tl_3 (rg_of (show 0 ≤ y_tl_474_4.toInt ∧ y_tl_474_4.toInt ≤ 1073741824 by have q0 := hp74_6.1; have q1 := hp74_6.2; omega)) h_x_o0_1 _) (cb_of (n := 4) hn mw_1345 mw_10 mw_1342 mhX10_putBranch ⟨(Nat.le_of_ble_eq_true rfl), (Nat.le_of_ble_eq_true rfl)⟩) hx hb hml hown hn hK hZ hS mw_1344 mw_s155 (ci := 10) (q0 := 0) rfl rfl rfl rfl hl.1 (Nat.le_of_ble_eq_true rfl) dX10_putPassing_84 ⟨(Nat.le_of_ble_eq_true rfl), (Nat.le_of_ble_eq_true rfl)⟩) hP hD hS hA rfl rfl (by decide) (by decide) (by decide) (Nat.le_of_ble_eq_true rfl) (Nat.le_of_ble_eq_true rfl) (fun u84_2 H locs hp84_3 hP hD hS => ?_)
    obtain ⟨y_tl_484_4, k_o0r84_5⟩ := u84_2
    have hp84_6 := hp84_3
    have hp84_6 : rg y_tl_484_4 1 1073741825 := hp84_6
    have hP : va_P D vwCl [(tl, .inr (10, [.ref tls, .ref o0, .ref p0, .int x_tl_3, .int y_tl_484_4])), (o0, .inr (5, [.ref o0r, .int x_o0_1])), (o0r, .inl (ct 1, 60000, .inl k_o0r84_5))] _ := hP
    have hD : va_D A [(tl, .inr (10, [.ref tls, .ref o0, .ref p0, .int x_tl_3, .int y_tl_484_4])), (o0, .inr (5, [.ref o0r, .int x_o0_1])), (o0r, .inl (ct 1, 60000, .inl k_o0r84_5))] := hD
    refine lv_goto (tgt := 211) hx hb dX10_putPassing_87 (by decide) ?_
    exact endq_v hQ hx hb hr hlocks dX10_putPassing_211 (y_tl_484_4, k_o0r84_5) hp84_6 hP hD hS [0, 1, 2] rfl (by decide) rfl (Nat.le_of_ble_eq_true rfl) (Nat.le_of_ble_eq_true rfl)
  by_cases h211_1 : v0.toInt = 5
  · have r211_2 : rg v0 5 5 := rg_at h211_1
    refine lv_tableIn (off := 101) (tgt := 102) hx hb dX10_putPassing_1 (by rw [h211_1]; decide) (by rw [h211_1]; decide) (by rw [h211_1]; rfl) (by decide) ?_
    refine lv_aload_n hx hb dX10_putPassing_102 rfl (lv_at hl 0 rfl) ?_
    refine lv_iconst (v := 0) hx hb dX10_putPassing_103 (by decide) ?_
    refine lv_iload_n hx hb dX10_putPassing_104 rfl (lv_at hl 2 rfl) ?_
    refine lv_iload_n hx hb dX10_putPassing_105 rfl (lv_at hl 3 rfl) ?_
    refine lv_bipush (v := 8) hx hb dX10_putPassing_106 (by decide) ?_
    refine go_v (k1 := 0) (n1 := 0) (wr := []) [0, 1, 2] [] (rn_V (As := [.int 0, .int v1, .int v2, .int 8]) (rest := []) (c_X10_putBranch l D ct tl (0 : Int32) v1 v2 (8 : Int32) tls o0 p0 x_tl_3 x_tl_4 o0r x_o0_1 g_o0r h_x_tl_3 h_x_tl_4 h_x_o0_1 _) (cb_of (n := 4) hn mw_1345 mw_10 mw_1342 mhX10_putBranch ⟨(Nat.le_of_ble_eq_true rfl), (Nat.le_of_ble_eq_true rfl)⟩) hx hb hml hown hn hK hZ hS mw_1344 mw_s155 (ci := 10) (q0 := 0) rfl rfl rfl rfl hl.1 (Nat.le_of_ble_eq_true rfl) dX10_putPassing_108 ⟨(Nat.le_of_ble_eq_true rfl), (Nat.le_of_ble_eq_true rfl)⟩) hP hD hS hA rfl rfl (by decide) (by decide) (by decide) (Nat.le_of_ble_eq_true rfl) (Nat.le_of_ble_eq_true rfl) (fun u108_2 H locs hp108_3 hP hD hS => ?_)
    obtain ⟨y_tl_4108_4, k_o0r108_5⟩ := u108_2
    have hp108_6 := hp108_3
    have hp108_6 : rg y_tl_4108_4 1 1073741825 := hp108_6
    have hP : va_P D vwCl [(tl, .inr (10, [.ref tls, .ref o0, .ref p0, .int x_tl_3, .int y_tl_4108_4])), (o0, .inr (5, [.ref o0r, .int x_o0_1])), (o0r, .inl (ct 1, 60000, .inl k_o0r108_5))] _ := hP
    have hD : va_D A [(tl, .inr (10, [.ref tls, .ref o0, .ref p0, .int x_tl_3, .int y_tl_4108_4])), (o0, .inr (5, [.ref o0r, .int x_o0_1])), (o0r, .inl (ct 1, 60000, .inl k_o0r108_5))] := hD
    refine lv_goto (tgt := 211) hx hb dX10_putPassing_111 (by decide) ?_
    exact endq_v hQ hx hb hr hlocks dX10_putPassing_211 (y_tl_4108_4, k_o0r108_5) hp108_6 hP hD hS [0, 1, 2] rfl (by decide) rfl (Nat.le_of_ble_eq_true rfl) (Nat.le_of_ble_eq_true rfl)
  by_cases h211_1 : v0.toInt = 6
  · have r211_2 : rg v0 6 6 := rg_at h211_1
    refine lv_tableIn (off := 165) (tgt := 166) hx hb dX10_putPassing_1 (by rw [h211_1]; decide) (by rw [h211_1]; decide) (by rw [h211_1]; rfl) (by decide) ?_
    refine lv_aload_n hx hb dX10_putPassing_166 rfl (lv_at hl 0 rfl) ?_
    refine lv_iconst (v := 5) hx hb dX10_putPassing_167 (by decide) ?_
    refine lv_iload_n hx hb dX10_putPassing_168 rfl (lv_at hl 3 rfl) ?_
    refine lv_iload_n hx hb dX10_putPassing_169 rfl (lv_at hl 2 rfl) ?_
    refine lv_bipush (v := 8) hx hb dX10_putPassing_170 (by decide) ?_
    refine go_v (k1 := 0) (n1 := 0) (wr := []) [0, 1, 2] [] (rn_V (As := [.int 5, .int v2, .int v1, .int 8]) (rest := []) (c_X10_putBranch l D ct tl (5 : Int32) v2 v1 (8 : Int32) tls o0 p0 x_tl_3 x_tl_4 o0r x_o0_1 g_o0r h_x_tl_3 h_x_tl_4 h_x_o0_1 _) (cb_of (n := 4) hn mw_1345 mw_10 mw_1342 mhX10_putBranch ⟨(Nat.le_of_ble_eq_true rfl), (Nat.le_of_ble_eq_true rfl)⟩) hx hb hml hown hn hK hZ hS mw_1344 mw_s155 (ci := 10) (q0 := 0) rfl rfl rfl rfl hl.1 (Nat.le_of_ble_eq_true rfl) dX10_putPassing_172 ⟨(Nat.le_of_ble_eq_true rfl), (Nat.le_of_ble_eq_true rfl)⟩) hP hD hS hA rfl rfl (by decide) (by decide) (by decide) (Nat.le_of_ble_eq_true rfl) (Nat.le_of_ble_eq_true rfl) (fun u172_2 H locs hp172_3 hP hD hS => ?_)
    obtain ⟨y_tl_4172_4, k_o0r172_5⟩ := u172_2
    have hp172_6 := hp172_3
    have hp172_6 : rg y_tl_4172_4 1 1073741825 := hp172_6
    have hP : va_P D vwCl [(tl, .inr (10, [.ref tls, .ref o0, .ref p0, .int x_tl_3, .int y_tl_4172_4])), (o0, .inr (5, [.ref o0r, .int x_o0_1])), (o0r, .inl (ct 1, 60000, .inl k_o0r172_5))] _ := hP
    have hD : va_D A [(tl, .inr (10, [.ref tls, .ref o0, .ref p0, .int x_tl_3, .int y_tl_4172_4])), (o0, .inr (5, [.ref o0r, .int x_o0_1])), (o0r, .inl (ct 1, 60000, .inl k_o0r172_5))] := hD
    refine lv_goto (tgt := 211) hx hb dX10_putPassing_175 (by decide) ?_
    exact endq_v hQ hx hb hr hlocks dX10_putPassing_211 (y_tl_4172_4, k_o0r172_5) hp172_6 hP hD hS [0, 1, 2] rfl (by decide) rfl (Nat.le_of_ble_eq_true rfl) (Nat.le_of_ble_eq_true rfl)
  by_cases h211_1 : v0.toInt = 7
  · have r211_2 : rg v0 7 7 := rg_at h211_1
    refine lv_tableIn (off := 177) (tgt := 178) hx hb dX10_putPassing_1 (by rw [h211_1]; decide) (by rw [h211_1]; decide) (by rw [h211_1]; rfl) (by decide) ?_
    refine lv_aload_n hx hb dX10_putPassing_178 rfl (lv_at hl 0 rfl) ?_
    refine lv_iconst (v := 4) hx hb dX10_putPassing_179 (by decide) ?_
    refine lv_iload_n hx hb dX10_putPassing_180 rfl (lv_at hl 2 rfl) ?_
    refine lv_iload_n hx hb dX10_putPassing_181 rfl (lv_at hl 3 rfl) ?_
    refine lv_bipush (v := 8) hx hb dX10_putPassing_182 (by decide) ?_
    refine go_v (k1 := 0) (n1 := 0) (wr := []) [0, 1, 2] [] (rn_V (As := [.int 4, .int v1, .int v2, .int 8]) (rest := []) (c_X10_putBranch l D ct tl (4 : Int32) v1 v2 (8 : Int32) tls o0 p0 x_tl_3 x_tl_4 o0r x_o0_1 g_o0r h_x_tl_3 h_x_tl_4 h_x_o0_1 _) (cb_of (n := 4) hn mw_1345 mw_10 mw_1342 mhX10_putBranch ⟨(Nat.le_of_ble_eq_true rfl), (Nat.le_of_ble_eq_true rfl)⟩) hx hb hml hown hn hK hZ hS mw_1344 mw_s155 (ci := 10) (q0 := 0) rfl rfl rfl rfl hl.1 (Nat.le_of_ble_eq_true rfl) dX10_putPassing_184 ⟨(Nat.le_of_ble_eq_true rfl), (Nat.le_of_ble_eq_true rfl)⟩) hP hD hS hA rfl rfl (by decide) (by decide) (by decide) (Nat.le_of_ble_eq_true rfl) (Nat.le_of_ble_eq_true rfl) (fun u184_2 H locs hp184_3 hP hD hS => ?_)
    obtain ⟨y_tl_4184_4, k_o0r184_5⟩ := u184_2
    have hp184_6 := hp184_3
    have hp184_6 : rg y_tl_4184_4 1 1073741825 := hp184_6
    have hP : va_P D vwCl [(tl, .inr (10, [.ref tls, .ref o0, .ref p0, .int x_tl_3, .int y_tl_4184_4])), (o0, .inr (5, [.ref o0r, .int x_o0_1])), (o0r, .inl (ct 1, 60000, .inl k_o0r184_5))] _ := hP
    have hD : va_D A [(tl, .inr (10, [.ref tls, .ref o0, .ref p0, .int x_tl_3, .int y_tl_4184_4])), (o0, .inr (5, [.ref o0r, .int x_o0_1])), (o0r, .inl (ct 1, 60000, .inl k_o0r184_5))] := hD
    refine lv_goto (tgt := 211) hx hb dX10_putPassing_187 (by decide) ?_
    exact endq_v hQ hx hb hr hlocks dX10_putPassing_211 (y_tl_4184_4, k_o0r184_5) hp184_6 hP hD hS [0, 1, 2] rfl (by decide) rfl (Nat.le_of_ble_eq_true rfl) (Nat.le_of_ble_eq_true rfl)
  by_cases h211_1 : v0.toInt = 8
  · have r211_2 : rg v0 8 8 := rg_at h211_1
    refine lv_tableIn (off := 201) (tgt := 202) hx hb dX10_putPassing_1 (by rw [h211_1]; decide) (by rw [h211_1]; decide) (by rw [h211_1]; rfl) (by decide) ?_
    exact b202  H locs ls  (lv_sub hl [0, 2, 3] rfl) hP hD hS
  by_cases h211_3 : v0.toInt = 9
  · have r211_4 : rg v0 9 9 := rg_at h211_3
    refine lv_tableIn (off := 201) (tgt := 202) hx hb dX10_putPassing_1 (by rw [h211_3]; decide) (by rw [h211_3]; decide) (by rw [h211_3]; rfl) (by decide) ?_
    exact b202  H locs ls  (lv_sub hl [0, 2, 3] rfl) hP hD hS
  by_cases h211_5 : v0.toInt = 10
  · have r211_6 : rg v0 10 10 := rg_at h211_5
    refine lv_tableIn (off := 139) (tgt := 140) hx hb dX10_putPassing_1 (by rw [h211_5]; decide) (by rw [h211_5]; decide) (by rw [h211_5]; rfl) (by decide) ?_
    refine lv_aload_n hx hb dX10_putPassing_140 rfl (lv_at hl 0 rfl) ?_
    refine lv_bipush (v := 7) hx hb dX10_putPassing_141 (by decide) ?_
    refine lv_iload_n hx hb dX10_putPassing_143 rfl (lv_at hl 2 rfl) ?_
    refine lv_iload_n hx hb dX10_putPassing_144 rfl (lv_at hl 3 rfl) ?_
    refine lv_bipush (v := 8) hx hb dX10_putPassing_145 (by decide) ?_
    refine go_v (k1 := 0) (n1 := 0) (wr := []) [0, 1, 2] [] (rn_V (As := [.int 7, .int v1, .int v2, .int 8]) (rest := []) (c_X10_putBranch l D ct tl (7 : Int32) v1 v2 (8 : Int32) tls o0 p0 x_tl_3 x_tl_4 o0r x_o0_1 g_o0r h_x_tl_3 h_x_tl_4 h_x_o0_1 _) (cb_of (n := 4) hn mw_1345 mw_10 mw_1342 mhX10_putBranch ⟨(Nat.le_of_ble_eq_true rfl), (Nat.le_of_ble_eq_true rfl)⟩) hx hb hml hown hn hK hZ hS mw_1344 mw_s155 (ci := 10) (q0 := 0) rfl rfl rfl rfl hl.1 (Nat.le_of_ble_eq_true rfl) dX10_putPassing_147 ⟨(Nat.le_of_ble_eq_true rfl), (Nat.le_of_ble_eq_true rfl)⟩) hP hD hS hA rfl rfl (by decide) (by decide) (by decide) (Nat.le_of_ble_eq_true rfl) (Nat.le_of_ble_eq_true rfl) (fun u147_2 H locs hp147_3 hP hD hS => ?_)
    obtain ⟨y_tl_4147_4, k_o0r147_5⟩ := u147_2
    have hp147_6 := hp147_3
    have hp147_6 : rg y_tl_4147_4 1 1073741825 := hp147_6
    have hP : va_P D vwCl [(tl, .inr (10, [.ref tls, .ref o0, .ref p0, .int x_tl_3, .int y_tl_4147_4])), (o0, .inr (5, [.ref o0r, .int x_o0_1])), (o0r, .inl (ct 1, 60000, .inl k_o0r147_5))] _ := hP
    have hD : va_D A [(tl, .inr (10, [.ref tls, .ref o0, .ref p0, .int x_tl_3, .int y_tl_4147_4])), (o0, .inr (5, [.ref o0r, .int x_o0_1])), (o0r, .inl (ct 1, 60000, .inl k_o0r147_5))] := hD
    refine lv_goto (tgt := 211) hx hb dX10_putPassing_150 (by decide) ?_
    exact endq_v hQ hx hb hr hlocks dX10_putPassing_211 (y_tl_4147_4, k_o0r147_5) hp147_6 hP hD hS [0, 1, 2] rfl (by decide) rfl (Nat.le_of_ble_eq_true rfl) (Nat.le_of_ble_eq_true rfl)
  by_cases h211_1 : v0.toInt = 11
  · have r211_2 : rg v0 11 11 := rg_at h211_1
    refine lv_tableIn (off := 152) (tgt := 153) hx hb dX10_putPassing_1 (by rw [h211_1]; decide) (by rw [h211_1]; decide) (by rw [h211_1]; rfl) (by decide) ?_
    refine lv_aload_n hx hb dX10_putPassing_153 rfl (lv_at hl 0 rfl) ?_
    refine lv_bipush (v := 6) hx hb dX10_putPassing_154 (by decide) ?_
    refine lv_iload_n hx hb dX10_putPassing_156 rfl (lv_at hl 3 rfl) ?_
    refine lv_iload_n hx hb dX10_putPassing_157 rfl (lv_at hl 2 rfl) ?_
    refine lv_bipush (v := 8) hx hb dX10_putPassing_158 (by decide) ?_
    refine go_v (k1 := 0) (n1 := 0) (wr := []) [0, 1, 2] [] (rn_V (As := [.int 6, .int v2, .int v1, .int 8]) (rest := []) (c_X10_putBranch l D ct tl (6 : Int32) v2 v1 (8 : Int32) tls o0 p0 x_tl_3 x_tl_4 o0r x_o0_1 g_o0r h_x_tl_3 h_x_tl_4 h_x_o0_1 _) (cb_of (n := 4) hn mw_1345 mw_10 mw_1342 mhX10_putBranch ⟨(Nat.le_of_ble_eq_true rfl), (Nat.le_of_ble_eq_true rfl)⟩) hx hb hml hown hn hK hZ hS mw_1344 mw_s155 (ci := 10) (q0 := 0) rfl rfl rfl rfl hl.1 (Nat.le_of_ble_eq_true rfl) dX10_putPassing_160 ⟨(Nat.le_of_ble_eq_true rfl), (Nat.le_of_ble_eq_true rfl)⟩) hP hD hS hA rfl rfl (by decide) (by decide) (by decide) (Nat.le_of_ble_eq_true rfl) (Nat.le_of_ble_eq_true rfl) (fun u160_2 H locs hp160_3 hP hD hS => ?_)
    obtain ⟨y_tl_4160_4, k_o0r160_5⟩ := u160_2
    have hp160_6 := hp160_3
    have hp160_6 : rg y_tl_4160_4 1 1073741825 := hp160_6
    have hP : va_P D vwCl [(tl, .inr (10, [.ref tls, .ref o0, .ref p0, .int x_tl_3, .int y_tl_4160_4])), (o0, .inr (5, [.ref o0r, .int x_o0_1])), (o0r, .inl (ct 1, 60000, .inl k_o0r160_5))] _ := hP
    have hD : va_D A [(tl, .inr (10, [.ref tls, .ref o0, .ref p0, .int x_tl_3, .int y_tl_4160_4])), (o0, .inr (5, [.ref o0r, .int x_o0_1])), (o0r, .inl (ct 1, 60000, .inl k_o0r160_5))] := hD
    refine lv_goto (tgt := 211) hx hb dX10_putPassing_163 (by decide) ?_
    exact endq_v hQ hx hb hr hlocks dX10_putPassing_211 (y_tl_4160_4, k_o0r160_5) hp160_6 hP hD hS [0, 1, 2] rfl (by decide) rfl (Nat.le_of_ble_eq_true rfl) (Nat.le_of_ble_eq_true rfl)
  by_cases h211_1 : v0.toInt = 12
  · have r211_2 : rg v0 12 12 := rg_at h211_1
    refine lv_tableIn (off := 189) (tgt := 190) hx hb dX10_putPassing_1 (by rw [h211_1]; decide) (by rw [h211_1]; decide) (by rw [h211_1]; rfl) (by decide) ?_
    refine lv_aload_n hx hb dX10_putPassing_190 rfl (lv_at hl 0 rfl) ?_
    refine lv_iconst (v := 5) hx hb dX10_putPassing_191 (by decide) ?_
    refine lv_iload_n hx hb dX10_putPassing_192 rfl (lv_at hl 2 rfl) ?_
    refine lv_iload_n hx hb dX10_putPassing_193 rfl (lv_at hl 3 rfl) ?_
    refine lv_bipush (v := 8) hx hb dX10_putPassing_194 (by decide) ?_
    refine go_v (k1 := 0) (n1 := 0) (wr := []) [0, 1, 2] [] (rn_V (As := [.int 5, .int v1, .int v2, .int 8]) (rest := []) (c_X10_putBranch l D ct tl (5 : Int32) v1 v2 (8 : Int32) tls o0 p0 x_tl_3 x_tl_4 o0r x_o0_1 g_o0r h_x_tl_3 h_x_tl_4 h_x_o0_1 _) (cb_of (n := 4) hn mw_1345 mw_10 mw_1342 mhX10_putBranch ⟨(Nat.le_of_ble_eq_true rfl), (Nat.le_of_ble_eq_true rfl)⟩) hx hb hml hown hn hK hZ hS mw_1344 mw_s155 (ci := 10) (q0 := 0) rfl rfl rfl rfl hl.1 (Nat.le_of_ble_eq_true rfl) dX10_putPassing_196 ⟨(Nat.le_of_ble_eq_true rfl), (Nat.le_of_ble_eq_true rfl)⟩) hP hD hS hA rfl rfl (by decide) (by decide) (by decide) (Nat.le_of_ble_eq_true rfl) (Nat.le_of_ble_eq_true rfl) (fun u196_2 H locs hp196_3 hP hD hS => ?_)
    obtain ⟨y_tl_4196_4, k_o0r196_5⟩ := u196_2
    have hp196_6 := hp196_3
    have hp196_6 : rg y_tl_4196_4 1 1073741825 := hp196_6
    have hP : va_P D vwCl [(tl, .inr (10, [.ref tls, .ref o0, .ref p0, .int x_tl_3, .int y_tl_4196_4])), (o0, .inr (5, [.ref o0r, .int x_o0_1])), (o0r, .inl (ct 1, 60000, .inl k_o0r196_5))] _ := hP
    have hD : va_D A [(tl, .inr (10, [.ref tls, .ref o0, .ref p0, .int x_tl_3, .int y_tl_4196_4])), (o0, .inr (5, [.ref o0r, .int x_o0_1])), (o0r, .inl (ct 1, 60000, .inl k_o0r196_5))] := hD
    refine lv_goto (tgt := 211) hx hb dX10_putPassing_199 (by decide) ?_
    exact endq_v hQ hx hb hr hlocks dX10_putPassing_211 (y_tl_4196_4, k_o0r196_5) hp196_6 hP hD hS [0, 1, 2] rfl (by decide) rfl (Nat.le_of_ble_eq_true rfl) (Nat.le_of_ble_eq_true rfl)
  refine lv_tableOut (tgt := 202) hx hb dX10_putPassing_1 (by have q0 := (rg_any v0); have q1 := q0.1; have q2 := q0.2; omega) (by decide) ?_
  exact b202  H locs ls  (lv_sub hl [0, 2, 3] rfl) hP hD hS
set_option maxHeartbeats 2000000 in
theorem c_X7_codeOf (l : Launch) (D : va_G) (ct : Nat → ClassId) (v0 : Int64)  : KI (S := Unit) l yX7_codeOf cX7_codeOf 2 (some .int) 1 20 D ct [.long v0] [] 0 0 (fun (r : Int32) (_ : Unit) => rg r 0 255) (fun (_ : Unit) => []) := by
  refine KIq_of (by decide) (Nat.le_of_ble_eq_true rfl) (fun p e s m below meth c A Q C0 hA hS hP hD hQ ls hl => ?_)
  obtain ⟨hx, hb, hr, hown, hin, hml, hlocks, hn, hK, hZ⟩ := C0
  have hl : lv_has ls 2 [(0, .long v0)] := hl
  refine lv_lload_n hx hb dX7_codeOf_0 rfl (lv_at hl 0 rfl) ?_
  refine lv_l2i hx hb dX7_codeOf_1 rfl ?_
  refine lv_topi (fun z1_1 ez1_1 => ?_)
  refine lv_sipush (v := 255) hx hb dX7_codeOf_2 (by decide) ?_
  refine lv_iand hx hb dX7_codeOf_5 ?_
  refine lv_topi (fun z5_1 ez5_1 => ?_)
  have r5_2 : rg z5_1 0 255 := rg_andr ez5_1 (rg_l (by decide)) (by decide)
  exact endq_i hQ hx hb hr hlocks dX7_codeOf_6 rfl () r5_2 hP hD hS [] rfl (by decide) rfl (Nat.le_of_ble_eq_true rfl) (Nat.le_of_ble_eq_true rfl)
set_option maxHeartbeats 2000000 in
theorem c_X7_hasS (l : Launch) (D : va_G) (ct : Nat → ClassId) (v0 : Int32)  : KI (S := Unit) l yX7_hasS cX7_hasS 1 (some .boolean) 1 20 D ct [.int v0] [] 0 0 (fun (r : Int32) (_ : Unit) => rg r 0 1) (fun (_ : Unit) => []) := by
  refine KIq_of (by decide) (Nat.le_of_ble_eq_true rfl) (fun p e s m below meth c A Q C0 hA hS hP hD hQ ls hl => ?_)
  obtain ⟨hx, hb, hr, hown, hin, hml, hlocks, hn, hK, hZ⟩ := C0
  have hl : lv_has ls 1 [(0, .int v0)] := hl
  refine lv_iload_n hx hb dX7_hasS_0 rfl (lv_at hl 0 rfl) ?_
  refine lv_bipush (v := 8) hx hb dX7_hasS_1 (by decide) ?_
  refine lv_iand hx hb dX7_hasS_3 ?_
  refine lv_topi (fun z3_1 ez3_1 => ?_)
  have r3_2 : rg z3_1 0 8 := rg_andr ez3_1 (rg_l (by decide)) (by decide)
  refine lv_if_eq (tgt := 11) hx hb dX7_hasS_4 (by decide) (fun c4_1 => ?_) (fun c4_1 => ?_)
  · have t4_2 := (i_eq c4_1)
    have r4_3 : rg z3_1 0 0 := rg_eqA t4_2 r3_2 (show rg (0 : Int32) 0 0 from (rg_l (by decide))) (by decide)
    refine lv_iconst (v := 0) hx hb dX7_hasS_11 (by decide) ?_
    exact endq_i hQ hx hb hr hlocks dX7_hasS_12 (by decide) () (rg_w (rg_l (by decide)) (by decide)) hP hD hS [] rfl (by decide) rfl (Nat.le_of_ble_eq_true rfl) (Nat.le_of_ble_eq_true rfl)
  · have t12_1 := (i_ne c4_1)
    have r12_2 : rg z3_1 1 8 := rg_neAl t12_1 r3_2 (show rg (0 : Int32) 0 0 from (rg_l (by decide))) (by decide)
    refine lv_iconst (v := 1) hx hb dX7_hasS_7 (by decide) ?_
    refine lv_goto (tgt := 12) hx hb dX7_hasS_8 (by decide) ?_
    exact endq_i hQ hx hb hr hlocks dX7_hasS_12 (by decide) () (rg_w (rg_l (by decide)) (by decide)) hP hD hS [] rfl (by decide) rfl (Nat.le_of_ble_eq_true rfl) (Nat.le_of_ble_eq_true rfl)
