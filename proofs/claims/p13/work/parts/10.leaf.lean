set_option maxHeartbeats 2000000 in
theorem c_X11_below (l : Launch) (D : va_G) (ct : Nat → ClassId) (v0 : Int64) (v1 : Int64)  : KI (S := Unit) l yX11_below cX11_below 4 (some .boolean) 1 20 D ct [.long v0, .long v1] [] 0 0 (fun (r : Int32) (_ : Unit) => rg r 0 1) (fun (_ : Unit) => []) := by
  refine KIq_of (by decide) (Nat.le_of_ble_eq_true rfl) (fun p e s m below meth c A Q C0 hA H locs hS hP hD hQ ls hl => ?_)
  obtain ⟨hx, hb, hr, hown, hin, hml, hlocks, hn, hK, hZ, hSK⟩ := C0
  have hl : lv_has ls 4 [(0, .long v0), (2, .long v1)] := hl
  refine lv_lload_n hx hb dX11_below_0 rfl (lv_at hl 0 rfl) ?_
  refine lv_ldc2 (v := (-9223372036854775808)) hx hb hown (hn.get mw_1041 rfl) dX11_below_1 ?_
  refine lv_ladd hx hb dX11_below_4 ?_
  refine lv_topl (fun z4_1 ez4_1 => ?_)
  refine lv_lload_n hx hb dX11_below_5 rfl (lv_at hl 1 rfl) ?_
  refine lv_ldc2 (v := (-9223372036854775808)) hx hb hown (hn.get mw_1041 rfl) dX11_below_6 ?_
  refine lv_ladd hx hb dX11_below_9 ?_
  refine lv_topl (fun z9_1 ez9_1 => ?_)
  refine W.lcmp hx hb dX11_below_10 ?_
  refine lv_topi (fun z10_1 ez10_1 => ?_)
  refine lv_if_ge (tgt := 18) hx hb dX11_below_11 (by decide) (fun c11_1 => ?_) (fun c11_1 => ?_)
  · have t11_2 := (l_ge ez10_1 c11_1)
    refine lv_iconst (v := 0) hx hb dX11_below_18 (by decide) ?_
    exact endq_i hQ hx hb hr hlocks dX11_below_19 (by decide) () (rg_w (show rg (0 : Int32) 0 0 from rg_l (by decide)) (by decide)) hP hD hS [] rfl (by decide) rfl (Nat.le_of_ble_eq_true rfl) (Nat.le_of_ble_eq_true rfl)
  · have t11_2 := (l_nge ez10_1 c11_1)
    have r11_3 : rl z4_1 (-9223372036854775808) 9223372036854775806 := rl_ltA t11_2 (rl_any z4_1) (rl_any z9_1) (by decide)
    have r11_4 : rl z9_1 (-9223372036854775807) 9223372036854775807 := rl_ltB t11_2 (rl_any z4_1) (rl_any z9_1) (by decide)
    refine lv_iconst (v := 1) hx hb dX11_below_14 (by decide) ?_
    refine lv_goto (tgt := 19) hx hb dX11_below_15 (by decide) ?_
    exact endq_i hQ hx hb hr hlocks dX11_below_19 (by decide) () (rg_w (show rg (1 : Int32) 1 1 from rg_l (by decide)) (by decide)) hP hD hS [] rfl (by decide) rfl (Nat.le_of_ble_eq_true rfl) (Nat.le_of_ble_eq_true rfl)
set_option maxHeartbeats 2000000 in
theorem c_X11_lesser (l : Launch) (D : va_G) (ct : Nat → ClassId) (v0 : Int64) (v1 : Int64)  : KL (S := Unit) l yX11_lesser cX11_lesser 4 (some .long) 2 43 D ct [.long v0, .long v1] [] 0 0 (fun (r : Int64) (_ : Unit) => True) (fun (_ : Unit) => []) := by
  refine KLq_of (by decide) (Nat.le_of_ble_eq_true rfl) (fun p e s m below meth c A Q C0 hA H locs hS hP hD hQ ls hl => ?_)
  obtain ⟨hx, hb, hr, hown, hin, hml, hlocks, hn, hK, hZ, hSK⟩ := C0
  have hl : lv_has ls 4 [(0, .long v0), (2, .long v1)] := hl
  refine lv_lload_n hx hb dX11_lesser_0 rfl (lv_at hl 0 rfl) ?_
  refine lv_lload_n hx hb dX11_lesser_1 rfl (lv_at hl 1 rfl) ?_
  refine go_i (k1 := 0) (n1 := 0) (wr := []) [] [] (rn_S (As := [.long v0, .long v1]) (rest := []) (c_X11_below l D ct v0 v1  _) (cb_of (n := 2) hn mw_1040 mw_1 mw_1038 mhX11_below ⟨(Nat.le_of_ble_eq_true rfl), (Nat.le_of_ble_eq_true rfl)⟩) hx hb hml hown hn hK hSK hZ hS mw_1039 rfl hl.1 (Nat.le_of_ble_eq_true rfl) dX11_lesser_2 ⟨(Nat.le_of_ble_eq_true rfl), (Nat.le_of_ble_eq_true rfl)⟩) hP hD hS hA rfl rfl (by decide) (by decide) (by decide) (Nat.le_of_ble_eq_true rfl) (Nat.le_of_ble_eq_true rfl) (fun r2_1 u2_2 H locs hp2_3 hP hD hS => ?_)
  have hp2_4 := hp2_3
  have hp2_4 : rg r2_1 0 1 := hp2_4
  have hP : va_P D vwCl [] _ := hP
  have hD : va_D A [] := hD
  refine lv_if_eq (tgt := 12) hx hb dX11_lesser_5 (by decide) (fun c5_1 => ?_) (fun c5_1 => ?_)
  · have t5_2 := (i_eq c5_1)
    have r5_3 : rg r2_1 0 0 := rg_eqA t5_2 hp2_4 (show rg (0 : Int32) 0 0 from rg_l (by decide)) (by decide)
    refine lv_lload_n hx hb dX11_lesser_12 rfl (lv_at hl 1 rfl) ?_
    exact endq_l hQ hx hb hr hlocks dX11_lesser_13 () trivial hP hD hS [] rfl (by decide) rfl (Nat.le_of_ble_eq_true rfl) (Nat.le_of_ble_eq_true rfl)
  · have t5_2 := (i_ne c5_1)
    have r5_3 : rg r2_1 1 1 := rg_neAl t5_2 hp2_4 (show rg (0 : Int32) 0 0 from rg_l (by decide)) (by decide)
    refine lv_lload_n hx hb dX11_lesser_8 rfl (lv_at hl 0 rfl) ?_
    refine lv_goto (tgt := 13) hx hb dX11_lesser_9 (by decide) ?_
    exact endq_l hQ hx hb hr hlocks dX11_lesser_13 () trivial hP hD hS [] rfl (by decide) rfl (Nat.le_of_ble_eq_true rfl) (Nat.le_of_ble_eq_true rfl)
set_option maxHeartbeats 2000000 in
theorem c_X11_greater (l : Launch) (D : va_G) (ct : Nat → ClassId) (v0 : Int64) (v1 : Int64)  : KL (S := Unit) l yX11_greater cX11_greater 4 (some .long) 2 43 D ct [.long v0, .long v1] [] 0 0 (fun (r : Int64) (_ : Unit) => True) (fun (_ : Unit) => []) := by
  refine KLq_of (by decide) (Nat.le_of_ble_eq_true rfl) (fun p e s m below meth c A Q C0 hA H locs hS hP hD hQ ls hl => ?_)
  obtain ⟨hx, hb, hr, hown, hin, hml, hlocks, hn, hK, hZ, hSK⟩ := C0
  have hl : lv_has ls 4 [(0, .long v0), (2, .long v1)] := hl
  refine lv_lload_n hx hb dX11_greater_0 rfl (lv_at hl 0 rfl) ?_
  refine lv_lload_n hx hb dX11_greater_1 rfl (lv_at hl 1 rfl) ?_
  refine go_i (k1 := 0) (n1 := 0) (wr := []) [] [] (rn_S (As := [.long v0, .long v1]) (rest := []) (c_X11_below l D ct v0 v1  _) (cb_of (n := 2) hn mw_1040 mw_1 mw_1038 mhX11_below ⟨(Nat.le_of_ble_eq_true rfl), (Nat.le_of_ble_eq_true rfl)⟩) hx hb hml hown hn hK hSK hZ hS mw_1039 rfl hl.1 (Nat.le_of_ble_eq_true rfl) dX11_greater_2 ⟨(Nat.le_of_ble_eq_true rfl), (Nat.le_of_ble_eq_true rfl)⟩) hP hD hS hA rfl rfl (by decide) (by decide) (by decide) (Nat.le_of_ble_eq_true rfl) (Nat.le_of_ble_eq_true rfl) (fun r2_1 u2_2 H locs hp2_3 hP hD hS => ?_)
  have hp2_4 := hp2_3
  have hp2_4 : rg r2_1 0 1 := hp2_4
  have hP : va_P D vwCl [] _ := hP
  have hD : va_D A [] := hD
  refine lv_if_eq (tgt := 12) hx hb dX11_greater_5 (by decide) (fun c5_1 => ?_) (fun c5_1 => ?_)
  · have t5_2 := (i_eq c5_1)
    have r5_3 : rg r2_1 0 0 := rg_eqA t5_2 hp2_4 (show rg (0 : Int32) 0 0 from rg_l (by decide)) (by decide)
    refine lv_lload_n hx hb dX11_greater_12 rfl (lv_at hl 0 rfl) ?_
    exact endq_l hQ hx hb hr hlocks dX11_greater_13 () trivial hP hD hS [] rfl (by decide) rfl (Nat.le_of_ble_eq_true rfl) (Nat.le_of_ble_eq_true rfl)
  · have t5_2 := (i_ne c5_1)
    have r5_3 : rg r2_1 1 1 := rg_neAl t5_2 hp2_4 (show rg (0 : Int32) 0 0 from rg_l (by decide)) (by decide)
    refine lv_lload_n hx hb dX11_greater_8 rfl (lv_at hl 1 rfl) ?_
    refine lv_goto (tgt := 13) hx hb dX11_greater_9 (by decide) ?_
    exact endq_l hQ hx hb hr hlocks dX11_greater_13 () trivial hP hD hS [] rfl (by decide) rfl (Nat.le_of_ble_eq_true rfl) (Nat.le_of_ble_eq_true rfl)
set_option maxHeartbeats 2000000 in
theorem c_X11_quotient (l : Launch) (D : va_G) (ct : Nat → ClassId) (v0 : Int64) (v1 : Int64)  : KL (S := Unit) l yX11_quotient cX11_quotient 9 (some .long) 1 20 D ct [.long v0, .long v1] [] 0 0 (fun (r : Int64) (_ : Unit) => True) (fun (_ : Unit) => []) := by
  refine KLq_of (by decide) (Nat.le_of_ble_eq_true rfl) (fun p e s m below meth c A Q C0 hA H locs hS hP hD hQ ls hl => ?_)
  obtain ⟨hx, hb, hr, hown, hin, hml, hlocks, hn, hK, hZ, hSK⟩ := C0
  have hl : lv_has ls 9 [(0, .long v0), (2, .long v1)] := hl
  refine lv_lload_n hx hb dX11_quotient_0 rfl (lv_at hl 1 rfl) ?_
  refine lv_lconst (v := 0) hx hb dX11_quotient_1 (by decide) ?_
  refine W.lcmp hx hb dX11_quotient_2 ?_
  refine lv_topi (fun z2_1 ez2_1 => ?_)
  refine lv_if_ne (tgt := 8) hx hb dX11_quotient_3 (by decide) (fun c3_1 => ?_) (fun c3_1 => ?_)
  · have t3_2 := (l_ne ez2_1 c3_1)
    refine lv_lload_n hx hb dX11_quotient_8 rfl (lv_at hl 0 rfl) ?_
    refine lv_ldc2 (v := (-9223372036854775808)) hx hb hown (hn.get mw_1041 rfl) dX11_quotient_9 ?_
    refine lv_ladd hx hb dX11_quotient_12 ?_
    refine lv_topl (fun z12_1 ez12_1 => ?_)
    refine lv_lload_n hx hb dX11_quotient_13 rfl (lv_at hl 1 rfl) ?_
    refine lv_ldc2 (v := (-9223372036854775808)) hx hb hown (hn.get mw_1041 rfl) dX11_quotient_14 ?_
    refine lv_ladd hx hb dX11_quotient_17 ?_
    refine lv_topl (fun z17_1 ez17_1 => ?_)
    refine W.lcmp hx hb dX11_quotient_18 ?_
    refine lv_topi (fun z18_1 ez18_1 => ?_)
    have b27 : ∀ (j27_s0 : Int32) (H : Heap) (locs : List Loc) (ls : Array Slot), (rg j27_s0 0 1) → lv_has ls 9 [(0, .long v0), (2, .long v1)] → va_P D vwCl [] H → va_D A [] → va_S A s.heap H locs → W p l e ({ frames := 1, cells := 0, slots := 0, locals := 20 }) s m [.long v0, .long v1].toArray below meth c H locs 0 0 Q (F0 m 27 ls [.int j27_s0]) := by
      intro j27_s0 H locs ls r27_1001 hl hP hD hS
      refine lv_istore (lv' := [(4, .int j27_s0), (0, .long v0), (2, .long v1)]) hx hb dX11_quotient_27 hl (by decide) rfl (fun ls hl => ?_)
      refine lv_lload_n hx hb dX11_quotient_29 rfl (lv_at hl 2 rfl) ?_
      refine lv_lconst (v := 0) hx hb dX11_quotient_30 (by decide) ?_
      refine W.lcmp hx hb dX11_quotient_31 ?_
      refine lv_topi (fun z31_1 ez31_1 => ?_)
      refine lv_if_ge (tgt := 46) hx hb dX11_quotient_32 (by decide) (fun c32_1 => ?_) (fun c32_1 => ?_)
      · have t32_2 := (l_ge ez31_1 c32_1)
        have r32_3 : rl v1 0 9223372036854775807 := rl_leB t32_2 (show rl (0 : Int64) 0 0 from rl_l (by decide)) (rl_any v1) (by decide)
        refine lv_lload_n hx hb dX11_quotient_46 rfl (lv_at hl 1 rfl) ?_
        refine lv_lconst (v := 0) hx hb dX11_quotient_47 (by decide) ?_
        refine W.lcmp hx hb dX11_quotient_48 ?_
        refine lv_topi (fun z48_1 ez48_1 => ?_)
        refine lv_if_lt (tgt := 56) hx hb dX11_quotient_49 (by decide) (fun c49_1 => ?_) (fun c49_1 => ?_)
        · have t49_2 := (l_lt ez48_1 c49_1)
          have r49_3 : rl v0 (-9223372036854775808) (-1) := rl_ltA t49_2 (rl_any v0) (show rl (0 : Int64) 0 0 from rl_l (by decide)) (by decide)
          refine lv_lload_n hx hb dX11_quotient_56 rfl (lv_at hl 1 rfl) ?_
          refine lv_iconst (v := 1) hx hb dX11_quotient_57 (by decide) ?_
          refine lv_lushr hx hb dX11_quotient_58 rfl ?_
          refine lv_topl (fun z58_1 ez58_1 => ?_)
          refine lv_lload_n hx hb dX11_quotient_59 rfl (lv_at hl 2 rfl) ?_
          refine lv_ldiv hx hb dX11_quotient_60 (rl_nz (show v1.toInt ≠ 0 by have q0 := r32_3.1; have q1 := r32_3.2; have q2 := (show rl (0 : Int64) 0 0 from rl_l (by decide)).1; have q3 := (show rl (0 : Int64) 0 0 from rl_l (by decide)).2; have q4 := t3_2; have q5 := t32_2; omega)) ?_
          refine lv_topl (fun z60_1 ez60_1 => ?_)
          refine lv_iconst (v := 1) hx hb dX11_quotient_61 (by decide) ?_
          refine lv_lshl hx hb dX11_quotient_62 rfl ?_
          refine lv_topl (fun z62_1 ez62_1 => ?_)
          refine lv_lstore (lv' := [(5, .long z62_1), (4, .int j27_s0), (0, .long v0), (2, .long v1)]) hx hb dX11_quotient_63 hl (by decide) rfl (fun ls hl => ?_)
          refine lv_lload_n hx hb dX11_quotient_65 rfl (lv_at hl 2 rfl) ?_
          refine lv_lload hx hb dX11_quotient_66 (lv_at hl 0 rfl) ?_
          refine lv_lload_n hx hb dX11_quotient_68 rfl (lv_at hl 3 rfl) ?_
          refine lv_lmul hx hb dX11_quotient_69 ?_
          refine lv_topl (fun z69_1 ez69_1 => ?_)
          refine lv_lsub hx hb dX11_quotient_70 ?_
          refine lv_topl (fun z70_1 ez70_1 => ?_)
          refine lv_lstore (lv' := [(7, .long z70_1), (5, .long z62_1), (4, .int j27_s0), (0, .long v0), (2, .long v1)]) hx hb dX11_quotient_71 hl (by decide) rfl (fun ls hl => ?_)
          refine lv_lload hx hb dX11_quotient_73 (lv_at hl 0 rfl) ?_
          refine lv_ldc2 (v := (-9223372036854775808)) hx hb hown (hn.get mw_1041 rfl) dX11_quotient_75 ?_
          refine lv_ladd hx hb dX11_quotient_78 ?_
          refine lv_topl (fun z78_1 ez78_1 => ?_)
          refine lv_lload_n hx hb dX11_quotient_79 rfl (lv_at hl 4 rfl) ?_
          refine lv_ldc2 (v := (-9223372036854775808)) hx hb hown (hn.get mw_1041 rfl) dX11_quotient_80 ?_
          refine lv_ladd hx hb dX11_quotient_83 ?_
          refine lv_topl (fun z83_1 ez83_1 => ?_)
          have r83_2 : rl z83_1 (-9223372036854775808) (-1) := rgL_add ez83_1 r32_3 (show rl ((-9223372036854775808) : Int64) (-9223372036854775808) (-9223372036854775808) from rl_l (by decide)) (by decide)
          refine W.lcmp hx hb dX11_quotient_84 ?_
          refine lv_topi (fun z84_1 ez84_1 => ?_)
          refine lv_if_ge (tgt := 93) hx hb dX11_quotient_85 (by decide) (fun c85_1 => ?_) (fun c85_1 => ?_)
          · have t85_2 := (l_ge ez84_1 c85_1)
            refine lv_lload hx hb dX11_quotient_93 (lv_at hl 1 rfl) ?_
            refine lv_lconst (v := 1) hx hb dX11_quotient_95 (by decide) ?_
            refine lv_ladd hx hb dX11_quotient_96 ?_
            refine lv_topl (fun z96_1 ez96_1 => ?_)
            exact endq_l hQ hx hb hr hlocks dX11_quotient_97 () trivial hP hD hS [] rfl (by decide) rfl (Nat.le_of_ble_eq_true rfl) (Nat.le_of_ble_eq_true rfl)
          · have t85_2 := (l_nge ez84_1 c85_1)
            have r85_3 : rl z78_1 (-9223372036854775808) (-2) := rl_ltA t85_2 (rl_any z78_1) r83_2 (by decide)
            have r85_4 : rl z83_1 (-9223372036854775807) (-1) := rl_ltB t85_2 (rl_any z78_1) r83_2 (by decide)
            refine lv_lload hx hb dX11_quotient_88 (lv_at hl 1 rfl) ?_
            refine lv_goto (tgt := 97) hx hb dX11_quotient_90 (by decide) ?_
            exact endq_l hQ hx hb hr hlocks dX11_quotient_97 () trivial hP hD hS [] rfl (by decide) rfl (Nat.le_of_ble_eq_true rfl) (Nat.le_of_ble_eq_true rfl)
        · have t49_2 := (l_nlt ez48_1 c49_1)
          have r49_3 : rl v0 0 9223372036854775807 := rl_leB t49_2 (show rl (0 : Int64) 0 0 from rl_l (by decide)) (rl_any v0) (by decide)
          refine lv_lload_n hx hb dX11_quotient_52 rfl (lv_at hl 1 rfl) ?_
          refine lv_lload_n hx hb dX11_quotient_53 rfl (lv_at hl 2 rfl) ?_
          refine lv_ldiv hx hb dX11_quotient_54 (rl_nz (show v1.toInt ≠ 0 by have q0 := r32_3.1; have q1 := r32_3.2; have q2 := (show rl (0 : Int64) 0 0 from rl_l (by decide)).1; have q3 := (show rl (0 : Int64) 0 0 from rl_l (by decide)).2; have q4 := t3_2; have q5 := t32_2; omega)) ?_
          refine lv_topl (fun z54_1 ez54_1 => ?_)
          exact endq_l hQ hx hb hr hlocks dX11_quotient_55 () trivial hP hD hS [] rfl (by decide) rfl (Nat.le_of_ble_eq_true rfl) (Nat.le_of_ble_eq_true rfl)
      · have t32_2 := (l_nge ez31_1 c32_1)
        have r32_3 : rl v1 (-9223372036854775808) (-1) := rl_ltA t32_2 (rl_any v1) (show rl (0 : Int64) 0 0 from rl_l (by decide)) (by decide)
        refine lv_iload hx hb dX11_quotient_35 (lv_at hl 0 rfl) ?_
        refine lv_if_eq (tgt := 44) hx hb dX11_quotient_37 (by decide) (fun c37_1 => ?_) (fun c37_1 => ?_)
        · have t37_2 := (i_eq c37_1)
          have r37_3 : rg j27_s0 0 0 := rg_eqA t37_2 r27_1001 (show rg (0 : Int32) 0 0 from rg_l (by decide)) (by decide)
          refine lv_lconst (v := 1) hx hb dX11_quotient_44 (by decide) ?_
          exact endq_l hQ hx hb hr hlocks dX11_quotient_45 () trivial hP hD hS [] rfl (by decide) rfl (Nat.le_of_ble_eq_true rfl) (Nat.le_of_ble_eq_true rfl)
        · have t37_2 := (i_ne c37_1)
          have r37_3 : rg j27_s0 1 1 := rg_neAl t37_2 r27_1001 (show rg (0 : Int32) 0 0 from rg_l (by decide)) (by decide)
          refine lv_lconst (v := 0) hx hb dX11_quotient_40 (by decide) ?_
          refine lv_goto (tgt := 45) hx hb dX11_quotient_41 (by decide) ?_
          exact endq_l hQ hx hb hr hlocks dX11_quotient_45 () trivial hP hD hS [] rfl (by decide) rfl (Nat.le_of_ble_eq_true rfl) (Nat.le_of_ble_eq_true rfl)
    refine lv_if_ge (tgt := 26) hx hb dX11_quotient_19 (by decide) (fun c19_1 => ?_) (fun c19_1 => ?_)
    · have t19_2 := (l_ge ez18_1 c19_1)
      refine lv_iconst (v := 0) hx hb dX11_quotient_26 (by decide) ?_
      exact b27 (0 : Int32) H locs ls (rg_w (show rg (0 : Int32) 0 0 from rg_l (by decide)) (by decide)) (lv_sub hl [0, 1] rfl) hP hD hS
    · have t19_2 := (l_nge ez18_1 c19_1)
      have r19_3 : rl z12_1 (-9223372036854775808) 9223372036854775806 := rl_ltA t19_2 (rl_any z12_1) (rl_any z17_1) (by decide)
      have r19_4 : rl z17_1 (-9223372036854775807) 9223372036854775807 := rl_ltB t19_2 (rl_any z12_1) (rl_any z17_1) (by decide)
      refine lv_iconst (v := 1) hx hb dX11_quotient_22 (by decide) ?_
      refine lv_goto (tgt := 27) hx hb dX11_quotient_23 (by decide) ?_
      exact b27 (1 : Int32) H locs ls (rg_w (show rg (1 : Int32) 1 1 from rg_l (by decide)) (by decide)) (lv_sub hl [0, 1] rfl) hP hD hS
  · have t3_2 := (l_eq ez2_1 c3_1)
    have r3_3 : rl v1 0 0 := rl_eqA t3_2 (rl_any v1) (show rl (0 : Int64) 0 0 from rl_l (by decide)) (by decide)
    refine lv_lconst (v := 0) hx hb dX11_quotient_6 (by decide) ?_
    exact endq_l hQ hx hb hr hlocks dX11_quotient_7 () trivial hP hD hS [] rfl (by decide) rfl (Nat.le_of_ble_eq_true rfl) (Nat.le_of_ble_eq_true rfl)
set_option maxHeartbeats 2000000 in
theorem c_X11_worked (l : Launch) (D : va_G) (ct : Nat → ClassId) (v0 : Int32) (v1 : Int32) (v2 : Int64) (v3 : Int64) (h_v1 : rg v1 0 1) : KL (S := Unit) l yX11_worked cX11_worked 13 (some .long) 2 48 D ct [.int v0, .int v1, .long v2, .long v3] [] 0 0 (fun (r : Int64) (_ : Unit) => True) (fun (_ : Unit) => []) := by
  refine KLq_of (by decide) (Nat.le_of_ble_eq_true rfl) (fun p e s m below meth c A Q C0 hA H locs hS hP hD hQ ls hl => ?_)
  obtain ⟨hx, hb, hr, hown, hin, hml, hlocks, hn, hK, hZ, hSK⟩ := C0
  have hl : lv_has ls 13 [(0, .int v0), (1, .int v1), (2, .long v2), (4, .long v3)] := hl
  refine lv_iload_n hx hb dX11_worked_0 rfl (lv_at hl 1 rfl) ?_
  have b13 : ∀ (j13_s0 : Int64) (H : Heap) (locs : List Loc) (ls : Array Slot), lv_has ls 13 [(0, .int v0), (1, .int v1), (4, .long v3)] → va_P D vwCl [] H → va_D A [] → va_S A s.heap H locs → W p l e ({ frames := 2, cells := 0, slots := 0, locals := 48 }) s m [.int v0, .int v1, .long v2, .long v3].toArray below meth c H locs 0 0 Q (F0 m 13 ls [.long j13_s0]) := by
    intro j13_s0 H locs ls  hl hP hD hS
    refine lv_lstore (lv' := [(6, .long j13_s0), (0, .int v0), (1, .int v1), (4, .long v3)]) hx hb dX11_worked_13 hl (by decide) rfl (fun ls hl => ?_)
    refine lv_iload_n hx hb dX11_worked_15 rfl (lv_at hl 2 rfl) ?_
    have b30 : ∀ (j30_s0 : Int64) (H : Heap) (locs : List Loc) (ls : Array Slot), lv_has ls 13 [(0, .int v0), (1, .int v1), (6, .long j13_s0)] → va_P D vwCl [] H → va_D A [] → va_S A s.heap H locs → W p l e ({ frames := 2, cells := 0, slots := 0, locals := 48 }) s m [.int v0, .int v1, .long v2, .long v3].toArray below meth c H locs 0 0 Q (F0 m 30 ls [.long j30_s0]) := by
      intro j30_s0 H locs ls  hl hP hD hS
      refine lv_lstore (lv' := [(8, .long j30_s0), (0, .int v0), (1, .int v1), (6, .long j13_s0)]) hx hb dX11_worked_30 hl (by decide) rfl (fun ls hl => ?_)
      refine lv_lload hx hb dX11_worked_32 (lv_at hl 0 rfl) ?_
      refine lv_iload_n hx hb dX11_worked_34 rfl (lv_at hl 2 rfl) ?_
      have b45 : ∀ (j45_s0 : Int32) (H : Heap) (locs : List Loc) (ls : Array Slot), (rg j45_s0 31 63) → lv_has ls 13 [(0, .int v0), (1, .int v1), (6, .long j13_s0), (8, .long j30_s0)] → va_P D vwCl [] H → va_D A [] → va_S A s.heap H locs → W p l e ({ frames := 2, cells := 0, slots := 0, locals := 48 }) s m [.int v0, .int v1, .long v2, .long v3].toArray below meth c H locs 0 0 Q (F0 m 45 ls [.int j45_s0, .long j30_s0]) := by
        intro j45_s0 H locs ls r45_1001 hl hP hD hS
        refine lv_i2l hx hb dX11_worked_45 rfl ?_
        refine lv_topl (fun z45_1 ez45_1 => ?_)
        have r45_2 : rl z45_1 31 63 := rl_i2l ez45_1 r45_1001
        refine lv_land hx hb dX11_worked_46 ?_
        refine lv_topl (fun z46_1 ez46_1 => ?_)
        have r46_2 : rl z46_1 0 63 := rgL_andr ez46_1 r45_2 (by decide)
        refine lv_l2i hx hb dX11_worked_47 rfl ?_
        refine lv_topi (fun z47_1 ez47_1 => ?_)
        have r47_2 : rg z47_1 0 63 := rg_l2i ez47_1 r46_2 (by decide)
        refine lv_istore (lv' := [(10, .int z47_1), (0, .int v0), (1, .int v1), (6, .long j13_s0), (8, .long j30_s0)]) hx hb dX11_worked_48 hl (by decide) rfl (fun ls hl => ?_)
        refine lv_iload_n hx hb dX11_worked_50 rfl (lv_at hl 1 rfl) ?_
        have b280 : ∀ (j280_l11 : Int64) (H : Heap) (locs : List Loc) (ls : Array Slot), lv_has ls 13 [(1, .int v1), (11, .long j280_l11)] → va_P D vwCl [] H → va_D A [] → va_S A s.heap H locs → W p l e ({ frames := 2, cells := 0, slots := 0, locals := 48 }) s m [.int v0, .int v1, .long v2, .long v3].toArray below meth c H locs 0 0 Q (F0 m 280 ls []) := by
          intro j280_l11 H locs ls  hl hP hD hS
          refine lv_iload_n hx hb dX11_worked_280 rfl (lv_at hl 0 rfl) ?_
          refine lv_if_eq (tgt := 289) hx hb dX11_worked_281 (by decide) (fun c281_1 => ?_) (fun c281_1 => ?_)
          · have t281_2 := (i_eq c281_1)
            have r281_3 : rg v1 0 0 := rg_eqA t281_2 h_v1 (show rg (0 : Int32) 0 0 from rg_l (by decide)) (by decide)
            refine lv_lload hx hb dX11_worked_289 (lv_at hl 1 rfl) ?_
            refine lv_ldc2 (v := 4294967295) hx hb hown (hn.get mw_1105 rfl) dX11_worked_291 ?_
            refine lv_land hx hb dX11_worked_294 ?_
            refine lv_topl (fun z294_1 ez294_1 => ?_)
            have r294_2 : rl z294_1 0 4294967295 := rgL_andr ez294_1 (show rl (4294967295 : Int64) 4294967295 4294967295 from rl_l (by decide)) (by decide)
            exact endq_l hQ hx hb hr hlocks dX11_worked_295 () trivial hP hD hS [] rfl (by decide) rfl (Nat.le_of_ble_eq_true rfl) (Nat.le_of_ble_eq_true rfl)
          · have t281_2 := (i_ne c281_1)
            have r281_3 : rg v1 1 1 := rg_neAl t281_2 h_v1 (show rg (0 : Int32) 0 0 from rg_l (by decide)) (by decide)
            refine lv_lload hx hb dX11_worked_284 (lv_at hl 1 rfl) ?_
            refine lv_goto (tgt := 295) hx hb dX11_worked_286 (by decide) ?_
            exact endq_l hQ hx hb hr hlocks dX11_worked_295 () trivial hP hD hS [] rfl (by decide) rfl (Nat.le_of_ble_eq_true rfl) (Nat.le_of_ble_eq_true rfl)
        by_cases h51_101 : v0.toInt = 0
        · have r51_102 : rg v0 0 0 := rg_at h51_101
          refine lv_tableIn (off := 65) (tgt := 116) hx hb dX11_worked_51 (by rw [h51_101]; decide) (by rw [h51_101]; decide) (by rw [h51_101]; rfl) (by decide) ?_
          refine lv_lload hx hb dX11_worked_116 (lv_at hl 3 rfl) ?_
          refine lv_lload hx hb dX11_worked_118 (lv_at hl 4 rfl) ?_
          refine lv_ladd hx hb dX11_worked_120 ?_
          refine lv_topl (fun z120_1 ez120_1 => ?_)
          refine lv_lstore (lv' := [(11, .long z120_1), (10, .int z47_1), (0, .int v0), (1, .int v1), (6, .long j13_s0), (8, .long j30_s0)]) hx hb dX11_worked_121 hl (by decide) rfl (fun ls hl => ?_)
          refine lv_goto (tgt := 280) hx hb dX11_worked_123 (by decide) ?_
          exact b280 z120_1 H locs ls  (lv_sub hl [3, 0] rfl) hP hD hS
        by_cases h51_111 : v0.toInt = 1
        · have r51_112 : rg v0 1 1 := rg_at h51_111
          refine lv_tableIn (off := 75) (tgt := 126) hx hb dX11_worked_51 (by rw [h51_111]; decide) (by rw [h51_111]; decide) (by rw [h51_111]; rfl) (by decide) ?_
          refine lv_lload hx hb dX11_worked_126 (lv_at hl 3 rfl) ?_
          refine lv_lload hx hb dX11_worked_128 (lv_at hl 4 rfl) ?_
          refine lv_lsub hx hb dX11_worked_130 ?_
          refine lv_topl (fun z130_1 ez130_1 => ?_)
          refine lv_lstore (lv' := [(11, .long z130_1), (10, .int z47_1), (0, .int v0), (1, .int v1), (6, .long j13_s0), (8, .long j30_s0)]) hx hb dX11_worked_131 hl (by decide) rfl (fun ls hl => ?_)
          refine lv_goto (tgt := 280) hx hb dX11_worked_133 (by decide) ?_
          exact b280 z130_1 H locs ls  (lv_sub hl [3, 0] rfl) hP hD hS
        by_cases h51_121 : v0.toInt = 2
        · have r51_122 : rg v0 2 2 := rg_at h51_121
          refine lv_tableIn (off := 85) (tgt := 136) hx hb dX11_worked_51 (by rw [h51_121]; decide) (by rw [h51_121]; decide) (by rw [h51_121]; rfl) (by decide) ?_
          refine lv_lload hx hb dX11_worked_136 (lv_at hl 3 rfl) ?_
          refine lv_lload hx hb dX11_worked_138 (lv_at hl 4 rfl) ?_
          refine lv_lmul hx hb dX11_worked_140 ?_
          refine lv_topl (fun z140_1 ez140_1 => ?_)
          refine lv_lstore (lv' := [(11, .long z140_1), (10, .int z47_1), (0, .int v0), (1, .int v1), (6, .long j13_s0), (8, .long j30_s0)]) hx hb dX11_worked_141 hl (by decide) rfl (fun ls hl => ?_)
          refine lv_goto (tgt := 280) hx hb dX11_worked_143 (by decide) ?_
          exact b280 z140_1 H locs ls  (lv_sub hl [3, 0] rfl) hP hD hS
        by_cases h51_131 : v0.toInt = 3
        · have r51_132 : rg v0 3 3 := rg_at h51_131
          refine lv_tableIn (off := 95) (tgt := 146) hx hb dX11_worked_51 (by rw [h51_131]; decide) (by rw [h51_131]; decide) (by rw [h51_131]; rfl) (by decide) ?_
          refine lv_lload hx hb dX11_worked_146 (lv_at hl 3 rfl) ?_
          refine lv_lload hx hb dX11_worked_148 (lv_at hl 4 rfl) ?_
          refine go_l (k1 := 0) (n1 := 0) (wr := []) [] [] (rn_S (As := [.long j13_s0, .long j30_s0]) (rest := []) (c_X11_quotient l D ct j13_s0 j30_s0  _) (cb_of (n := 2) hn mw_1108 mw_1 mw_1106 mhX11_quotient ⟨(Nat.le_of_ble_eq_true rfl), (Nat.le_of_ble_eq_true rfl)⟩) hx hb hml hown hn hK hSK hZ hS mw_1107 rfl hl.1 (Nat.le_of_ble_eq_true rfl) dX11_worked_150 ⟨(Nat.le_of_ble_eq_true rfl), (Nat.le_of_ble_eq_true rfl)⟩) hP hD hS hA rfl rfl (by decide) (by decide) (by decide) (Nat.le_of_ble_eq_true rfl) (Nat.le_of_ble_eq_true rfl) (fun r150_1 u150_2 H locs hp150_3 hP hD hS => ?_)
          have hP : va_P D vwCl [] _ := hP
          have hD : va_D A [] := hD
          refine lv_lstore (lv' := [(11, .long r150_1), (10, .int z47_1), (0, .int v0), (1, .int v1), (6, .long j13_s0), (8, .long j30_s0)]) hx hb dX11_worked_153 hl (by decide) rfl (fun ls hl => ?_)
          refine lv_goto (tgt := 280) hx hb dX11_worked_155 (by decide) ?_
          exact b280 r150_1 H locs ls  (lv_sub hl [3, 0] rfl) hP hD hS
        by_cases h51_141 : v0.toInt = 4
        · have r51_142 : rg v0 4 4 := rg_at h51_141
          refine lv_tableIn (off := 107) (tgt := 158) hx hb dX11_worked_51 (by rw [h51_141]; decide) (by rw [h51_141]; decide) (by rw [h51_141]; rfl) (by decide) ?_
          refine lv_lload hx hb dX11_worked_158 (lv_at hl 3 rfl) ?_
          refine lv_lload hx hb dX11_worked_160 (lv_at hl 4 rfl) ?_
          refine lv_lor hx hb dX11_worked_162 ?_
          refine lv_topl (fun z162_1 ez162_1 => ?_)
          refine lv_lstore (lv' := [(11, .long z162_1), (10, .int z47_1), (0, .int v0), (1, .int v1), (6, .long j13_s0), (8, .long j30_s0)]) hx hb dX11_worked_163 hl (by decide) rfl (fun ls hl => ?_)
          refine lv_goto (tgt := 280) hx hb dX11_worked_165 (by decide) ?_
          exact b280 z162_1 H locs ls  (lv_sub hl [3, 0] rfl) hP hD hS
        by_cases h51_151 : v0.toInt = 5
        · have r51_152 : rg v0 5 5 := rg_at h51_151
          refine lv_tableIn (off := 117) (tgt := 168) hx hb dX11_worked_51 (by rw [h51_151]; decide) (by rw [h51_151]; decide) (by rw [h51_151]; rfl) (by decide) ?_
          refine lv_lload hx hb dX11_worked_168 (lv_at hl 3 rfl) ?_
          refine lv_lload hx hb dX11_worked_170 (lv_at hl 4 rfl) ?_
          refine lv_land hx hb dX11_worked_172 ?_
          refine lv_topl (fun z172_1 ez172_1 => ?_)
          refine lv_lstore (lv' := [(11, .long z172_1), (10, .int z47_1), (0, .int v0), (1, .int v1), (6, .long j13_s0), (8, .long j30_s0)]) hx hb dX11_worked_173 hl (by decide) rfl (fun ls hl => ?_)
          refine lv_goto (tgt := 280) hx hb dX11_worked_175 (by decide) ?_
          exact b280 z172_1 H locs ls  (lv_sub hl [3, 0] rfl) hP hD hS
        by_cases h51_161 : v0.toInt = 6
        · have r51_162 : rg v0 6 6 := rg_at h51_161
          refine lv_tableIn (off := 127) (tgt := 178) hx hb dX11_worked_51 (by rw [h51_161]; decide) (by rw [h51_161]; decide) (by rw [h51_161]; rfl) (by decide) ?_
          refine lv_lload hx hb dX11_worked_178 (lv_at hl 3 rfl) ?_
          refine lv_iload hx hb dX11_worked_180 (lv_at hl 0 rfl) ?_
          refine lv_lshl hx hb dX11_worked_182 rfl ?_
          refine lv_topl (fun z182_1 ez182_1 => ?_)
          refine lv_lstore (lv' := [(11, .long z182_1), (10, .int z47_1), (0, .int v0), (1, .int v1), (6, .long j13_s0), (8, .long j30_s0)]) hx hb dX11_worked_183 hl (by decide) rfl (fun ls hl => ?_)
          refine lv_goto (tgt := 280) hx hb dX11_worked_185 (by decide) ?_
          exact b280 z182_1 H locs ls  (lv_sub hl [3, 0] rfl) hP hD hS
        by_cases h51_171 : v0.toInt = 7
        · have r51_172 : rg v0 7 7 := rg_at h51_171
          refine lv_tableIn (off := 137) (tgt := 188) hx hb dX11_worked_51 (by rw [h51_171]; decide) (by rw [h51_171]; decide) (by rw [h51_171]; rfl) (by decide) ?_
          refine lv_lload hx hb dX11_worked_188 (lv_at hl 3 rfl) ?_
          refine lv_iload hx hb dX11_worked_190 (lv_at hl 0 rfl) ?_
          refine lv_lushr hx hb dX11_worked_192 rfl ?_
          refine lv_topl (fun z192_1 ez192_1 => ?_)
          refine lv_lstore (lv' := [(11, .long z192_1), (10, .int z47_1), (0, .int v0), (1, .int v1), (6, .long j13_s0), (8, .long j30_s0)]) hx hb dX11_worked_193 hl (by decide) rfl (fun ls hl => ?_)
          refine lv_goto (tgt := 280) hx hb dX11_worked_195 (by decide) ?_
          exact b280 z192_1 H locs ls  (lv_sub hl [3, 0] rfl) hP hD hS
        by_cases h51_181 : v0.toInt = 8
        · have r51_182 : rg v0 8 8 := rg_at h51_181
          refine lv_tableIn (off := 147) (tgt := 198) hx hb dX11_worked_51 (by rw [h51_181]; decide) (by rw [h51_181]; decide) (by rw [h51_181]; rfl) (by decide) ?_
          refine lv_lload hx hb dX11_worked_198 (lv_at hl 3 rfl) ?_
          refine lv_lneg hx hb dX11_worked_200 ?_
          refine lv_topl (fun z200_1 ez200_1 => ?_)
          refine lv_lstore (lv' := [(11, .long z200_1), (10, .int z47_1), (0, .int v0), (1, .int v1), (6, .long j13_s0), (8, .long j30_s0)]) hx hb dX11_worked_201 hl (by decide) rfl (fun ls hl => ?_)
          refine lv_goto (tgt := 280) hx hb dX11_worked_203 (by decide) ?_
          exact b280 z200_1 H locs ls  (lv_sub hl [3, 0] rfl) hP hD hS
        by_cases h51_191 : v0.toInt = 9
        · have r51_192 : rg v0 9 9 := rg_at h51_191
          refine lv_tableIn (off := 155) (tgt := 206) hx hb dX11_worked_51 (by rw [h51_191]; decide) (by rw [h51_191]; decide) (by rw [h51_191]; rfl) (by decide) ?_
          refine lv_lload hx hb dX11_worked_206 (lv_at hl 4 rfl) ?_
          refine lv_lconst (v := 0) hx hb dX11_worked_208 (by decide) ?_
          refine W.lcmp hx hb dX11_worked_209 ?_
          refine lv_topi (fun z209_1 ez209_1 => ?_)
          have b231 : ∀ (j231_s0 : Int64) (H : Heap) (locs : List Loc) (ls : Array Slot), lv_has ls 13 [(1, .int v1)] → va_P D vwCl [] H → va_D A [] → va_S A s.heap H locs → W p l e ({ frames := 2, cells := 0, slots := 0, locals := 48 }) s m [.int v0, .int v1, .long v2, .long v3].toArray below meth c H locs 0 0 Q (F0 m 231 ls [.long j231_s0]) := by
            intro j231_s0 H locs ls  hl hP hD hS
            refine lv_lstore (lv' := [(11, .long j231_s0), (1, .int v1)]) hx hb dX11_worked_231 hl (by decide) rfl (fun ls hl => ?_)
            refine lv_goto (tgt := 280) hx hb dX11_worked_233 (by decide) ?_
            exact b280 j231_s0 H locs ls  (lv_sub hl [1, 0] rfl) hP hD hS
          refine lv_if_ne (tgt := 218) hx hb dX11_worked_210 (by decide) (fun c210_1 => ?_) (fun c210_1 => ?_)
          · have t210_2 := (l_ne ez209_1 c210_1)
            refine lv_lload hx hb dX11_worked_218 (lv_at hl 3 rfl) ?_
            refine lv_lload hx hb dX11_worked_220 (lv_at hl 3 rfl) ?_
            refine lv_lload hx hb dX11_worked_222 (lv_at hl 4 rfl) ?_
            refine go_l (k1 := 0) (n1 := 0) (wr := []) [] [] (rn_S (As := [.long j13_s0, .long j30_s0]) (rest := [.long j13_s0]) (c_X11_quotient l D ct j13_s0 j30_s0  _) (cb_of (n := 2) hn mw_1108 mw_1 mw_1106 mhX11_quotient ⟨(Nat.le_of_ble_eq_true rfl), (Nat.le_of_ble_eq_true rfl)⟩) hx hb hml hown hn hK hSK hZ hS mw_1107 rfl hl.1 (Nat.le_of_ble_eq_true rfl) dX11_worked_224 ⟨(Nat.le_of_ble_eq_true rfl), (Nat.le_of_ble_eq_true rfl)⟩) hP hD hS hA rfl rfl (by decide) (by decide) (by decide) (Nat.le_of_ble_eq_true rfl) (Nat.le_of_ble_eq_true rfl) (fun r224_1 u224_2 H locs hp224_3 hP hD hS => ?_)
            have hP : va_P D vwCl [] _ := hP
            have hD : va_D A [] := hD
            refine lv_lload hx hb dX11_worked_227 (lv_at hl 4 rfl) ?_
            refine lv_lmul hx hb dX11_worked_229 ?_
            refine lv_topl (fun z229_1 ez229_1 => ?_)
            refine lv_lsub hx hb dX11_worked_230 ?_
            refine lv_topl (fun z230_1 ez230_1 => ?_)
            exact b231 z230_1 H locs ls  (lv_sub hl [2] rfl) hP hD hS
          · have t210_2 := (l_eq ez209_1 c210_1)
            have r210_3 : rl j30_s0 0 0 := rl_eqA t210_2 (rl_any j30_s0) (show rl (0 : Int64) 0 0 from rl_l (by decide)) (by decide)
            refine lv_lload hx hb dX11_worked_213 (lv_at hl 3 rfl) ?_
            refine lv_goto (tgt := 231) hx hb dX11_worked_215 (by decide) ?_
            exact b231 j13_s0 H locs ls  (lv_sub hl [2] rfl) hP hD hS
        by_cases h51_201 : v0.toInt = 10
        · have r51_202 : rg v0 10 10 := rg_at h51_201
          refine lv_tableIn (off := 185) (tgt := 236) hx hb dX11_worked_51 (by rw [h51_201]; decide) (by rw [h51_201]; decide) (by rw [h51_201]; rfl) (by decide) ?_
          refine lv_lload hx hb dX11_worked_236 (lv_at hl 3 rfl) ?_
          refine lv_lload hx hb dX11_worked_238 (lv_at hl 4 rfl) ?_
          refine lv_lxor hx hb dX11_worked_240 ?_
          refine lv_topl (fun z240_1 ez240_1 => ?_)
          refine lv_lstore (lv' := [(11, .long z240_1), (10, .int z47_1), (0, .int v0), (1, .int v1), (6, .long j13_s0), (8, .long j30_s0)]) hx hb dX11_worked_241 hl (by decide) rfl (fun ls hl => ?_)
          refine lv_goto (tgt := 280) hx hb dX11_worked_243 (by decide) ?_
          exact b280 z240_1 H locs ls  (lv_sub hl [3, 0] rfl) hP hD hS
        by_cases h51_211 : v0.toInt = 11
        · have r51_212 : rg v0 11 11 := rg_at h51_211
          refine lv_tableIn (off := 195) (tgt := 246) hx hb dX11_worked_51 (by rw [h51_211]; decide) (by rw [h51_211]; decide) (by rw [h51_211]; rfl) (by decide) ?_
          refine lv_lload hx hb dX11_worked_246 (lv_at hl 4 rfl) ?_
          refine lv_lstore (lv' := [(11, .long j30_s0), (10, .int z47_1), (0, .int v0), (1, .int v1), (6, .long j13_s0), (8, .long j30_s0)]) hx hb dX11_worked_248 hl (by decide) rfl (fun ls hl => ?_)
          refine lv_goto (tgt := 280) hx hb dX11_worked_250 (by decide) ?_
          exact b280 j30_s0 H locs ls  (lv_sub hl [3, 0] rfl) hP hD hS
        by_cases h51_221 : v0.toInt = 12
        · have r51_222 : rg v0 12 12 := rg_at h51_221
          refine lv_tableIn (off := 202) (tgt := 253) hx hb dX11_worked_51 (by rw [h51_221]; decide) (by rw [h51_221]; decide) (by rw [h51_221]; rfl) (by decide) ?_
          refine lv_iload_n hx hb dX11_worked_253 rfl (lv_at hl 2 rfl) ?_
          have b272 : ∀ (j272_s0 : Int64) (H : Heap) (locs : List Loc) (ls : Array Slot), lv_has ls 13 [(1, .int v1)] → va_P D vwCl [] H → va_D A [] → va_S A s.heap H locs → W p l e ({ frames := 2, cells := 0, slots := 0, locals := 48 }) s m [.int v0, .int v1, .long v2, .long v3].toArray below meth c H locs 0 0 Q (F0 m 272 ls [.long j272_s0]) := by
            intro j272_s0 H locs ls  hl hP hD hS
            refine lv_lstore (lv' := [(11, .long j272_s0), (1, .int v1)]) hx hb dX11_worked_272 hl (by decide) rfl (fun ls hl => ?_)
            refine lv_goto (tgt := 280) hx hb dX11_worked_274 (by decide) ?_
            exact b280 j272_s0 H locs ls  (lv_sub hl [1, 0] rfl) hP hD hS
          refine lv_if_eq (tgt := 265) hx hb dX11_worked_254 (by decide) (fun c254_1 => ?_) (fun c254_1 => ?_)
          · have t254_2 := (i_eq c254_1)
            have r254_3 : rg v1 0 0 := rg_eqA t254_2 h_v1 (show rg (0 : Int32) 0 0 from rg_l (by decide)) (by decide)
            refine lv_lload hx hb dX11_worked_265 (lv_at hl 3 rfl) ?_
            refine lv_l2i hx hb dX11_worked_267 rfl ?_
            refine lv_topi (fun z267_1 ez267_1 => ?_)
            refine lv_iload hx hb dX11_worked_268 (lv_at hl 0 rfl) ?_
            refine lv_ishr hx hb dX11_worked_270 ?_
            refine lv_topi (fun z270_1 ez270_1 => ?_)
            refine lv_i2l hx hb dX11_worked_271 rfl ?_
            refine lv_topl (fun z271_1 ez271_1 => ?_)
            have r271_2 : rl z271_1 (-2147483648) 2147483647 := rl_i2l ez271_1 (rg_any z270_1)
            exact b272 z271_1 H locs ls  (lv_sub hl [2] rfl) hP hD hS
          · have t254_2 := (i_ne c254_1)
            have r254_3 : rg v1 1 1 := rg_neAl t254_2 h_v1 (show rg (0 : Int32) 0 0 from rg_l (by decide)) (by decide)
            refine lv_lload hx hb dX11_worked_257 (lv_at hl 3 rfl) ?_
            refine lv_iload hx hb dX11_worked_259 (lv_at hl 0 rfl) ?_
            refine lv_lshr hx hb dX11_worked_261 rfl ?_
            refine lv_topl (fun z261_1 ez261_1 => ?_)
            refine lv_goto (tgt := 272) hx hb dX11_worked_262 (by decide) ?_
            exact b272 z261_1 H locs ls  (lv_sub hl [2] rfl) hP hD hS
        refine lv_tableOut (tgt := 277) hx hb dX11_worked_51 (by have q0 := (rg_any v0); have q1 := q0.1; have q2 := q0.2; omega) (by decide) ?_
        refine lv_lconst (v := 0) hx hb dX11_worked_277 (by decide) ?_
        refine lv_lstore (lv' := [(11, .long 0), (10, .int z47_1), (0, .int v0), (1, .int v1), (6, .long j13_s0), (8, .long j30_s0)]) hx hb dX11_worked_278 hl (by decide) rfl (fun ls hl => ?_)
        exact b280 (0 : Int64) H locs ls  (lv_sub hl [3, 0] rfl) hP hD hS
      refine lv_if_eq (tgt := 43) hx hb dX11_worked_35 (by decide) (fun c35_1 => ?_) (fun c35_1 => ?_)
      · have t35_2 := (i_eq c35_1)
        have r35_3 : rg v1 0 0 := rg_eqA t35_2 h_v1 (show rg (0 : Int32) 0 0 from rg_l (by decide)) (by decide)
        refine lv_bipush (v := 31) hx hb dX11_worked_43 (by decide) ?_
        exact b45 (31 : Int32) H locs ls (rg_w (show rg (31 : Int32) 31 31 from rg_l (by decide)) (by decide)) (lv_sub hl [1, 2, 3, 0] rfl) hP hD hS
      · have t35_2 := (i_ne c35_1)
        have r35_3 : rg v1 1 1 := rg_neAl t35_2 h_v1 (show rg (0 : Int32) 0 0 from rg_l (by decide)) (by decide)
        refine lv_bipush (v := 63) hx hb dX11_worked_38 (by decide) ?_
        refine lv_goto (tgt := 45) hx hb dX11_worked_40 (by decide) ?_
        exact b45 (63 : Int32) H locs ls (rg_w (show rg (63 : Int32) 63 63 from rg_l (by decide)) (by decide)) (lv_sub hl [1, 2, 3, 0] rfl) hP hD hS
    refine lv_if_eq (tgt := 24) hx hb dX11_worked_16 (by decide) (fun c16_1 => ?_) (fun c16_1 => ?_)
    · have t16_2 := (i_eq c16_1)
      have r16_3 : rg v1 0 0 := rg_eqA t16_2 h_v1 (show rg (0 : Int32) 0 0 from rg_l (by decide)) (by decide)
      refine lv_lload hx hb dX11_worked_24 (lv_at hl 3 rfl) ?_
      refine lv_ldc2 (v := 4294967295) hx hb hown (hn.get mw_1105 rfl) dX11_worked_26 ?_
      refine lv_land hx hb dX11_worked_29 ?_
      refine lv_topl (fun z29_1 ez29_1 => ?_)
      have r29_2 : rl z29_1 0 4294967295 := rgL_andr ez29_1 (show rl (4294967295 : Int64) 4294967295 4294967295 from rl_l (by decide)) (by decide)
      exact b30 z29_1 H locs ls  (lv_sub hl [1, 2, 0] rfl) hP hD hS
    · have t16_2 := (i_ne c16_1)
      have r16_3 : rg v1 1 1 := rg_neAl t16_2 h_v1 (show rg (0 : Int32) 0 0 from rg_l (by decide)) (by decide)
      refine lv_lload hx hb dX11_worked_19 (lv_at hl 3 rfl) ?_
      refine lv_goto (tgt := 30) hx hb dX11_worked_21 (by decide) ?_
      exact b30 v3 H locs ls  (lv_sub hl [1, 2, 0] rfl) hP hD hS
  refine lv_if_eq (tgt := 8) hx hb dX11_worked_1 (by decide) (fun c1_1 => ?_) (fun c1_1 => ?_)
  · have t1_2 := (i_eq c1_1)
    have r1_3 : rg v1 0 0 := rg_eqA t1_2 h_v1 (show rg (0 : Int32) 0 0 from rg_l (by decide)) (by decide)
    refine lv_lload_n hx hb dX11_worked_8 rfl (lv_at hl 2 rfl) ?_
    refine lv_ldc2 (v := 4294967295) hx hb hown (hn.get mw_1105 rfl) dX11_worked_9 ?_
    refine lv_land hx hb dX11_worked_12 ?_
    refine lv_topl (fun z12_1 ez12_1 => ?_)
    have r12_2 : rl z12_1 0 4294967295 := rgL_andr ez12_1 (show rl (4294967295 : Int64) 4294967295 4294967295 from rl_l (by decide)) (by decide)
    exact b13 z12_1 H locs ls  (lv_sub hl [0, 1, 3] rfl) hP hD hS
  · have t1_2 := (i_ne c1_1)
    have r1_3 : rg v1 1 1 := rg_neAl t1_2 h_v1 (show rg (0 : Int32) 0 0 from rg_l (by decide)) (by decide)
    refine lv_lload_n hx hb dX11_worked_4 rfl (lv_at hl 2 rfl) ?_
    refine lv_goto (tgt := 13) hx hb dX11_worked_5 (by decide) ?_
    exact b13 v2 H locs ls  (lv_sub hl [0, 1, 3] rfl) hP hD hS
set_option maxHeartbeats 2000000 in
theorem c_X11_holds (l : Launch) (D : va_G) (ct : Nat → ClassId) (v0 : Int32) (v1 : Int32) (v2 : Int64) (v3 : Int64) (h_v1 : rg v1 0 1) : KI (S := Unit) l yX11_holds cX11_holds 10 (some .boolean) 2 43 D ct [.int v0, .int v1, .long v2, .long v3] [] 0 0 (fun (r : Int32) (_ : Unit) => rg r 0 1) (fun (_ : Unit) => []) := by
  refine KIq_of (by decide) (Nat.le_of_ble_eq_true rfl) (fun p e s m below meth c A Q C0 hA H locs hS hP hD hQ ls hl => ?_)
  obtain ⟨hx, hb, hr, hown, hin, hml, hlocks, hn, hK, hZ, hSK⟩ := C0
  have hl : lv_has ls 10 [(0, .int v0), (1, .int v1), (2, .long v2), (4, .long v3)] := hl
  refine lv_iload_n hx hb dX11_holds_0 rfl (lv_at hl 1 rfl) ?_
  have b11 : ∀ (j11_s0 : Int64) (H : Heap) (locs : List Loc) (ls : Array Slot), lv_has ls 10 [(0, .int v0), (1, .int v1), (4, .long v3)] → va_P D vwCl [] H → va_D A [] → va_S A s.heap H locs → W p l e ({ frames := 2, cells := 0, slots := 0, locals := 43 }) s m [.int v0, .int v1, .long v2, .long v3].toArray below meth c H locs 0 0 Q (F0 m 11 ls [.long j11_s0]) := by
    intro j11_s0 H locs ls  hl hP hD hS
    refine lv_lstore (lv' := [(6, .long j11_s0), (0, .int v0), (1, .int v1), (4, .long v3)]) hx hb dX11_holds_11 hl (by decide) rfl (fun ls hl => ?_)
    refine lv_iload_n hx hb dX11_holds_13 rfl (lv_at hl 2 rfl) ?_
    have b26 : ∀ (j26_s0 : Int64) (H : Heap) (locs : List Loc) (ls : Array Slot), lv_has ls 10 [(0, .int v0), (6, .long j11_s0)] → va_P D vwCl [] H → va_D A [] → va_S A s.heap H locs → W p l e ({ frames := 2, cells := 0, slots := 0, locals := 43 }) s m [.int v0, .int v1, .long v2, .long v3].toArray below meth c H locs 0 0 Q (F0 m 26 ls [.long j26_s0]) := by
      intro j26_s0 H locs ls  hl hP hD hS
      refine lv_lstore (lv' := [(8, .long j26_s0), (0, .int v0), (6, .long j11_s0)]) hx hb dX11_holds_26 hl (by decide) rfl (fun ls hl => ?_)
      refine lv_iload_n hx hb dX11_holds_28 rfl (lv_at hl 1 rfl) ?_
      by_cases h29_101 : v0.toInt = 0
      · have r29_102 : rg v0 0 0 := rg_at h29_101
        refine lv_tableIn (off := 71) (tgt := 100) hx hb dX11_holds_29 (by rw [h29_101]; decide) (by rw [h29_101]; decide) (by rw [h29_101]; rfl) (by decide) ?_
        refine lv_iconst (v := 1) hx hb dX11_holds_100 (by decide) ?_
        exact endq_i hQ hx hb hr hlocks dX11_holds_101 (by decide) () (rg_w (show rg (1 : Int32) 1 1 from rg_l (by decide)) (by decide)) hP hD hS [] rfl (by decide) rfl (Nat.le_of_ble_eq_true rfl) (Nat.le_of_ble_eq_true rfl)
      by_cases h29_111 : v0.toInt = 1
      · have r29_112 : rg v0 1 1 := rg_at h29_111
        refine lv_tableIn (off := 73) (tgt := 102) hx hb dX11_holds_29 (by rw [h29_111]; decide) (by rw [h29_111]; decide) (by rw [h29_111]; rfl) (by decide) ?_
        refine lv_lload hx hb dX11_holds_102 (lv_at hl 2 rfl) ?_
        refine lv_lload hx hb dX11_holds_104 (lv_at hl 0 rfl) ?_
        refine W.lcmp hx hb dX11_holds_106 ?_
        refine lv_topi (fun z106_1 ez106_1 => ?_)
        refine lv_if_ne (tgt := 114) hx hb dX11_holds_107 (by decide) (fun c107_1 => ?_) (fun c107_1 => ?_)
        · have t107_2 := (l_ne ez106_1 c107_1)
          refine lv_iconst (v := 0) hx hb dX11_holds_114 (by decide) ?_
          exact endq_i hQ hx hb hr hlocks dX11_holds_115 (by decide) () (rg_w (show rg (0 : Int32) 0 0 from rg_l (by decide)) (by decide)) hP hD hS [] rfl (by decide) rfl (Nat.le_of_ble_eq_true rfl) (Nat.le_of_ble_eq_true rfl)
        · have t107_2 := (l_eq ez106_1 c107_1)
          refine lv_iconst (v := 1) hx hb dX11_holds_110 (by decide) ?_
          refine lv_goto (tgt := 115) hx hb dX11_holds_111 (by decide) ?_
          exact endq_i hQ hx hb hr hlocks dX11_holds_115 (by decide) () (rg_w (show rg (1 : Int32) 1 1 from rg_l (by decide)) (by decide)) hP hD hS [] rfl (by decide) rfl (Nat.le_of_ble_eq_true rfl) (Nat.le_of_ble_eq_true rfl)
      by_cases h29_121 : v0.toInt = 2
      · have r29_122 : rg v0 2 2 := rg_at h29_121
        refine lv_tableIn (off := 87) (tgt := 116) hx hb dX11_holds_29 (by rw [h29_121]; decide) (by rw [h29_121]; decide) (by rw [h29_121]; rfl) (by decide) ?_
        refine lv_lload hx hb dX11_holds_116 (lv_at hl 0 rfl) ?_
        refine lv_lload hx hb dX11_holds_118 (lv_at hl 2 rfl) ?_
        refine go_i (k1 := 0) (n1 := 0) (wr := []) [] [] (rn_S (As := [.long j26_s0, .long j11_s0]) (rest := []) (c_X11_below l D ct j26_s0 j11_s0  _) (cb_of (n := 2) hn mw_1040 mw_1 mw_1038 mhX11_below ⟨(Nat.le_of_ble_eq_true rfl), (Nat.le_of_ble_eq_true rfl)⟩) hx hb hml hown hn hK hSK hZ hS mw_1039 rfl hl.1 (Nat.le_of_ble_eq_true rfl) dX11_holds_120 ⟨(Nat.le_of_ble_eq_true rfl), (Nat.le_of_ble_eq_true rfl)⟩) hP hD hS hA rfl rfl (by decide) (by decide) (by decide) (Nat.le_of_ble_eq_true rfl) (Nat.le_of_ble_eq_true rfl) (fun r120_1 u120_2 H locs hp120_3 hP hD hS => ?_)
        have hp120_4 := hp120_3
        have hp120_4 : rg r120_1 0 1 := hp120_4
        have hP : va_P D vwCl [] _ := hP
        have hD : va_D A [] := hD
        exact endq_i hQ hx hb hr hlocks dX11_holds_123 (nar_bool hp120_4) () hp120_4 hP hD hS [] rfl (by decide) rfl (Nat.le_of_ble_eq_true rfl) (Nat.le_of_ble_eq_true rfl)
      by_cases h29_131 : v0.toInt = 3
      · have r29_132 : rg v0 3 3 := rg_at h29_131
        refine lv_tableIn (off := 95) (tgt := 124) hx hb dX11_holds_29 (by rw [h29_131]; decide) (by rw [h29_131]; decide) (by rw [h29_131]; rfl) (by decide) ?_
        refine lv_lload hx hb dX11_holds_124 (lv_at hl 2 rfl) ?_
        refine lv_lload hx hb dX11_holds_126 (lv_at hl 0 rfl) ?_
        refine go_i (k1 := 0) (n1 := 0) (wr := []) [] [] (rn_S (As := [.long j11_s0, .long j26_s0]) (rest := []) (c_X11_below l D ct j11_s0 j26_s0  _) (cb_of (n := 2) hn mw_1040 mw_1 mw_1038 mhX11_below ⟨(Nat.le_of_ble_eq_true rfl), (Nat.le_of_ble_eq_true rfl)⟩) hx hb hml hown hn hK hSK hZ hS mw_1039 rfl hl.1 (Nat.le_of_ble_eq_true rfl) dX11_holds_128 ⟨(Nat.le_of_ble_eq_true rfl), (Nat.le_of_ble_eq_true rfl)⟩) hP hD hS hA rfl rfl (by decide) (by decide) (by decide) (Nat.le_of_ble_eq_true rfl) (Nat.le_of_ble_eq_true rfl) (fun r128_1 u128_2 H locs hp128_3 hP hD hS => ?_)
        have hp128_4 := hp128_3
        have hp128_4 : rg r128_1 0 1 := hp128_4
        have hP : va_P D vwCl [] _ := hP
        have hD : va_D A [] := hD
        refine lv_if_ne (tgt := 138) hx hb dX11_holds_131 (by decide) (fun c131_1 => ?_) (fun c131_1 => ?_)
        · have t131_2 := (i_ne c131_1)
          have r131_3 : rg r128_1 1 1 := rg_neAl t131_2 hp128_4 (show rg (0 : Int32) 0 0 from rg_l (by decide)) (by decide)
          refine lv_iconst (v := 0) hx hb dX11_holds_138 (by decide) ?_
          exact endq_i hQ hx hb hr hlocks dX11_holds_139 (by decide) () (rg_w (show rg (0 : Int32) 0 0 from rg_l (by decide)) (by decide)) hP hD hS [] rfl (by decide) rfl (Nat.le_of_ble_eq_true rfl) (Nat.le_of_ble_eq_true rfl)
        · have t131_2 := (i_eq c131_1)
          have r131_3 : rg r128_1 0 0 := rg_eqA t131_2 hp128_4 (show rg (0 : Int32) 0 0 from rg_l (by decide)) (by decide)
          refine lv_iconst (v := 1) hx hb dX11_holds_134 (by decide) ?_
          refine lv_goto (tgt := 139) hx hb dX11_holds_135 (by decide) ?_
          exact endq_i hQ hx hb hr hlocks dX11_holds_139 (by decide) () (rg_w (show rg (1 : Int32) 1 1 from rg_l (by decide)) (by decide)) hP hD hS [] rfl (by decide) rfl (Nat.le_of_ble_eq_true rfl) (Nat.le_of_ble_eq_true rfl)
      by_cases h29_141 : v0.toInt = 4
      · have r29_142 : rg v0 4 4 := rg_at h29_141
        refine lv_tableIn (off := 111) (tgt := 140) hx hb dX11_holds_29 (by rw [h29_141]; decide) (by rw [h29_141]; decide) (by rw [h29_141]; rfl) (by decide) ?_
        refine lv_lload hx hb dX11_holds_140 (lv_at hl 2 rfl) ?_
        refine lv_lload hx hb dX11_holds_142 (lv_at hl 0 rfl) ?_
        refine lv_land hx hb dX11_holds_144 ?_
        refine lv_topl (fun z144_1 ez144_1 => ?_)
        refine lv_lconst (v := 0) hx hb dX11_holds_145 (by decide) ?_
        refine W.lcmp hx hb dX11_holds_146 ?_
        refine lv_topi (fun z146_1 ez146_1 => ?_)
        refine lv_if_eq (tgt := 154) hx hb dX11_holds_147 (by decide) (fun c147_1 => ?_) (fun c147_1 => ?_)
        · have t147_2 := (l_eq ez146_1 c147_1)
          have r147_3 : rl z144_1 0 0 := rl_eqA t147_2 (rl_any z144_1) (show rl (0 : Int64) 0 0 from rl_l (by decide)) (by decide)
          refine lv_iconst (v := 0) hx hb dX11_holds_154 (by decide) ?_
          exact endq_i hQ hx hb hr hlocks dX11_holds_155 (by decide) () (rg_w (show rg (0 : Int32) 0 0 from rg_l (by decide)) (by decide)) hP hD hS [] rfl (by decide) rfl (Nat.le_of_ble_eq_true rfl) (Nat.le_of_ble_eq_true rfl)
        · have t147_2 := (l_neq ez146_1 c147_1)
          refine lv_iconst (v := 1) hx hb dX11_holds_150 (by decide) ?_
          refine lv_goto (tgt := 155) hx hb dX11_holds_151 (by decide) ?_
          exact endq_i hQ hx hb hr hlocks dX11_holds_155 (by decide) () (rg_w (show rg (1 : Int32) 1 1 from rg_l (by decide)) (by decide)) hP hD hS [] rfl (by decide) rfl (Nat.le_of_ble_eq_true rfl) (Nat.le_of_ble_eq_true rfl)
      by_cases h29_151 : v0.toInt = 5
      · have r29_152 : rg v0 5 5 := rg_at h29_151
        refine lv_tableIn (off := 127) (tgt := 156) hx hb dX11_holds_29 (by rw [h29_151]; decide) (by rw [h29_151]; decide) (by rw [h29_151]; rfl) (by decide) ?_
        refine lv_lload hx hb dX11_holds_156 (lv_at hl 2 rfl) ?_
        refine lv_lload hx hb dX11_holds_158 (lv_at hl 0 rfl) ?_
        refine W.lcmp hx hb dX11_holds_160 ?_
        refine lv_topi (fun z160_1 ez160_1 => ?_)
        refine lv_if_eq (tgt := 168) hx hb dX11_holds_161 (by decide) (fun c161_1 => ?_) (fun c161_1 => ?_)
        · have t161_2 := (l_eq ez160_1 c161_1)
          refine lv_iconst (v := 0) hx hb dX11_holds_168 (by decide) ?_
          exact endq_i hQ hx hb hr hlocks dX11_holds_169 (by decide) () (rg_w (show rg (0 : Int32) 0 0 from rg_l (by decide)) (by decide)) hP hD hS [] rfl (by decide) rfl (Nat.le_of_ble_eq_true rfl) (Nat.le_of_ble_eq_true rfl)
        · have t161_2 := (l_neq ez160_1 c161_1)
          refine lv_iconst (v := 1) hx hb dX11_holds_164 (by decide) ?_
          refine lv_goto (tgt := 169) hx hb dX11_holds_165 (by decide) ?_
          exact endq_i hQ hx hb hr hlocks dX11_holds_169 (by decide) () (rg_w (show rg (1 : Int32) 1 1 from rg_l (by decide)) (by decide)) hP hD hS [] rfl (by decide) rfl (Nat.le_of_ble_eq_true rfl) (Nat.le_of_ble_eq_true rfl)
      by_cases h29_161 : v0.toInt = 6
      · have r29_162 : rg v0 6 6 := rg_at h29_161
        refine lv_tableIn (off := 141) (tgt := 170) hx hb dX11_holds_29 (by rw [h29_161]; decide) (by rw [h29_161]; decide) (by rw [h29_161]; rfl) (by decide) ?_
        refine lv_lload hx hb dX11_holds_170 (lv_at hl 2 rfl) ?_
        refine lv_lload hx hb dX11_holds_172 (lv_at hl 0 rfl) ?_
        refine W.lcmp hx hb dX11_holds_174 ?_
        refine lv_topi (fun z174_1 ez174_1 => ?_)
        refine lv_if_le (tgt := 182) hx hb dX11_holds_175 (by decide) (fun c175_1 => ?_) (fun c175_1 => ?_)
        · have t175_2 := (l_le ez174_1 c175_1)
          refine lv_iconst (v := 0) hx hb dX11_holds_182 (by decide) ?_
          exact endq_i hQ hx hb hr hlocks dX11_holds_183 (by decide) () (rg_w (show rg (0 : Int32) 0 0 from rg_l (by decide)) (by decide)) hP hD hS [] rfl (by decide) rfl (Nat.le_of_ble_eq_true rfl) (Nat.le_of_ble_eq_true rfl)
        · have t175_2 := (l_nle ez174_1 c175_1)
          have r175_3 : rl j26_s0 (-9223372036854775808) 9223372036854775806 := rl_ltA t175_2 (rl_any j26_s0) (rl_any j11_s0) (by decide)
          have r175_4 : rl j11_s0 (-9223372036854775807) 9223372036854775807 := rl_ltB t175_2 (rl_any j26_s0) (rl_any j11_s0) (by decide)
          refine lv_iconst (v := 1) hx hb dX11_holds_178 (by decide) ?_
          refine lv_goto (tgt := 183) hx hb dX11_holds_179 (by decide) ?_
          exact endq_i hQ hx hb hr hlocks dX11_holds_183 (by decide) () (rg_w (show rg (1 : Int32) 1 1 from rg_l (by decide)) (by decide)) hP hD hS [] rfl (by decide) rfl (Nat.le_of_ble_eq_true rfl) (Nat.le_of_ble_eq_true rfl)
      by_cases h29_171 : v0.toInt = 7
      · have r29_172 : rg v0 7 7 := rg_at h29_171
        refine lv_tableIn (off := 155) (tgt := 184) hx hb dX11_holds_29 (by rw [h29_171]; decide) (by rw [h29_171]; decide) (by rw [h29_171]; rfl) (by decide) ?_
        refine lv_lload hx hb dX11_holds_184 (lv_at hl 2 rfl) ?_
        refine lv_lload hx hb dX11_holds_186 (lv_at hl 0 rfl) ?_
        refine W.lcmp hx hb dX11_holds_188 ?_
        refine lv_topi (fun z188_1 ez188_1 => ?_)
        refine lv_if_lt (tgt := 196) hx hb dX11_holds_189 (by decide) (fun c189_1 => ?_) (fun c189_1 => ?_)
        · have t189_2 := (l_lt ez188_1 c189_1)
          have r189_3 : rl j11_s0 (-9223372036854775808) 9223372036854775806 := rl_ltA t189_2 (rl_any j11_s0) (rl_any j26_s0) (by decide)
          have r189_4 : rl j26_s0 (-9223372036854775807) 9223372036854775807 := rl_ltB t189_2 (rl_any j11_s0) (rl_any j26_s0) (by decide)
          refine lv_iconst (v := 0) hx hb dX11_holds_196 (by decide) ?_
          exact endq_i hQ hx hb hr hlocks dX11_holds_197 (by decide) () (rg_w (show rg (0 : Int32) 0 0 from rg_l (by decide)) (by decide)) hP hD hS [] rfl (by decide) rfl (Nat.le_of_ble_eq_true rfl) (Nat.le_of_ble_eq_true rfl)
        · have t189_2 := (l_nlt ez188_1 c189_1)
          refine lv_iconst (v := 1) hx hb dX11_holds_192 (by decide) ?_
          refine lv_goto (tgt := 197) hx hb dX11_holds_193 (by decide) ?_
          exact endq_i hQ hx hb hr hlocks dX11_holds_197 (by decide) () (rg_w (show rg (1 : Int32) 1 1 from rg_l (by decide)) (by decide)) hP hD hS [] rfl (by decide) rfl (Nat.le_of_ble_eq_true rfl) (Nat.le_of_ble_eq_true rfl)
      by_cases h29_181 : v0.toInt = 8
      · have r29_182 : rg v0 8 8 := rg_at h29_181
        refine lv_tableIn (off := 221) (tgt := 250) hx hb dX11_holds_29 (by rw [h29_181]; decide) (by rw [h29_181]; decide) (by rw [h29_181]; rfl) (by decide) ?_
        refine lv_iconst (v := 0) hx hb dX11_holds_250 (by decide) ?_
        exact endq_i hQ hx hb hr hlocks dX11_holds_251 (by decide) () (rg_w (show rg (0 : Int32) 0 0 from rg_l (by decide)) (by decide)) hP hD hS [] rfl (by decide) rfl (Nat.le_of_ble_eq_true rfl) (Nat.le_of_ble_eq_true rfl)
      by_cases h29_191 : v0.toInt = 9
      · have r29_192 : rg v0 9 9 := rg_at h29_191
        refine lv_tableIn (off := 221) (tgt := 250) hx hb dX11_holds_29 (by rw [h29_191]; decide) (by rw [h29_191]; decide) (by rw [h29_191]; rfl) (by decide) ?_
        refine lv_iconst (v := 0) hx hb dX11_holds_250 (by decide) ?_
        exact endq_i hQ hx hb hr hlocks dX11_holds_251 (by decide) () (rg_w (show rg (0 : Int32) 0 0 from rg_l (by decide)) (by decide)) hP hD hS [] rfl (by decide) rfl (Nat.le_of_ble_eq_true rfl) (Nat.le_of_ble_eq_true rfl)
      by_cases h29_201 : v0.toInt = 10
      · have r29_202 : rg v0 10 10 := rg_at h29_201
        refine lv_tableIn (off := 169) (tgt := 198) hx hb dX11_holds_29 (by rw [h29_201]; decide) (by rw [h29_201]; decide) (by rw [h29_201]; rfl) (by decide) ?_
        refine lv_lload hx hb dX11_holds_198 (lv_at hl 2 rfl) ?_
        refine lv_lload hx hb dX11_holds_200 (lv_at hl 0 rfl) ?_
        refine go_i (k1 := 0) (n1 := 0) (wr := []) [] [] (rn_S (As := [.long j11_s0, .long j26_s0]) (rest := []) (c_X11_below l D ct j11_s0 j26_s0  _) (cb_of (n := 2) hn mw_1040 mw_1 mw_1038 mhX11_below ⟨(Nat.le_of_ble_eq_true rfl), (Nat.le_of_ble_eq_true rfl)⟩) hx hb hml hown hn hK hSK hZ hS mw_1039 rfl hl.1 (Nat.le_of_ble_eq_true rfl) dX11_holds_202 ⟨(Nat.le_of_ble_eq_true rfl), (Nat.le_of_ble_eq_true rfl)⟩) hP hD hS hA rfl rfl (by decide) (by decide) (by decide) (Nat.le_of_ble_eq_true rfl) (Nat.le_of_ble_eq_true rfl) (fun r202_1 u202_2 H locs hp202_3 hP hD hS => ?_)
        have hp202_4 := hp202_3
        have hp202_4 : rg r202_1 0 1 := hp202_4
        have hP : va_P D vwCl [] _ := hP
        have hD : va_D A [] := hD
        exact endq_i hQ hx hb hr hlocks dX11_holds_205 (nar_bool hp202_4) () hp202_4 hP hD hS [] rfl (by decide) rfl (Nat.le_of_ble_eq_true rfl) (Nat.le_of_ble_eq_true rfl)
      by_cases h29_211 : v0.toInt = 11
      · have r29_212 : rg v0 11 11 := rg_at h29_211
        refine lv_tableIn (off := 177) (tgt := 206) hx hb dX11_holds_29 (by rw [h29_211]; decide) (by rw [h29_211]; decide) (by rw [h29_211]; rfl) (by decide) ?_
        refine lv_lload hx hb dX11_holds_206 (lv_at hl 0 rfl) ?_
        refine lv_lload hx hb dX11_holds_208 (lv_at hl 2 rfl) ?_
        refine go_i (k1 := 0) (n1 := 0) (wr := []) [] [] (rn_S (As := [.long j26_s0, .long j11_s0]) (rest := []) (c_X11_below l D ct j26_s0 j11_s0  _) (cb_of (n := 2) hn mw_1040 mw_1 mw_1038 mhX11_below ⟨(Nat.le_of_ble_eq_true rfl), (Nat.le_of_ble_eq_true rfl)⟩) hx hb hml hown hn hK hSK hZ hS mw_1039 rfl hl.1 (Nat.le_of_ble_eq_true rfl) dX11_holds_210 ⟨(Nat.le_of_ble_eq_true rfl), (Nat.le_of_ble_eq_true rfl)⟩) hP hD hS hA rfl rfl (by decide) (by decide) (by decide) (Nat.le_of_ble_eq_true rfl) (Nat.le_of_ble_eq_true rfl) (fun r210_1 u210_2 H locs hp210_3 hP hD hS => ?_)
        have hp210_4 := hp210_3
        have hp210_4 : rg r210_1 0 1 := hp210_4
        have hP : va_P D vwCl [] _ := hP
        have hD : va_D A [] := hD
        refine lv_if_ne (tgt := 220) hx hb dX11_holds_213 (by decide) (fun c213_1 => ?_) (fun c213_1 => ?_)
        · have t213_2 := (i_ne c213_1)
          have r213_3 : rg r210_1 1 1 := rg_neAl t213_2 hp210_4 (show rg (0 : Int32) 0 0 from rg_l (by decide)) (by decide)
          refine lv_iconst (v := 0) hx hb dX11_holds_220 (by decide) ?_
          exact endq_i hQ hx hb hr hlocks dX11_holds_221 (by decide) () (rg_w (show rg (0 : Int32) 0 0 from rg_l (by decide)) (by decide)) hP hD hS [] rfl (by decide) rfl (Nat.le_of_ble_eq_true rfl) (Nat.le_of_ble_eq_true rfl)
        · have t213_2 := (i_eq c213_1)
          have r213_3 : rg r210_1 0 0 := rg_eqA t213_2 hp210_4 (show rg (0 : Int32) 0 0 from rg_l (by decide)) (by decide)
          refine lv_iconst (v := 1) hx hb dX11_holds_216 (by decide) ?_
          refine lv_goto (tgt := 221) hx hb dX11_holds_217 (by decide) ?_
          exact endq_i hQ hx hb hr hlocks dX11_holds_221 (by decide) () (rg_w (show rg (1 : Int32) 1 1 from rg_l (by decide)) (by decide)) hP hD hS [] rfl (by decide) rfl (Nat.le_of_ble_eq_true rfl) (Nat.le_of_ble_eq_true rfl)
      by_cases h29_221 : v0.toInt = 12
      · have r29_222 : rg v0 12 12 := rg_at h29_221
        refine lv_tableIn (off := 193) (tgt := 222) hx hb dX11_holds_29 (by rw [h29_221]; decide) (by rw [h29_221]; decide) (by rw [h29_221]; rfl) (by decide) ?_
        refine lv_lload hx hb dX11_holds_222 (lv_at hl 2 rfl) ?_
        refine lv_lload hx hb dX11_holds_224 (lv_at hl 0 rfl) ?_
        refine W.lcmp hx hb dX11_holds_226 ?_
        refine lv_topi (fun z226_1 ez226_1 => ?_)
        refine lv_if_ge (tgt := 234) hx hb dX11_holds_227 (by decide) (fun c227_1 => ?_) (fun c227_1 => ?_)
        · have t227_2 := (l_ge ez226_1 c227_1)
          refine lv_iconst (v := 0) hx hb dX11_holds_234 (by decide) ?_
          exact endq_i hQ hx hb hr hlocks dX11_holds_235 (by decide) () (rg_w (show rg (0 : Int32) 0 0 from rg_l (by decide)) (by decide)) hP hD hS [] rfl (by decide) rfl (Nat.le_of_ble_eq_true rfl) (Nat.le_of_ble_eq_true rfl)
        · have t227_2 := (l_nge ez226_1 c227_1)
          have r227_3 : rl j11_s0 (-9223372036854775808) 9223372036854775806 := rl_ltA t227_2 (rl_any j11_s0) (rl_any j26_s0) (by decide)
          have r227_4 : rl j26_s0 (-9223372036854775807) 9223372036854775807 := rl_ltB t227_2 (rl_any j11_s0) (rl_any j26_s0) (by decide)
          refine lv_iconst (v := 1) hx hb dX11_holds_230 (by decide) ?_
          refine lv_goto (tgt := 235) hx hb dX11_holds_231 (by decide) ?_
          exact endq_i hQ hx hb hr hlocks dX11_holds_235 (by decide) () (rg_w (show rg (1 : Int32) 1 1 from rg_l (by decide)) (by decide)) hP hD hS [] rfl (by decide) rfl (Nat.le_of_ble_eq_true rfl) (Nat.le_of_ble_eq_true rfl)
      by_cases h29_231 : v0.toInt = 13
      · have r29_232 : rg v0 13 13 := rg_at h29_231
        refine lv_tableIn (off := 207) (tgt := 236) hx hb dX11_holds_29 (by rw [h29_231]; decide) (by rw [h29_231]; decide) (by rw [h29_231]; rfl) (by decide) ?_
        refine lv_lload hx hb dX11_holds_236 (lv_at hl 2 rfl) ?_
        refine lv_lload hx hb dX11_holds_238 (lv_at hl 0 rfl) ?_
        refine W.lcmp hx hb dX11_holds_240 ?_
        refine lv_topi (fun z240_1 ez240_1 => ?_)
        refine lv_if_gt (tgt := 248) hx hb dX11_holds_241 (by decide) (fun c241_1 => ?_) (fun c241_1 => ?_)
        · have t241_2 := (l_gt ez240_1 c241_1)
          have r241_3 : rl j26_s0 (-9223372036854775808) 9223372036854775806 := rl_ltA t241_2 (rl_any j26_s0) (rl_any j11_s0) (by decide)
          have r241_4 : rl j11_s0 (-9223372036854775807) 9223372036854775807 := rl_ltB t241_2 (rl_any j26_s0) (rl_any j11_s0) (by decide)
          refine lv_iconst (v := 0) hx hb dX11_holds_248 (by decide) ?_
          exact endq_i hQ hx hb hr hlocks dX11_holds_249 (by decide) () (rg_w (show rg (0 : Int32) 0 0 from rg_l (by decide)) (by decide)) hP hD hS [] rfl (by decide) rfl (Nat.le_of_ble_eq_true rfl) (Nat.le_of_ble_eq_true rfl)
        · have t241_2 := (l_ngt ez240_1 c241_1)
          refine lv_iconst (v := 1) hx hb dX11_holds_244 (by decide) ?_
          refine lv_goto (tgt := 249) hx hb dX11_holds_245 (by decide) ?_
          exact endq_i hQ hx hb hr hlocks dX11_holds_249 (by decide) () (rg_w (show rg (1 : Int32) 1 1 from rg_l (by decide)) (by decide)) hP hD hS [] rfl (by decide) rfl (Nat.le_of_ble_eq_true rfl) (Nat.le_of_ble_eq_true rfl)
      refine lv_tableOut (tgt := 250) hx hb dX11_holds_29 (by have q0 := (rg_any v0); have q1 := q0.1; have q2 := q0.2; omega) (by decide) ?_
      refine lv_iconst (v := 0) hx hb dX11_holds_250 (by decide) ?_
      exact endq_i hQ hx hb hr hlocks dX11_holds_251 (by decide) () (rg_w (show rg (0 : Int32) 0 0 from rg_l (by decide)) (by decide)) hP hD hS [] rfl (by decide) rfl (Nat.le_of_ble_eq_true rfl) (Nat.le_of_ble_eq_true rfl)
    refine lv_if_eq (tgt := 22) hx hb dX11_holds_14 (by decide) (fun c14_1 => ?_) (fun c14_1 => ?_)
    · have t14_2 := (i_eq c14_1)
      have r14_3 : rg v1 0 0 := rg_eqA t14_2 h_v1 (show rg (0 : Int32) 0 0 from rg_l (by decide)) (by decide)
      refine lv_lload hx hb dX11_holds_22 (lv_at hl 3 rfl) ?_
      refine lv_l2i hx hb dX11_holds_24 rfl ?_
      refine lv_topi (fun z24_1 ez24_1 => ?_)
      refine lv_i2l hx hb dX11_holds_25 rfl ?_
      refine lv_topl (fun z25_1 ez25_1 => ?_)
      have r25_2 : rl z25_1 (-2147483648) 2147483647 := rl_i2l ez25_1 (rg_any z24_1)
      exact b26 z25_1 H locs ls  (lv_sub hl [1, 0] rfl) hP hD hS
    · have t14_2 := (i_ne c14_1)
      have r14_3 : rg v1 1 1 := rg_neAl t14_2 h_v1 (show rg (0 : Int32) 0 0 from rg_l (by decide)) (by decide)
      refine lv_lload hx hb dX11_holds_17 (lv_at hl 3 rfl) ?_
      refine lv_goto (tgt := 26) hx hb dX11_holds_19 (by decide) ?_
      exact b26 v3 H locs ls  (lv_sub hl [1, 0] rfl) hP hD hS
  refine lv_if_eq (tgt := 8) hx hb dX11_holds_1 (by decide) (fun c1_1 => ?_) (fun c1_1 => ?_)
  · have t1_2 := (i_eq c1_1)
    have r1_3 : rg v1 0 0 := rg_eqA t1_2 h_v1 (show rg (0 : Int32) 0 0 from rg_l (by decide)) (by decide)
    refine lv_lload_n hx hb dX11_holds_8 rfl (lv_at hl 2 rfl) ?_
    refine lv_l2i hx hb dX11_holds_9 rfl ?_
    refine lv_topi (fun z9_1 ez9_1 => ?_)
    refine lv_i2l hx hb dX11_holds_10 rfl ?_
    refine lv_topl (fun z10_1 ez10_1 => ?_)
    have r10_2 : rl z10_1 (-2147483648) 2147483647 := rl_i2l ez10_1 (rg_any z9_1)
    exact b11 z10_1 H locs ls  (lv_sub hl [0, 1, 3] rfl) hP hD hS
  · have t1_2 := (i_ne c1_1)
    have r1_3 : rg v1 1 1 := rg_neAl t1_2 h_v1 (show rg (0 : Int32) 0 0 from rg_l (by decide)) (by decide)
    refine lv_lload_n hx hb dX11_holds_4 rfl (lv_at hl 2 rfl) ?_
    refine lv_goto (tgt := 11) hx hb dX11_holds_5 (by decide) ?_
    exact b11 v2 H locs ls  (lv_sub hl [0, 1, 3] rfl) hP hD hS
set_option maxHeartbeats 2000000 in
theorem c_X11_otherOp (l : Launch) (D : va_G) (ct : Nat → ClassId) (v0 : Int32)  : KI (S := Unit) l yX11_otherOp cX11_otherOp 1 (some .int) 1 20 D ct [.int v0] [] 0 0 (fun (r : Int32) (_ : Unit) => rg r 1 11) (fun (_ : Unit) => []) := by
  refine KIq_of (by decide) (Nat.le_of_ble_eq_true rfl) (fun p e s m below meth c A Q C0 hA H locs hS hP hD hQ ls hl => ?_)
  obtain ⟨hx, hb, hr, hown, hin, hml, hlocks, hn, hK, hZ, hSK⟩ := C0
  have hl : lv_has ls 1 [(0, .int v0)] := hl
  refine lv_iload_n hx hb dX11_otherOp_0 rfl (lv_at hl 0 rfl) ?_
  by_cases h1_101 : v0.toInt = 1
  · have r1_102 : rg v0 1 1 := rg_at h1_101
    refine lv_tableIn (off := 55) (tgt := 56) hx hb dX11_otherOp_1 (by rw [h1_101]; decide) (by rw [h1_101]; decide) (by rw [h1_101]; rfl) (by decide) ?_
    refine lv_iconst (v := 5) hx hb dX11_otherOp_56 (by decide) ?_
    exact endq_i hQ hx hb hr hlocks dX11_otherOp_57 rfl () (rg_w (show rg (5 : Int32) 5 5 from rg_l (by decide)) (by decide)) hP hD hS [] rfl (by decide) rfl (Nat.le_of_ble_eq_true rfl) (Nat.le_of_ble_eq_true rfl)
  by_cases h1_111 : v0.toInt = 2
  · have r1_112 : rg v0 2 2 := rg_at h1_111
    refine lv_tableIn (off := 64) (tgt := 65) hx hb dX11_otherOp_1 (by rw [h1_111]; decide) (by rw [h1_111]; decide) (by rw [h1_111]; rfl) (by decide) ?_
    refine lv_bipush (v := 11) hx hb dX11_otherOp_65 (by decide) ?_
    exact endq_i hQ hx hb hr hlocks dX11_otherOp_67 rfl () (rg_w (show rg (11 : Int32) 11 11 from rg_l (by decide)) (by decide)) hP hD hS [] rfl (by decide) rfl (Nat.le_of_ble_eq_true rfl) (Nat.le_of_ble_eq_true rfl)
  by_cases h1_121 : v0.toInt = 3
  · have r1_122 : rg v0 3 3 := rg_at h1_121
    refine lv_tableIn (off := 61) (tgt := 62) hx hb dX11_otherOp_1 (by rw [h1_121]; decide) (by rw [h1_121]; decide) (by rw [h1_121]; rfl) (by decide) ?_
    refine lv_bipush (v := 10) hx hb dX11_otherOp_62 (by decide) ?_
    exact endq_i hQ hx hb hr hlocks dX11_otherOp_64 rfl () (rg_w (show rg (10 : Int32) 10 10 from rg_l (by decide)) (by decide)) hP hD hS [] rfl (by decide) rfl (Nat.le_of_ble_eq_true rfl) (Nat.le_of_ble_eq_true rfl)
  by_cases h1_131 : v0.toInt = 4
  · have r1_132 : rg v0 4 4 := rg_at h1_131
    refine lv_tableIn (off := 67) (tgt := 68) hx hb dX11_otherOp_1 (by rw [h1_131]; decide) (by rw [h1_131]; decide) (by rw [h1_131]; rfl) (by decide) ?_
    refine lv_iconst (v := 2) hx hb dX11_otherOp_68 (by decide) ?_
    exact endq_i hQ hx hb hr hlocks dX11_otherOp_69 rfl () (rg_w (show rg (2 : Int32) 2 2 from rg_l (by decide)) (by decide)) hP hD hS [] rfl (by decide) rfl (Nat.le_of_ble_eq_true rfl) (Nat.le_of_ble_eq_true rfl)
  by_cases h1_141 : v0.toInt = 5
  · have r1_142 : rg v0 5 5 := rg_at h1_141
    refine lv_tableIn (off := 57) (tgt := 58) hx hb dX11_otherOp_1 (by rw [h1_141]; decide) (by rw [h1_141]; decide) (by rw [h1_141]; rfl) (by decide) ?_
    refine lv_iconst (v := 1) hx hb dX11_otherOp_58 (by decide) ?_
    exact endq_i hQ hx hb hr hlocks dX11_otherOp_59 rfl () (rg_w (show rg (1 : Int32) 1 1 from rg_l (by decide)) (by decide)) hP hD hS [] rfl (by decide) rfl (Nat.le_of_ble_eq_true rfl) (Nat.le_of_ble_eq_true rfl)
  by_cases h1_151 : v0.toInt = 6
  · have r1_152 : rg v0 6 6 := rg_at h1_151
    refine lv_tableIn (off := 67) (tgt := 68) hx hb dX11_otherOp_1 (by rw [h1_151]; decide) (by rw [h1_151]; decide) (by rw [h1_151]; rfl) (by decide) ?_
    refine lv_iconst (v := 2) hx hb dX11_otherOp_68 (by decide) ?_
    exact endq_i hQ hx hb hr hlocks dX11_otherOp_69 rfl () (rg_w (show rg (2 : Int32) 2 2 from rg_l (by decide)) (by decide)) hP hD hS [] rfl (by decide) rfl (Nat.le_of_ble_eq_true rfl) (Nat.le_of_ble_eq_true rfl)
  by_cases h1_161 : v0.toInt = 7
  · have r1_162 : rg v0 7 7 := rg_at h1_161
    refine lv_tableIn (off := 67) (tgt := 68) hx hb dX11_otherOp_1 (by rw [h1_161]; decide) (by rw [h1_161]; decide) (by rw [h1_161]; rfl) (by decide) ?_
    refine lv_iconst (v := 2) hx hb dX11_otherOp_68 (by decide) ?_
    exact endq_i hQ hx hb hr hlocks dX11_otherOp_69 rfl () (rg_w (show rg (2 : Int32) 2 2 from rg_l (by decide)) (by decide)) hP hD hS [] rfl (by decide) rfl (Nat.le_of_ble_eq_true rfl) (Nat.le_of_ble_eq_true rfl)
  by_cases h1_171 : v0.toInt = 8
  · have r1_172 : rg v0 8 8 := rg_at h1_171
    refine lv_tableIn (off := 67) (tgt := 68) hx hb dX11_otherOp_1 (by rw [h1_171]; decide) (by rw [h1_171]; decide) (by rw [h1_171]; rfl) (by decide) ?_
    refine lv_iconst (v := 2) hx hb dX11_otherOp_68 (by decide) ?_
    exact endq_i hQ hx hb hr hlocks dX11_otherOp_69 rfl () (rg_w (show rg (2 : Int32) 2 2 from rg_l (by decide)) (by decide)) hP hD hS [] rfl (by decide) rfl (Nat.le_of_ble_eq_true rfl) (Nat.le_of_ble_eq_true rfl)
  by_cases h1_181 : v0.toInt = 9
  · have r1_182 : rg v0 9 9 := rg_at h1_181
    refine lv_tableIn (off := 67) (tgt := 68) hx hb dX11_otherOp_1 (by rw [h1_181]; decide) (by rw [h1_181]; decide) (by rw [h1_181]; rfl) (by decide) ?_
    refine lv_iconst (v := 2) hx hb dX11_otherOp_68 (by decide) ?_
    exact endq_i hQ hx hb hr hlocks dX11_otherOp_69 rfl () (rg_w (show rg (2 : Int32) 2 2 from rg_l (by decide)) (by decide)) hP hD hS [] rfl (by decide) rfl (Nat.le_of_ble_eq_true rfl) (Nat.le_of_ble_eq_true rfl)
  by_cases h1_191 : v0.toInt = 10
  · have r1_192 : rg v0 10 10 := rg_at h1_191
    refine lv_tableIn (off := 59) (tgt := 60) hx hb dX11_otherOp_1 (by rw [h1_191]; decide) (by rw [h1_191]; decide) (by rw [h1_191]; rfl) (by decide) ?_
    refine lv_iconst (v := 3) hx hb dX11_otherOp_60 (by decide) ?_
    exact endq_i hQ hx hb hr hlocks dX11_otherOp_61 rfl () (rg_w (show rg (3 : Int32) 3 3 from rg_l (by decide)) (by decide)) hP hD hS [] rfl (by decide) rfl (Nat.le_of_ble_eq_true rfl) (Nat.le_of_ble_eq_true rfl)
  refine lv_tableOut (tgt := 68) hx hb dX11_otherOp_1 (by have q0 := (rg_any v0); have q1 := q0.1; have q2 := q0.2; omega) (by decide) ?_
  refine lv_iconst (v := 2) hx hb dX11_otherOp_68 (by decide) ?_
  exact endq_i hQ hx hb hr hlocks dX11_otherOp_69 rfl () (rg_w (show rg (2 : Int32) 2 2 from rg_l (by decide)) (by decide)) hP hD hS [] rfl (by decide) rfl (Nat.le_of_ble_eq_true rfl) (Nat.le_of_ble_eq_true rfl)
set_option maxHeartbeats 2000000 in
theorem c_X9_hasRoom (l : Launch) (D : va_G) (ct : Nat → ClassId) (t0 : Nat) (v0 : Int32) (t0r : Nat) (x_t0_1 : Int32) (h_v0 : rg v0 0 20) (h_x_t0_1 : rg x_t0_1 0 2000) : KI (S := Unit) l yX9_hasRoom cX9_hasRoom 2 (some .boolean) 1 20 D ct [.ref t0, .int v0] [(t0, .inr (9, [.ref t0r, .int x_t0_1]))] 0 0 (fun (r : Int32) (_ : Unit) => rg r 0 1 ∧ (r.toInt = 1 → x_t0_1.toInt + v0.toInt ≤ 2000) ∧ (x_t0_1.toInt + v0.toInt ≤ 2000 → r.toInt = 1)) (fun (_ : Unit) => [(t0, .inr (9, [.ref t0r, .int x_t0_1]))]) := by
  refine KIq_of (by decide) (Nat.le_of_ble_eq_true rfl) (fun p e s m below meth c A Q C0 hA H locs hS hP hD hQ ls hl => ?_)
  obtain ⟨hx, hb, hr, hown, hin, hml, hlocks, hn, hK, hZ, hSK⟩ := C0
  have hl : lv_has ls 2 [(0, .ref t0), (1, .int v0)] := hl
  refine lv_aload_n hx hb dX9_hasRoom_0 rfl (lv_at hl 0 rfl) ?_
  refine va_get (D := D) (ci := 9) (v := .int x_t0_1) (C := RX9) (T := TX9) (N := 2) hx hb (htX9 hn) (fun _ h => h) hown hK hP 0 rfl rfl 1 (by decide) (hn.get mw_43 rfl) (fun _ h9 => h9) rfl dX9_hasRoom_1 ?_
  refine lv_iload_n hx hb dX9_hasRoom_4 rfl (lv_at hl 1 rfl) ?_
  refine lv_iadd hx hb dX9_hasRoom_5 ?_
  refine lv_topi (fun z5_1 ez5_1 => ?_)
  have r5_2 : rg z5_1 0 2020 := rg_add ez5_1 h_x_t0_1 h_v0 (by decide)
  refine lv_sipush (v := 2000) hx hb dX9_hasRoom_6 (by decide) ?_
  refine lv_icmp_gt (tgt := 16) hx hb dX9_hasRoom_9 (by decide) (fun c9_1 => ?_) (fun c9_1 => ?_)
  · have t9_2 := (i_lt c9_1)
    have r9_3 : rg z5_1 2001 2020 := rg_ltB t9_2 (show rg (2000 : Int32) 2000 2000 from rg_l (by decide)) r5_2 (by decide)
    refine lv_iconst (v := 0) hx hb dX9_hasRoom_16 (by decide) ?_
    exact endq_i hQ hx hb hr hlocks dX9_hasRoom_17 (by decide) () ⟨(rg_w (show rg (0 : Int32) 0 0 from rg_l (by decide)) (by decide)), (show (0 : Int32).toInt = 1 → x_t0_1.toInt + v0.toInt ≤ 2000 by have q0 := h_v0.1; have q1 := h_v0.2; have q2 := h_x_t0_1.1; have q3 := h_x_t0_1.2; have q4 := (show rg (0 : Int32) 0 0 from rg_l (by decide)).1; have q5 := (show rg (0 : Int32) 0 0 from rg_l (by decide)).2; have q6 := r9_3.1; have q7 := r9_3.2; have q8 := (eq_add ez5_1 h_x_t0_1 h_v0 (by decide)); have q9 := (show rg (2000 : Int32) 2000 2000 from rg_l (by decide)).1; have q10 := (show rg (2000 : Int32) 2000 2000 from rg_l (by decide)).2; have q11 := t9_2; omega), (show x_t0_1.toInt + v0.toInt ≤ 2000 → (0 : Int32).toInt = 1 by have q0 := (show rg (0 : Int32) 0 0 from rg_l (by decide)).1; have q1 := (show rg (0 : Int32) 0 0 from rg_l (by decide)).2; have q2 := h_v0.1; have q3 := h_v0.2; have q4 := h_x_t0_1.1; have q5 := h_x_t0_1.2; have q6 := r9_3.1; have q7 := r9_3.2; have q8 := (eq_add ez5_1 h_x_t0_1 h_v0 (by decide)); have q9 := (show rg (2000 : Int32) 2000 2000 from rg_l (by decide)).1; have q10 := (show rg (2000 : Int32) 2000 2000 from rg_l (by decide)).2; have q11 := t9_2; omega)⟩ hP hD hS [0] rfl (by decide) rfl (Nat.le_of_ble_eq_true rfl) (Nat.le_of_ble_eq_true rfl)
  · have t9_2 := (i_nlt c9_1)
    have r9_3 : rg z5_1 0 2000 := rg_leA t9_2 r5_2 (show rg (2000 : Int32) 2000 2000 from rg_l (by decide)) (by decide)
    refine lv_iconst (v := 1) hx hb dX9_hasRoom_12 (by decide) ?_
    refine lv_goto (tgt := 17) hx hb dX9_hasRoom_13 (by decide) ?_
    exact endq_i hQ hx hb hr hlocks dX9_hasRoom_17 (by decide) () ⟨(rg_w (show rg (1 : Int32) 1 1 from rg_l (by decide)) (by decide)), (show (1 : Int32).toInt = 1 → x_t0_1.toInt + v0.toInt ≤ 2000 by have q0 := h_v0.1; have q1 := h_v0.2; have q2 := h_x_t0_1.1; have q3 := h_x_t0_1.2; have q4 := (show rg (1 : Int32) 1 1 from rg_l (by decide)).1; have q5 := (show rg (1 : Int32) 1 1 from rg_l (by decide)).2; have q6 := (show rg (2000 : Int32) 2000 2000 from rg_l (by decide)).1; have q7 := (show rg (2000 : Int32) 2000 2000 from rg_l (by decide)).2; have q8 := r9_3.1; have q9 := r9_3.2; have q10 := (eq_add ez5_1 h_x_t0_1 h_v0 (by decide)); have q11 := t9_2; omega), (show x_t0_1.toInt + v0.toInt ≤ 2000 → (1 : Int32).toInt = 1 by have q0 := (show rg (1 : Int32) 1 1 from rg_l (by decide)).1; have q1 := (show rg (1 : Int32) 1 1 from rg_l (by decide)).2; have q2 := h_v0.1; have q3 := h_v0.2; have q4 := h_x_t0_1.1; have q5 := h_x_t0_1.2; have q6 := (show rg (2000 : Int32) 2000 2000 from rg_l (by decide)).1; have q7 := (show rg (2000 : Int32) 2000 2000 from rg_l (by decide)).2; have q8 := r9_3.1; have q9 := r9_3.2; have q10 := (eq_add ez5_1 h_x_t0_1 h_v0 (by decide)); have q11 := t9_2; omega)⟩ hP hD hS [0] rfl (by decide) rfl (Nat.le_of_ble_eq_true rfl) (Nat.le_of_ble_eq_true rfl)
set_option maxHeartbeats 2000000 in
theorem c_X9_put (l : Launch) (D : va_G) (ct : Nat → ClassId) (t0 : Nat) (v0 : Int32) (t0r : Nat) (x_t0_1 : Int32) (g_t0r : Nat → Int32) (h_x_t0_1 : rg x_t0_1 0 2000) (h_g_t0r : Rg g_t0r 2000 (-128) 127) : KV (S := Int32 × (Nat → Int32)) l yX9_put cX9_put 3 none 2 41 D ct [.ref t0, .int v0] [(t0, .inr (9, [.ref t0r, .int x_t0_1])), (t0r, .inl (ct 0, 2000, .inl g_t0r))] 0 0 (fun (u : Int32 × (Nat → Int32)) => match u with | (y_t0_1, k_t0r) => rg y_t0_1 0 2000 ∧ Rg k_t0r 2000 (-128) 127 ∧ (x_t0_1.toInt ≤ 1996 → y_t0_1.toInt = x_t0_1.toInt + 4)) (fun (u : Int32 × (Nat → Int32)) => match u with | (y_t0_1, k_t0r) => [(t0, .inr (9, [.ref t0r, .int y_t0_1])), (t0r, .inl (ct 0, 2000, .inl k_t0r))]) := by
  refine KVq_of (by decide) (Nat.le_of_ble_eq_true rfl) (fun p e s m below meth c A Q C0 hA H locs hS hP hD hQ ls hl => ?_)
  obtain ⟨hx, hb, hr, hown, hin, hml, hlocks, hn, hK, hZ, hSK⟩ := C0
  have hl : lv_has ls 3 [(0, .ref t0), (1, .int v0)] := hl
  refine lv_aload_n hx hb dX9_put_0 rfl (lv_at hl 0 rfl) ?_
  refine lv_iconst (v := 4) hx hb dX9_put_1 (by decide) ?_
  refine go_i (k1 := 0) (n1 := 0) (wr := [(t0r, .inl (ct 0, 2000, .inl g_t0r))]) [0] [1] (rn_V (As := [.int 4]) (rest := []) (c_X9_hasRoom l D ct t0 (4 : Int32) t0r x_t0_1 (rg_w (show rg (4 : Int32) 4 4 from rg_l (by decide)) (by decide)) h_x_t0_1 _) (cb_of (n := 1) hn mw_431 mw_2 mw_436 mhX9_hasRoom ⟨(Nat.le_of_ble_eq_true rfl), (Nat.le_of_ble_eq_true rfl)⟩) hx hb hml hown hn hK hSK hZ hS mw_430 mw_s0 (ci := 9) (q0 := 0) rfl rfl rfl rfl hl.1 (Nat.le_of_ble_eq_true rfl) dX9_put_2 ⟨(Nat.le_of_ble_eq_true rfl), (Nat.le_of_ble_eq_true rfl)⟩) hP hD hS hA rfl rfl (by decide) (by decide) (by decide) (Nat.le_of_ble_eq_true rfl) (Nat.le_of_ble_eq_true rfl) (fun r2_1 u2_2 H locs hp2_3 hP hD hS => ?_)
  obtain ⟨hp2_4, hp2_5, hp2_6⟩ := hp2_3
  have hp2_4 : rg r2_1 0 1 := hp2_4
  have hp2_5 : r2_1.toInt = 1 → x_t0_1.toInt + (4 : Int32).toInt ≤ 2000 := hp2_5
  have hp2_6 : x_t0_1.toInt + (4 : Int32).toInt ≤ 2000 → r2_1.toInt = 1 := hp2_6
  have hP : va_P D vwCl [(t0r, .inl (ct 0, 2000, .inl g_t0r)), (t0, .inr (9, [.ref t0r, .int x_t0_1]))] _ := hP
  have hD : va_D A [(t0r, .inl (ct 0, 2000, .inl g_t0r)), (t0, .inr (9, [.ref t0r, .int x_t0_1]))] := hD
  refine lv_if_ne (tgt := 9) hx hb dX9_put_5 (by decide) (fun c5_1 => ?_) (fun c5_1 => ?_)
  · have t5_2 := (i_ne c5_1)
    have r5_3 : rg r2_1 1 1 := rg_neAl t5_2 hp2_4 (show rg (0 : Int32) 0 0 from rg_l (by decide)) (by decide)
    refine lv_bipush (v := 24) hx hb dX9_put_9 (by decide) ?_
    refine lv_istore_n (lv' := [(2, .int 24), (0, .ref t0), (1, .int v0)]) hx hb dX9_put_11 rfl hl (by decide) rfl (fun ls hl => ?_)
    have b12 : ∀ (n : Nat) (j12_l2 : Int32) (j12_ct0r : Nat → Int32) (j12_ft0_1 : Int32) (H : Heap) (locs : List Loc) (ls : Array Slot), (rg j12_l2 (-8) 24) → (Rg j12_ct0r 2000 (-128) 127) → (rg j12_ft0_1 0 2000) → (x_t0_1.toInt ≤ 1996 ∧ 8 * j12_ft0_1.toInt + j12_l2.toInt = 8 * x_t0_1.toInt + 24) → (j12_l2.toInt + 8).toNat < n → lv_has ls 3 [(0, .ref t0), (1, .int v0), (2, .int j12_l2)] → va_P D vwCl [(t0r, .inl (ct 0, 2000, .inl j12_ct0r)), (t0, .inr (9, [.ref t0r, .int j12_ft0_1]))] H → va_D A [(t0r, .inl (ct 0, 2000, .inl j12_ct0r)), (t0, .inr (9, [.ref t0r, .int j12_ft0_1]))] → va_S A s.heap H locs → W p l e ({ frames := 2, cells := 0, slots := 0, locals := 41 }) s m [.ref t0, .int v0].toArray below meth c H locs 0 0 Q (F0 m 12 ls []) := by
      intro n
      induction n with
      | zero => intros; rename_i hms _ _ _ _; exact absurd hms (Nat.not_lt_zero _)
      | succ n ih =>
        intro j12_l2 j12_ct0r j12_ft0_1 H locs ls r12_1001 hc12_1002 r12_1003 hi12_1004 hms hl hP hD hS
        refine lv_iload_n hx hb dX9_put_12 rfl (lv_at hl 2 rfl) ?_
        refine lv_if_lt (tgt := 45) hx hb dX9_put_13 (by decide) (fun c13_1 => ?_) (fun c13_1 => ?_)
        · have t13_2 := (i_lt c13_1)
          have r13_3 : rg j12_l2 (-8) (-1) := rg_ltA t13_2 r12_1001 (show rg (0 : Int32) 0 0 from rg_l (by decide)) (by decide)
          exact endq_v hQ hx hb hr hlocks dX9_put_45 (j12_ft0_1, j12_ct0r) ⟨r12_1003, hc12_1002, (show x_t0_1.toInt ≤ 1996 → j12_ft0_1.toInt = x_t0_1.toInt + 4 by have q0 := h_x_t0_1.1; have q1 := h_x_t0_1.2; have q2 := r12_1003.1; have q3 := r12_1003.2; have q4 := (show rg (4 : Int32) 4 4 from rg_l (by decide)).1; have q5 := (show rg (4 : Int32) 4 4 from rg_l (by decide)).2; have q6 := r5_3.1; have q7 := r5_3.2; have q8 := r13_3.1; have q9 := r13_3.2; have q10 := (show rg (0 : Int32) 0 0 from rg_l (by decide)).1; have q11 := (show rg (0 : Int32) 0 0 from rg_l (by decide)).2; have q12 := hp2_5; have q13 := hp2_6; have q14 := t5_2; have q15 := hi12_1004; have q16 := t13_2; omega)⟩ hP hD hS [1, 0] rfl (by decide) rfl (Nat.le_of_ble_eq_true rfl) (Nat.le_of_ble_eq_true rfl)
        · have t13_2 := (i_nlt c13_1)
          have r13_3 : rg j12_l2 0 24 := rg_leB t13_2 (show rg (0 : Int32) 0 0 from rg_l (by decide)) r12_1001 (by decide)
          refine lv_aload_n hx hb dX9_put_16 rfl (lv_at hl 0 rfl) ?_
          refine va_get (D := D) (ci := 9) (v := .ref t0r) (C := RX9) (T := TX9) (N := 2) hx hb (htX9 hn) (fun _ h => h) hown hK hP 1 rfl rfl 0 (by decide) (hn.get mw_42 rfl) (fun _ h9 => h9) rfl dX9_put_17 ?_
          refine lv_aload_n hx hb dX9_put_20 rfl (lv_at hl 0 rfl) ?_
          refine va_get (D := D) (ci := 9) (v := .int j12_ft0_1) (C := RX9) (T := TX9) (N := 2) hx hb (htX9 hn) (fun _ h => h) hown hK hP 1 rfl rfl 1 (by decide) (hn.get mw_43 rfl) (fun _ h9 => h9) rfl dX9_put_21 ?_
          refine lv_iload_n hx hb dX9_put_24 rfl (lv_at hl 1 rfl) ?_
          refine lv_iload_n hx hb dX9_put_25 rfl (lv_at hl 2 rfl) ?_
          refine lv_ishr hx hb dX9_put_26 ?_
          refine lv_topi (fun z26_1 ez26_1 => ?_)
          refine lv_i2b hx hb dX9_put_27 rfl ?_
          refine lv_topi (fun z27_1 ez27_1 => ?_)
          have r27_2 : rg z27_1 (-128) 127 := rg_i2b ez27_1
          have hi28_1 : vp_in j12_ft0_1 2000 := (in_of (show 0 ≤ j12_ft0_1.toInt ∧ j12_ft0_1.toInt < 2000 by have q0 := r12_1003.1; have q1 := r12_1003.2; have q2 := h_x_t0_1.1; have q3 := h_x_t0_1.2; have q4 := r13_3.1; have q5 := r13_3.2; have q6 := (show rg (4 : Int32) 4 4 from rg_l (by decide)).1; have q7 := (show rg (4 : Int32) 4 4 from rg_l (by decide)).2; have q8 := r5_3.1; have q9 := r5_3.2; have q10 := (show rg (0 : Int32) 0 0 from rg_l (by decide)).1; have q11 := (show rg (0 : Int32) 0 0 from rg_l (by decide)).2; have q12 := hp2_5; have q13 := hp2_6; have q14 := t5_2; have q15 := hi12_1004; have q16 := t13_2; omega))
          refine va_bast hx hb hK hP hD hS 0 0 rfl rfl hi28_1 dX9_put_28 (fun H locs hP hD hS => ?_)
          have hP : va_P D vwCl [(t0r, .inl (ct 0, 2000, .inl (upd j12_ct0r j12_ft0_1.toNatClampNeg (vp_nar .byte z27_1)))), (t0, .inr (9, [.ref t0r, .int j12_ft0_1]))] _ := hP
          have hD : va_D A [(t0r, .inl (ct 0, 2000, .inl (upd j12_ct0r j12_ft0_1.toNatClampNeg (vp_nar .byte z27_1)))), (t0, .inr (9, [.ref t0r, .int j12_ft0_1]))] := hD
          obtain ⟨f28_2, ef28_2⟩ : ∃ z, z = (upd j12_ct0r j12_ft0_1.toNatClampNeg (vp_nar .byte z27_1)) := ⟨_, rfl⟩
          rw [← ef28_2] at hP hD
          have hc28_3 : Rg f28_2 2000 (-128) 127 := Rg_upd ef28_2 hc12_1002 (rg_narB z27_1)
          refine lv_aload_n hx hb dX9_put_29 rfl (lv_at hl 0 rfl) ?_
          refine lv_dup hx hb dX9_put_30 rfl ?_
          refine va_get (D := D) (ci := 9) (v := .int j12_ft0_1) (C := RX9) (T := TX9) (N := 2) hx hb (htX9 hn) (fun _ h => h) hown hK hP 1 rfl rfl 1 (by decide) (hn.get mw_43 rfl) (fun _ h9 => h9) rfl dX9_put_31 ?_
          refine lv_iconst (v := 1) hx hb dX9_put_34 (by decide) ?_
          refine lv_iadd hx hb dX9_put_35 ?_
          refine lv_topi (fun z35_1 ez35_1 => ?_)
          have r35_2 : rg z35_1 1 2001 := rg_add ez35_1 r12_1003 (show rg (1 : Int32) 1 1 from rg_l (by decide)) (by decide)
          refine va_put (D := D) (ci := 9) (v := .int z35_1) (ty := .int) (C := RX9) (T := TX9) (N := 2) hx hb (htX9 hn) (fun _ h => h) tyX9 tyX9_ok nmX9 hown hK hP hD hS 1 rfl rfl 1 (by decide) (hn.get mw_43 rfl) (fun _ h9 => h9) rfl (by decide +kernel) rfl rfl (Nat.le_of_ble_eq_true rfl) dX9_put_36 (fun H locs hP hD hS => ?_)
          have hP : va_P D vwCl [(t0r, .inl (ct 0, 2000, .inl f28_2)), (t0, .inr (9, [.ref t0r, .int z35_1]))] _ := hP
          have hD : va_D A [(t0r, .inl (ct 0, 2000, .inl f28_2)), (t0, .inr (9, [.ref t0r, .int z35_1]))] := hD
          obtain ⟨x39_1, ex39_1⟩ : ∃ z : Int32, z = j12_l2 + (-8) := ⟨_, rfl⟩
          have r39_2 : rg x39_1 (-8) 16 := rg_add ex39_1 r13_3 (show rg ((-8) : Int32) (-8) (-8) from rg_l (by decide)) (by decide)
          refine lv_iinc (v := x39_1) (lv' := [(2, .int x39_1), (0, .ref t0), (1, .int v0)]) hx hb dX9_put_39 hl (k := 2) rfl (by rw [ex39_1]; rfl) (by decide) rfl (fun ls hl => ?_)
          refine lv_goto (tgt := 12) hx hb dX9_put_42 (by decide) ?_
          exact ih x39_1 f28_2 z35_1 H locs ls (rg_w r39_2 (by decide)) hc28_3 (rg_of (show 0 ≤ z35_1.toInt ∧ z35_1.toInt ≤ 2000 by have q0 := r35_2.1; have q1 := r35_2.2; have q2 := (eq_add ez35_1 r12_1003 (show rg (1 : Int32) 1 1 from rg_l (by decide)) (by decide)); have q3 := (show rg (1 : Int32) 1 1 from rg_l (by decide)).1; have q4 := (show rg (1 : Int32) 1 1 from rg_l (by decide)).2; have q5 := r12_1003.1; have q6 := r12_1003.2; have q7 := h_x_t0_1.1; have q8 := h_x_t0_1.2; have q9 := r13_3.1; have q10 := r13_3.2; have q11 := (show rg (4 : Int32) 4 4 from rg_l (by decide)).1; have q12 := (show rg (4 : Int32) 4 4 from rg_l (by decide)).2; have q13 := r5_3.1; have q14 := r5_3.2; have q15 := (show rg (0 : Int32) 0 0 from rg_l (by decide)).1; have q16 := (show rg (0 : Int32) 0 0 from rg_l (by decide)).2; have q17 := hp2_5; have q18 := hp2_6; have q19 := t5_2; have q20 := hi12_1004; have q21 := t13_2; omega)) (show x_t0_1.toInt ≤ 1996 ∧ 8 * z35_1.toInt + x39_1.toInt = 8 * x_t0_1.toInt + 24 by have q0 := h_x_t0_1.1; have q1 := h_x_t0_1.2; have q2 := r39_2.1; have q3 := r39_2.2; have q4 := (eq_add ex39_1 r13_3 (show rg ((-8) : Int32) (-8) (-8) from rg_l (by decide)) (by decide)); have q5 := (show rg ((-8) : Int32) (-8) (-8) from rg_l (by decide)).1; have q6 := (show rg ((-8) : Int32) (-8) (-8) from rg_l (by decide)).2; have q7 := r13_3.1; have q8 := r13_3.2; have q9 := r35_2.1; have q10 := r35_2.2; have q11 := (eq_add ez35_1 r12_1003 (show rg (1 : Int32) 1 1 from rg_l (by decide)) (by decide)); have q12 := (show rg (1 : Int32) 1 1 from rg_l (by decide)).1; have q13 := (show rg (1 : Int32) 1 1 from rg_l (by decide)).2; have q14 := r12_1003.1; have q15 := r12_1003.2; have q16 := (show rg (4 : Int32) 4 4 from rg_l (by decide)).1; have q17 := (show rg (4 : Int32) 4 4 from rg_l (by decide)).2; have q18 := r5_3.1; have q19 := r5_3.2; have q20 := (show rg (0 : Int32) 0 0 from rg_l (by decide)).1; have q21 := (show rg (0 : Int32) 0 0 from rg_l (by decide)).2; have q22 := hp2_5; have q23 := hp2_6; have q24 := t5_2; have q25 := hi12_1004; have q26 := t13_2; omega) (show (x39_1.toInt + 8).toNat < n by have q0 := r13_3.1; have q1 := r13_3.2; have q2 := r39_2.1; have q3 := r39_2.2; have q4 := (eq_add ex39_1 r13_3 (show rg ((-8) : Int32) (-8) (-8) from rg_l (by decide)) (by decide)); have q5 := (show rg ((-8) : Int32) (-8) (-8) from rg_l (by decide)).1; have q6 := (show rg ((-8) : Int32) (-8) (-8) from rg_l (by decide)).2; have q7 := h_x_t0_1.1; have q8 := h_x_t0_1.2; have q9 := r12_1003.1; have q10 := r12_1003.2; have q11 := (show rg (0 : Int32) 0 0 from rg_l (by decide)).1; have q12 := (show rg (0 : Int32) 0 0 from rg_l (by decide)).2; have q13 := (show rg (4 : Int32) 4 4 from rg_l (by decide)).1; have q14 := (show rg (4 : Int32) 4 4 from rg_l (by decide)).2; have q15 := r5_3.1; have q16 := r5_3.2; have q17 := hp2_5; have q18 := hp2_6; have q19 := t5_2; have q20 := hi12_1004; have q21 := t13_2; have q22 := hms; omega) (lv_sub hl [1, 2, 0] rfl) hP hD hS
    exact b12 _ (24 : Int32) g_t0r x_t0_1 H locs ls (rg_w (show rg (24 : Int32) 24 24 from rg_l (by decide)) (by decide)) h_g_t0r h_x_t0_1 (show x_t0_1.toInt ≤ 1996 ∧ 8 * x_t0_1.toInt + (24 : Int32).toInt = 8 * x_t0_1.toInt + 24 by have q0 := h_x_t0_1.1; have q1 := h_x_t0_1.2; have q2 := (show rg (24 : Int32) 24 24 from rg_l (by decide)).1; have q3 := (show rg (24 : Int32) 24 24 from rg_l (by decide)).2; have q4 := (show rg (4 : Int32) 4 4 from rg_l (by decide)).1; have q5 := (show rg (4 : Int32) 4 4 from rg_l (by decide)).2; have q6 := r5_3.1; have q7 := r5_3.2; have q8 := (show rg (0 : Int32) 0 0 from rg_l (by decide)).1; have q9 := (show rg (0 : Int32) 0 0 from rg_l (by decide)).2; have q10 := hp2_5; have q11 := hp2_6; have q12 := t5_2; omega) (Nat.lt_succ_self _) (lv_sub hl [1, 2, 0] rfl) hP hD hS
  · have t5_2 := (i_eq c5_1)
    have r5_3 : rg r2_1 0 0 := rg_eqA t5_2 hp2_4 (show rg (0 : Int32) 0 0 from rg_l (by decide)) (by decide)
    exact endq_v hQ hx hb hr hlocks dX9_put_8 (x_t0_1, g_t0r) ⟨h_x_t0_1, h_g_t0r, (show x_t0_1.toInt ≤ 1996 → x_t0_1.toInt = x_t0_1.toInt + 4 by have q0 := h_x_t0_1.1; have q1 := h_x_t0_1.2; have q2 := (show rg (4 : Int32) 4 4 from rg_l (by decide)).1; have q3 := (show rg (4 : Int32) 4 4 from rg_l (by decide)).2; have q4 := r5_3.1; have q5 := r5_3.2; have q6 := (show rg (0 : Int32) 0 0 from rg_l (by decide)).1; have q7 := (show rg (0 : Int32) 0 0 from rg_l (by decide)).2; have q8 := hp2_5; have q9 := hp2_6; have q10 := t5_2; omega)⟩ hP hD hS [1, 0] rfl (by decide) rfl (Nat.le_of_ble_eq_true rfl) (Nat.le_of_ble_eq_true rfl)
set_option maxHeartbeats 2000000 in
theorem c_X9_at (l : Launch) (D : va_G) (ct : Nat → ClassId) (t0 : Nat) (v0 : Int32) (t0r : Nat) (x_t0_1 : Int32) (g_t0r : Nat → Int32) (h_x_t0_1 : rg x_t0_1 0 2000) (h_g_t0r : Rg g_t0r 2000 (-128) 127) : KI (S := Unit) l yX9_at cX9_at 2 (some .int) 1 20 D ct [.ref t0, .int v0] [(t0, .inr (9, [.ref t0r, .int x_t0_1])), (t0r, .inl (ct 0, 2000, .inl g_t0r))] 0 0 (fun (r : Int32) (_ : Unit) => rg r (-1) 255) (fun (_ : Unit) => [(t0, .inr (9, [.ref t0r, .int x_t0_1])), (t0r, .inl (ct 0, 2000, .inl g_t0r))]) := by
  refine KIq_of (by decide) (Nat.le_of_ble_eq_true rfl) (fun p e s m below meth c A Q C0 hA H locs hS hP hD hQ ls hl => ?_)
  obtain ⟨hx, hb, hr, hown, hin, hml, hlocks, hn, hK, hZ, hSK⟩ := C0
  have hl : lv_has ls 2 [(0, .ref t0), (1, .int v0)] := hl
  refine lv_iload_n hx hb dX9_at_0 rfl (lv_at hl 1 rfl) ?_
  refine lv_if_lt (tgt := 19) hx hb dX9_at_1 (by decide) (fun c1_1 => ?_) (fun c1_1 => ?_)
  · have t1_2 := (i_lt c1_1)
    have r1_3 : rg v0 (-2147483648) (-1) := rg_ltA t1_2 (rg_any v0) (show rg (0 : Int32) 0 0 from rg_l (by decide)) (by decide)
    refine lv_iconst (v := (-1)) hx hb dX9_at_19 (by decide) ?_
    refine lv_goto (tgt := 33) hx hb dX9_at_20 (by decide) ?_
    exact endq_i hQ hx hb hr hlocks dX9_at_33 rfl () (rg_w (show rg ((-1) : Int32) (-1) (-1) from rg_l (by decide)) (by decide)) hP hD hS [0, 1] rfl (by decide) rfl (Nat.le_of_ble_eq_true rfl) (Nat.le_of_ble_eq_true rfl)
  · have t1_2 := (i_nlt c1_1)
    have r1_3 : rg v0 0 2147483647 := rg_leB t1_2 (show rg (0 : Int32) 0 0 from rg_l (by decide)) (rg_any v0) (by decide)
    refine lv_iload_n hx hb dX9_at_4 rfl (lv_at hl 1 rfl) ?_
    refine lv_aload_n hx hb dX9_at_5 rfl (lv_at hl 0 rfl) ?_
    refine va_get (D := D) (ci := 9) (v := .int x_t0_1) (C := RX9) (T := TX9) (N := 2) hx hb (htX9 hn) (fun _ h => h) hown hK hP 0 rfl rfl 1 (by decide) (hn.get mw_43 rfl) (fun _ h9 => h9) rfl dX9_at_6 ?_
    refine lv_icmp_ge (tgt := 19) hx hb dX9_at_9 (by decide) (fun c9_1 => ?_) (fun c9_1 => ?_)
    · have t9_2 := (i_le c9_1)
      refine lv_iconst (v := (-1)) hx hb dX9_at_19 (by decide) ?_
      refine lv_goto (tgt := 33) hx hb dX9_at_20 (by decide) ?_
      exact endq_i hQ hx hb hr hlocks dX9_at_33 rfl () (rg_w (show rg ((-1) : Int32) (-1) (-1) from rg_l (by decide)) (by decide)) hP hD hS [0, 1] rfl (by decide) rfl (Nat.le_of_ble_eq_true rfl) (Nat.le_of_ble_eq_true rfl)
    · have t9_2 := (i_nle c9_1)
      have r9_3 : rg v0 0 1999 := rg_ltA t9_2 r1_3 h_x_t0_1 (by decide)
      have r9_4 : rg x_t0_1 1 2000 := rg_ltB t9_2 r1_3 h_x_t0_1 (by decide)
      refine lv_iload_n hx hb dX9_at_12 rfl (lv_at hl 1 rfl) ?_
      refine lv_sipush (v := 2000) hx hb dX9_at_13 (by decide) ?_
      refine lv_icmp_lt (tgt := 23) hx hb dX9_at_16 (by decide) (fun c16_1 => ?_) (fun c16_1 => ?_)
      · have t16_2 := (i_lt c16_1)
        refine lv_aload_n hx hb dX9_at_23 rfl (lv_at hl 0 rfl) ?_
        refine va_get (D := D) (ci := 9) (v := .ref t0r) (C := RX9) (T := TX9) (N := 2) hx hb (htX9 hn) (fun _ h => h) hown hK hP 0 rfl rfl 0 (by decide) (hn.get mw_42 rfl) (fun _ h9 => h9) rfl dX9_at_24 ?_
        refine lv_iload_n hx hb dX9_at_27 rfl (lv_at hl 1 rfl) ?_
        have hi28_1 : vp_in v0 2000 := (in_rg r9_3 (by decide))
        refine va_bald hx hb hK hP 1 0 rfl rfl hi28_1 dX9_at_28 ?_
        refine lv_topi (fun z28_2 ez28_2 => ?_)
        have r28_3 : rg z28_2 (-128) 127 := Rg_at h_g_t0r hi28_1 ez28_2
        refine lv_sipush (v := 255) hx hb dX9_at_29 (by decide) ?_
        refine lv_iand hx hb dX9_at_32 ?_
        refine lv_topi (fun z32_1 ez32_1 => ?_)
        have r32_2 : rg z32_1 0 255 := rg_andr ez32_1 (show rg (255 : Int32) 255 255 from rg_l (by decide)) (by decide)
        exact endq_i hQ hx hb hr hlocks dX9_at_33 rfl () (rg_w r32_2 (by decide)) hP hD hS [0, 1] rfl (by decide) rfl (Nat.le_of_ble_eq_true rfl) (Nat.le_of_ble_eq_true rfl)
      · exact absurd (i_nlt c16_1) (rg_leX (show rg (2000 : Int32) 2000 2000 from rg_l (by decide)) r9_3 (by decide))
set_option maxHeartbeats 2000000 in
theorem c_X9_lowestFirst (l : Launch) (D : va_G) (ct : Nat → ClassId) (t0 : Nat) (v0 : Int32) (v1 : Int32) (t0r : Nat) (x_t0_1 : Int32) (g_t0r : Nat → Int32) (h_v0 : rg v0 0 2000) (h_v1 : rg v1 0 8) (h_x_t0_1 : rg x_t0_1 0 2000) (h_g_t0r : Rg g_t0r 2000 (-128) 127) : KL (S := Unit) l yX9_lowestFirst cX9_lowestFirst 6 (some .long) 2 41 D ct [.ref t0, .int v0, .int v1] [(t0, .inr (9, [.ref t0r, .int x_t0_1])), (t0r, .inl (ct 0, 2000, .inl g_t0r))] 0 0 (fun (r : Int64) (_ : Unit) => True) (fun (_ : Unit) => [(t0, .inr (9, [.ref t0r, .int x_t0_1])), (t0r, .inl (ct 0, 2000, .inl g_t0r))]) := by
  refine KLq_of (by decide) (Nat.le_of_ble_eq_true rfl) (fun p e s m below meth c A Q C0 hA H locs hS hP hD hQ ls hl => ?_)
  obtain ⟨hx, hb, hr, hown, hin, hml, hlocks, hn, hK, hZ, hSK⟩ := C0
  have hl : lv_has ls 6 [(0, .ref t0), (1, .int v0), (2, .int v1)] := hl
  refine lv_lconst (v := 0) hx hb dX9_lowestFirst_0 (by decide) ?_
  refine lv_lstore_n (lv' := [(3, .long 0), (0, .ref t0), (1, .int v0), (2, .int v1)]) hx hb dX9_lowestFirst_1 rfl hl (by decide) rfl (fun ls hl => ?_)
  refine lv_iload_n hx hb dX9_lowestFirst_2 rfl (lv_at hl 3 rfl) ?_
  refine lv_iconst (v := 1) hx hb dX9_lowestFirst_3 (by decide) ?_
  refine lv_isub hx hb dX9_lowestFirst_4 ?_
  refine lv_topi (fun z4_1 ez4_1 => ?_)
  have r4_2 : rg z4_1 (-1) 7 := rg_sub ez4_1 h_v1 (show rg (1 : Int32) 1 1 from rg_l (by decide)) (by decide)
  refine lv_istore (lv' := [(5, .int z4_1), (3, .long 0), (0, .ref t0), (1, .int v0), (2, .int v1)]) hx hb dX9_lowestFirst_5 hl (by decide) rfl (fun ls hl => ?_)
  have b7 : ∀ (n : Nat) (j7_l3 : Int64) (j7_l5 : Int32) (H : Heap) (locs : List Loc) (ls : Array Slot), (rg j7_l5 (-1) 7) → (j7_l5.toInt + 2147483648).toNat < n → lv_has ls 6 [(0, .ref t0), (1, .int v0), (3, .long j7_l3), (5, .int j7_l5)] → va_P D vwCl [(t0, .inr (9, [.ref t0r, .int x_t0_1])), (t0r, .inl (ct 0, 2000, .inl g_t0r))] H → va_D A [(t0, .inr (9, [.ref t0r, .int x_t0_1])), (t0r, .inl (ct 0, 2000, .inl g_t0r))] → va_S A s.heap H locs → W p l e ({ frames := 2, cells := 0, slots := 0, locals := 41 }) s m [.ref t0, .int v0, .int v1].toArray below meth c H locs 0 0 Q (F0 m 7 ls []) := by
    intro n
    induction n with
    | zero => intros; rename_i hms _ _ _ _; exact absurd hms (Nat.not_lt_zero _)
    | succ n ih =>
      intro j7_l3 j7_l5 H locs ls r7_1001 hms hl hP hD hS
      refine lv_iload hx hb dX9_lowestFirst_7 (lv_at hl 3 rfl) ?_
      refine lv_if_lt (tgt := 33) hx hb dX9_lowestFirst_9 (by decide) (fun c9_1 => ?_) (fun c9_1 => ?_)
      · have t9_2 := (i_lt c9_1)
        have r9_3 : rg j7_l5 (-1) (-1) := rg_ltA t9_2 r7_1001 (show rg (0 : Int32) 0 0 from rg_l (by decide)) (by decide)
        refine lv_lload_n hx hb dX9_lowestFirst_33 rfl (lv_at hl 2 rfl) ?_
        exact endq_l hQ hx hb hr hlocks dX9_lowestFirst_34 () trivial hP hD hS [0, 1] rfl (by decide) rfl (Nat.le_of_ble_eq_true rfl) (Nat.le_of_ble_eq_true rfl)
      · have t9_2 := (i_nlt c9_1)
        have r9_3 : rg j7_l5 0 7 := rg_leB t9_2 (show rg (0 : Int32) 0 0 from rg_l (by decide)) r7_1001 (by decide)
        refine lv_lload_n hx hb dX9_lowestFirst_12 rfl (lv_at hl 2 rfl) ?_
        refine lv_bipush (v := 8) hx hb dX9_lowestFirst_13 (by decide) ?_
        refine lv_lshl hx hb dX9_lowestFirst_15 rfl ?_
        refine lv_topl (fun z15_1 ez15_1 => ?_)
        refine lv_aload_n hx hb dX9_lowestFirst_16 rfl (lv_at hl 0 rfl) ?_
        refine lv_iload_n hx hb dX9_lowestFirst_17 rfl (lv_at hl 1 rfl) ?_
        refine lv_iload hx hb dX9_lowestFirst_18 (lv_at hl 3 rfl) ?_
        refine lv_iadd hx hb dX9_lowestFirst_20 ?_
        refine lv_topi (fun z20_1 ez20_1 => ?_)
        have r20_2 : rg z20_1 0 2007 := rg_add ez20_1 h_v0 r9_3 (by decide)
        refine go_i (k1 := 0) (n1 := 0) (wr := []) [0, 1] [] (rn_V (As := [.int z20_1]) (rest := [.long z15_1]) (c_X9_at l D ct t0 z20_1 t0r x_t0_1 g_t0r h_x_t0_1 h_g_t0r _) (cb_of (n := 1) hn mw_452 mw_2 mw_929 mhX9_at ⟨(Nat.le_of_ble_eq_true rfl), (Nat.le_of_ble_eq_true rfl)⟩) hx hb hml hown hn hK hSK hZ hS mw_451 mw_s3 (ci := 9) (q0 := 0) rfl rfl rfl rfl hl.1 (Nat.le_of_ble_eq_true rfl) dX9_lowestFirst_21 ⟨(Nat.le_of_ble_eq_true rfl), (Nat.le_of_ble_eq_true rfl)⟩) hP hD hS hA rfl rfl (by decide) (by decide) (by decide) (Nat.le_of_ble_eq_true rfl) (Nat.le_of_ble_eq_true rfl) (fun r21_1 u21_2 H locs hp21_3 hP hD hS => ?_)
        have hp21_4 := hp21_3
        have hp21_4 : rg r21_1 (-1) 255 := hp21_4
        have hP : va_P D vwCl [(t0, .inr (9, [.ref t0r, .int x_t0_1])), (t0r, .inl (ct 0, 2000, .inl g_t0r))] _ := hP
        have hD : va_D A [(t0, .inr (9, [.ref t0r, .int x_t0_1])), (t0r, .inl (ct 0, 2000, .inl g_t0r))] := hD
        refine lv_i2l hx hb dX9_lowestFirst_24 rfl ?_
        refine lv_topl (fun z24_1 ez24_1 => ?_)
        have r24_2 : rl z24_1 (-1) 255 := rl_i2l ez24_1 hp21_4
        refine lv_lor hx hb dX9_lowestFirst_25 ?_
        refine lv_topl (fun z25_1 ez25_1 => ?_)
        refine lv_lstore_n (lv' := [(3, .long z25_1), (0, .ref t0), (1, .int v0), (5, .int j7_l5)]) hx hb dX9_lowestFirst_26 rfl hl (by decide) rfl (fun ls hl => ?_)
        obtain ⟨x27_1, ex27_1⟩ : ∃ z : Int32, z = j7_l5 + (-1) := ⟨_, rfl⟩
        have r27_2 : rg x27_1 (-1) 6 := rg_add ex27_1 r9_3 (show rg ((-1) : Int32) (-1) (-1) from rg_l (by decide)) (by decide)
        refine lv_iinc (v := x27_1) (lv' := [(5, .int x27_1), (3, .long z25_1), (0, .ref t0), (1, .int v0)]) hx hb dX9_lowestFirst_27 hl (k := 3) rfl (by rw [ex27_1]; rfl) (by decide) rfl (fun ls hl => ?_)
        refine lv_goto (tgt := 7) hx hb dX9_lowestFirst_30 (by decide) ?_
        exact ih z25_1 x27_1 H locs ls (rg_w r27_2 (by decide)) (show (x27_1.toInt + 2147483648).toNat < n by have q0 := r9_3.1; have q1 := r9_3.2; have q2 := r27_2.1; have q3 := r27_2.2; have q4 := (eq_add ex27_1 r9_3 (show rg ((-1) : Int32) (-1) (-1) from rg_l (by decide)) (by decide)); have q5 := (show rg ((-1) : Int32) (-1) (-1) from rg_l (by decide)).1; have q6 := (show rg ((-1) : Int32) (-1) (-1) from rg_l (by decide)).2; have q7 := (show rg (0 : Int32) 0 0 from rg_l (by decide)).1; have q8 := (show rg (0 : Int32) 0 0 from rg_l (by decide)).2; have q9 := t9_2; have q10 := hms; omega) (lv_sub hl [2, 3, 1, 0] rfl) hP hD hS
  exact b7 _ (0 : Int64) z4_1 H locs ls r4_2 (Nat.lt_succ_self _) (lv_sub hl [2, 3, 1, 0] rfl) hP hD hS
set_option maxHeartbeats 2000000 in
theorem c_X6_lengthOf (l : Launch) (D : va_G) (ct : Nat → ClassId) (k0 : Nat) (v0 : Int32) (k0c : Nat) (k0l : Nat) (x_k0_2 : Int32) (g_k0l : Nat → Int32) (h_x_k0_2 : rg x_k0_2 0 16) (h_g_k0l : Rg g_k0l 16 0 256) : KI (S := Unit) l yX6_lengthOf cX6_lengthOf 2 (some .int) 1 20 D ct [.ref k0, .int v0] [(k0, .inr (6, [.ref k0c, .ref k0l, .int x_k0_2])), (k0l, .inl (ct 1, 16, .inl g_k0l))] 0 0 (fun (r : Int32) (_ : Unit) => rg r (-1) 256 ∧ (0 ≤ r.toInt → 0 ≤ v0.toInt ∧ v0.toInt < x_k0_2.toInt)) (fun (_ : Unit) => [(k0, .inr (6, [.ref k0c, .ref k0l, .int x_k0_2])), (k0l, .inl (ct 1, 16, .inl g_k0l))]) := by
  refine KIq_of (by decide) (Nat.le_of_ble_eq_true rfl) (fun p e s m below meth c A Q C0 hA H locs hS hP hD hQ ls hl => ?_)
  obtain ⟨hx, hb, hr, hown, hin, hml, hlocks, hn, hK, hZ, hSK⟩ := C0
  have hl : lv_has ls 2 [(0, .ref k0), (1, .int v0)] := hl
  refine lv_iload_n hx hb dX6_lengthOf_0 rfl (lv_at hl 1 rfl) ?_
  refine lv_if_lt (tgt := 12) hx hb dX6_lengthOf_1 (by decide) (fun c1_1 => ?_) (fun c1_1 => ?_)
  · have t1_2 := (i_lt c1_1)
    have r1_3 : rg v0 (-2147483648) (-1) := rg_ltA t1_2 (rg_any v0) (show rg (0 : Int32) 0 0 from rg_l (by decide)) (by decide)
    refine lv_iconst (v := (-1)) hx hb dX6_lengthOf_12 (by decide) ?_
    refine lv_goto (tgt := 22) hx hb dX6_lengthOf_13 (by decide) ?_
    exact endq_i hQ hx hb hr hlocks dX6_lengthOf_22 rfl () ⟨(rg_w (show rg ((-1) : Int32) (-1) (-1) from rg_l (by decide)) (by decide)), (show 0 ≤ (-1 : Int32).toInt → 0 ≤ v0.toInt ∧ v0.toInt < x_k0_2.toInt by have q0 := h_x_k0_2.1; have q1 := h_x_k0_2.2; have q2 := r1_3.1; have q3 := r1_3.2; have q4 := (show rg ((-1) : Int32) (-1) (-1) from rg_l (by decide)).1; have q5 := (show rg ((-1) : Int32) (-1) (-1) from rg_l (by decide)).2; have q6 := (show rg (0 : Int32) 0 0 from rg_l (by decide)).1; have q7 := (show rg (0 : Int32) 0 0 from rg_l (by decide)).2; have q8 := t1_2; omega)⟩ hP hD hS [0, 1] rfl (by decide) rfl (Nat.le_of_ble_eq_true rfl) (Nat.le_of_ble_eq_true rfl)
  · have t1_2 := (i_nlt c1_1)
    have r1_3 : rg v0 0 2147483647 := rg_leB t1_2 (show rg (0 : Int32) 0 0 from rg_l (by decide)) (rg_any v0) (by decide)
    refine lv_iload_n hx hb dX6_lengthOf_4 rfl (lv_at hl 1 rfl) ?_
    refine lv_aload_n hx hb dX6_lengthOf_5 rfl (lv_at hl 0 rfl) ?_
    refine va_get (D := D) (ci := 6) (v := .int x_k0_2) (C := RX6) (T := TX6) (N := 3) hx hb (htX6 hn) (fun _ h => h) hown hK hP 0 rfl rfl 2 (by decide) (hn.get mw_63 rfl) (fun _ h9 => h9) rfl dX6_lengthOf_6 ?_
    refine lv_icmp_lt (tgt := 16) hx hb dX6_lengthOf_9 (by decide) (fun c9_1 => ?_) (fun c9_1 => ?_)
    · have t9_2 := (i_lt c9_1)
      have r9_3 : rg v0 0 15 := rg_ltA t9_2 r1_3 h_x_k0_2 (by decide)
      have r9_4 : rg x_k0_2 1 16 := rg_ltB t9_2 r1_3 h_x_k0_2 (by decide)
      refine lv_aload_n hx hb dX6_lengthOf_16 rfl (lv_at hl 0 rfl) ?_
      refine va_get (D := D) (ci := 6) (v := .ref k0l) (C := RX6) (T := TX6) (N := 3) hx hb (htX6 hn) (fun _ h => h) hown hK hP 0 rfl rfl 1 (by decide) (hn.get mw_62 rfl) (fun _ h9 => h9) rfl dX6_lengthOf_17 ?_
      refine lv_iload_n hx hb dX6_lengthOf_20 rfl (lv_at hl 1 rfl) ?_
      have hi21_1 : vp_in v0 16 := (in_rg r9_3 (by decide))
      refine va_iald hx hb hK hP 1 1 rfl rfl hi21_1 dX6_lengthOf_21 ?_
      refine lv_topi (fun z21_2 ez21_2 => ?_)
      have r21_3 : rg z21_2 0 256 := Rg_at h_g_k0l hi21_1 ez21_2
      exact endq_i hQ hx hb hr hlocks dX6_lengthOf_22 rfl () ⟨(rg_w r21_3 (by decide)), (show 0 ≤ z21_2.toInt → 0 ≤ v0.toInt ∧ v0.toInt < x_k0_2.toInt by have q0 := r9_4.1; have q1 := r9_4.2; have q2 := r9_3.1; have q3 := r9_3.2; have q4 := r21_3.1; have q5 := r21_3.2; have q6 := (congrArg Int32.toInt ez21_2); have q7 := (rg_any (g_k0l v0.toNatClampNeg)).1; have q8 := (rg_any (g_k0l v0.toNatClampNeg)).2; have q9 := (show rg (0 : Int32) 0 0 from rg_l (by decide)).1; have q10 := (show rg (0 : Int32) 0 0 from rg_l (by decide)).2; have q11 := t1_2; have q12 := t9_2; omega)⟩ hP hD hS [0, 1] rfl (by decide) rfl (Nat.le_of_ble_eq_true rfl) (Nat.le_of_ble_eq_true rfl)
    · have t9_2 := (i_nlt c9_1)
      refine lv_iconst (v := (-1)) hx hb dX6_lengthOf_12 (by decide) ?_
      refine lv_goto (tgt := 22) hx hb dX6_lengthOf_13 (by decide) ?_
      exact endq_i hQ hx hb hr hlocks dX6_lengthOf_22 rfl () ⟨(rg_w (show rg ((-1) : Int32) (-1) (-1) from rg_l (by decide)) (by decide)), (show 0 ≤ (-1 : Int32).toInt → 0 ≤ v0.toInt ∧ v0.toInt < x_k0_2.toInt by have q0 := h_x_k0_2.1; have q1 := h_x_k0_2.2; have q2 := r1_3.1; have q3 := r1_3.2; have q4 := (show rg ((-1) : Int32) (-1) (-1) from rg_l (by decide)).1; have q5 := (show rg ((-1) : Int32) (-1) (-1) from rg_l (by decide)).2; have q6 := (show rg (0 : Int32) 0 0 from rg_l (by decide)).1; have q7 := (show rg (0 : Int32) 0 0 from rg_l (by decide)).2; have q8 := t1_2; have q9 := t9_2; omega)⟩ hP hD hS [0, 1] rfl (by decide) rfl (Nat.le_of_ble_eq_true rfl) (Nat.le_of_ble_eq_true rfl)
set_option maxHeartbeats 2000000 in
theorem c_X6_at (l : Launch) (D : va_G) (ct : Nat → ClassId) (k0 : Nat) (v0 : Int32) (v1 : Int64) (k0c : Nat) (k0l : Nat) (x_k0_2 : Int32) (g_k0l : Nat → Int32) (g_k0c : Nat → Int32) (h_x_k0_2 : rg x_k0_2 0 16) (h_g_k0l : Rg g_k0l 16 0 256) (h_g_k0c : Rg g_k0c 4096 (-128) 127) : KI (S := Unit) l yX6_at cX6_at 4 (some .int) 2 41 D ct [.ref k0, .int v0, .long v1] [(k0, .inr (6, [.ref k0c, .ref k0l, .int x_k0_2])), (k0l, .inl (ct 1, 16, .inl g_k0l)), (k0c, .inl (ct 0, 4096, .inl g_k0c))] 0 0 (fun (r : Int32) (_ : Unit) => rg r (-1) 255) (fun (_ : Unit) => [(k0, .inr (6, [.ref k0c, .ref k0l, .int x_k0_2])), (k0l, .inl (ct 1, 16, .inl g_k0l)), (k0c, .inl (ct 0, 4096, .inl g_k0c))]) := by
  refine KIq_of (by decide) (Nat.le_of_ble_eq_true rfl) (fun p e s m below meth c A Q C0 hA H locs hS hP hD hQ ls hl => ?_)
  obtain ⟨hx, hb, hr, hown, hin, hml, hlocks, hn, hK, hZ, hSK⟩ := C0
  have hl : lv_has ls 4 [(0, .ref k0), (1, .int v0), (2, .long v1)] := hl
  refine lv_lload_n hx hb dX6_at_0 rfl (lv_at hl 2 rfl) ?_
  refine lv_lconst (v := 0) hx hb dX6_at_1 (by decide) ?_
  refine W.lcmp hx hb dX6_at_2 ?_
  refine lv_topi (fun z2_1 ez2_1 => ?_)
  refine lv_if_lt (tgt := 17) hx hb dX6_at_3 (by decide) (fun c3_1 => ?_) (fun c3_1 => ?_)
  · have t3_2 := (l_lt ez2_1 c3_1)
    have r3_3 : rl v1 (-9223372036854775808) (-1) := rl_ltA t3_2 (rl_any v1) (show rl (0 : Int64) 0 0 from rl_l (by decide)) (by decide)
    refine lv_iconst (v := (-1)) hx hb dX6_at_17 (by decide) ?_
    refine lv_goto (tgt := 38) hx hb dX6_at_18 (by decide) ?_
    exact endq_i hQ hx hb hr hlocks dX6_at_38 rfl () (rg_w (show rg ((-1) : Int32) (-1) (-1) from rg_l (by decide)) (by decide)) hP hD hS [0, 1, 2] rfl (by decide) rfl (Nat.le_of_ble_eq_true rfl) (Nat.le_of_ble_eq_true rfl)
  · have t3_2 := (l_nlt ez2_1 c3_1)
    have r3_3 : rl v1 0 9223372036854775807 := rl_leB t3_2 (show rl (0 : Int64) 0 0 from rl_l (by decide)) (rl_any v1) (by decide)
    refine lv_lload_n hx hb dX6_at_6 rfl (lv_at hl 2 rfl) ?_
    refine lv_aload_n hx hb dX6_at_7 rfl (lv_at hl 0 rfl) ?_
    refine lv_iload_n hx hb dX6_at_8 rfl (lv_at hl 1 rfl) ?_
    refine go_i (k1 := 0) (n1 := 0) (wr := [(k0c, .inl (ct 0, 4096, .inl g_k0c))]) [0, 1] [2] (rn_V (As := [.int v0]) (rest := [.long v1]) (c_X6_lengthOf l D ct k0 v0 k0c k0l x_k0_2 g_k0l h_x_k0_2 h_g_k0l _) (cb_of (n := 1) hn mw_468 mw_3 mw_465 mhX6_lengthOf ⟨(Nat.le_of_ble_eq_true rfl), (Nat.le_of_ble_eq_true rfl)⟩) hx hb hml hown hn hK hSK hZ hS mw_467 mw_s6 (ci := 6) (q0 := 0) rfl rfl rfl rfl hl.1 (Nat.le_of_ble_eq_true rfl) dX6_at_9 ⟨(Nat.le_of_ble_eq_true rfl), (Nat.le_of_ble_eq_true rfl)⟩) hP hD hS hA rfl rfl (by decide) (by decide) (by decide) (Nat.le_of_ble_eq_true rfl) (Nat.le_of_ble_eq_true rfl) (fun r9_1 u9_2 H locs hp9_3 hP hD hS => ?_)
    obtain ⟨hp9_4, hp9_5⟩ := hp9_3
    have hp9_4 : rg r9_1 (-1) 256 := hp9_4
    have hp9_5 : 0 ≤ r9_1.toInt → 0 ≤ v0.toInt ∧ v0.toInt < x_k0_2.toInt := hp9_5
    have hP : va_P D vwCl [(k0c, .inl (ct 0, 4096, .inl g_k0c)), (k0, .inr (6, [.ref k0c, .ref k0l, .int x_k0_2])), (k0l, .inl (ct 1, 16, .inl g_k0l))] _ := hP
    have hD : va_D A [(k0c, .inl (ct 0, 4096, .inl g_k0c)), (k0, .inr (6, [.ref k0c, .ref k0l, .int x_k0_2])), (k0l, .inl (ct 1, 16, .inl g_k0l))] := hD
    refine lv_i2l hx hb dX6_at_12 rfl ?_
    refine lv_topl (fun z12_1 ez12_1 => ?_)
    have r12_2 : rl z12_1 (-1) 256 := rl_i2l ez12_1 hp9_4
    refine W.lcmp hx hb dX6_at_13 ?_
    refine lv_topi (fun z13_1 ez13_1 => ?_)
    refine lv_if_lt (tgt := 21) hx hb dX6_at_14 (by decide) (fun c14_1 => ?_) (fun c14_1 => ?_)
    · have t14_2 := (l_lt ez13_1 c14_1)
      have r14_3 : rl v1 0 255 := rl_ltA t14_2 r3_3 r12_2 (by decide)
      have r14_4 : rl z12_1 1 256 := rl_ltB t14_2 r3_3 r12_2 (by decide)
      have r21_1 : rg v0 0 15 := (rg_of (show 0 ≤ v0.toInt ∧ v0.toInt ≤ 15 by have q0 := (rg_any v0).1; have q1 := (rg_any v0).2; have q2 := h_x_k0_2.1; have q3 := h_x_k0_2.2; have q4 := hp9_4.1; have q5 := hp9_4.2; have q6 := r14_4.1; have q7 := r14_4.2; have q8 := (eq_i2l ez12_1); have q9 := r14_3.1; have q10 := r14_3.2; have q11 := (show rl (0 : Int64) 0 0 from rl_l (by decide)).1; have q12 := (show rl (0 : Int64) 0 0 from rl_l (by decide)).2; have q13 := t3_2; have q14 := hp9_5; have q15 := t14_2; omega))
      refine lv_aload_n hx hb dX6_at_21 rfl (lv_at hl 0 rfl) ?_
      refine va_get (D := D) (ci := 6) (v := .ref k0c) (C := RX6) (T := TX6) (N := 3) hx hb (htX6 hn) (fun _ h => h) hown hK hP 1 rfl rfl 0 (by decide) (hn.get mw_61 rfl) (fun _ h9 => h9) rfl dX6_at_22 ?_
      refine lv_iload_n hx hb dX6_at_25 rfl (lv_at hl 1 rfl) ?_
      refine lv_sipush (v := 256) hx hb dX6_at_26 (by decide) ?_
      refine lv_imul hx hb dX6_at_29 ?_
      refine lv_topi (fun z29_1 ez29_1 => ?_)
      have r29_2 : rg z29_1 0 3840 := rg_mul ez29_1 r21_1 (show rg (256 : Int32) 256 256 from rg_l (by decide)) (by decide)
      refine lv_lload_n hx hb dX6_at_30 rfl (lv_at hl 2 rfl) ?_
      refine lv_l2i hx hb dX6_at_31 rfl ?_
      refine lv_topi (fun z31_1 ez31_1 => ?_)
      have r31_2 : rg z31_1 0 255 := rg_l2i ez31_1 r14_3 (by decide)
      refine lv_iadd hx hb dX6_at_32 ?_
      refine lv_topi (fun z32_1 ez32_1 => ?_)
      have r32_2 : rg z32_1 0 4095 := rg_add ez32_1 r29_2 r31_2 (by decide)
      have hi33_1 : vp_in z32_1 4096 := (in_rg r32_2 (by decide))
      refine va_bald hx hb hK hP 0 0 rfl rfl hi33_1 dX6_at_33 ?_
      refine lv_topi (fun z33_2 ez33_2 => ?_)
      have r33_3 : rg z33_2 (-128) 127 := Rg_at h_g_k0c hi33_1 ez33_2
      refine lv_sipush (v := 255) hx hb dX6_at_34 (by decide) ?_
      refine lv_iand hx hb dX6_at_37 ?_
      refine lv_topi (fun z37_1 ez37_1 => ?_)
      have r37_2 : rg z37_1 0 255 := rg_andr ez37_1 (show rg (255 : Int32) 255 255 from rg_l (by decide)) (by decide)
      exact endq_i hQ hx hb hr hlocks dX6_at_38 rfl () (rg_w r37_2 (by decide)) hP hD hS [1, 2, 0] rfl (by decide) rfl (Nat.le_of_ble_eq_true rfl) (Nat.le_of_ble_eq_true rfl)
    · have t14_2 := (l_nlt ez13_1 c14_1)
      refine lv_iconst (v := (-1)) hx hb dX6_at_17 (by decide) ?_
      refine lv_goto (tgt := 38) hx hb dX6_at_18 (by decide) ?_
      exact endq_i hQ hx hb hr hlocks dX6_at_38 rfl () (rg_w (show rg ((-1) : Int32) (-1) (-1) from rg_l (by decide)) (by decide)) hP hD hS [1, 2, 0] rfl (by decide) rfl (Nat.le_of_ble_eq_true rfl) (Nat.le_of_ble_eq_true rfl)
set_option maxHeartbeats 2000000 in
theorem c_X6_eightFrom (l : Launch) (D : va_G) (ct : Nat → ClassId) (k0 : Nat) (v0 : Int32) (v1 : Int32) (k0c : Nat) (k0l : Nat) (x_k0_2 : Int32) (g_k0l : Nat → Int32) (g_k0c : Nat → Int32) (h_x_k0_2 : rg x_k0_2 0 16) (h_g_k0l : Rg g_k0l 16 0 256) (h_g_k0c : Rg g_k0c 4096 (-128) 127) : KL (S := Unit) l yX6_eightFrom cX6_eightFrom 7 (some .long) 3 64 D ct [.ref k0, .int v0, .int v1] [(k0, .inr (6, [.ref k0c, .ref k0l, .int x_k0_2])), (k0l, .inl (ct 1, 16, .inl g_k0l)), (k0c, .inl (ct 0, 4096, .inl g_k0c))] 0 0 (fun (r : Int64) (_ : Unit) => True) (fun (_ : Unit) => [(k0, .inr (6, [.ref k0c, .ref k0l, .int x_k0_2])), (k0l, .inl (ct 1, 16, .inl g_k0l)), (k0c, .inl (ct 0, 4096, .inl g_k0c))]) := by
  refine KLq_of (by decide) (Nat.le_of_ble_eq_true rfl) (fun p e s m below meth c A Q C0 hA H locs hS hP hD hQ ls hl => ?_)
  obtain ⟨hx, hb, hr, hown, hin, hml, hlocks, hn, hK, hZ, hSK⟩ := C0
  have hl : lv_has ls 7 [(0, .ref k0), (1, .int v0), (2, .int v1)] := hl
  refine lv_aload_n hx hb dX6_eightFrom_0 rfl (lv_at hl 0 rfl) ?_
  refine lv_iload_n hx hb dX6_eightFrom_1 rfl (lv_at hl 1 rfl) ?_
  refine lv_iload_n hx hb dX6_eightFrom_2 rfl (lv_at hl 2 rfl) ?_
  refine lv_i2l hx hb dX6_eightFrom_3 rfl ?_
  refine lv_topl (fun z3_1 ez3_1 => ?_)
  have r3_2 : rl z3_1 (-2147483648) 2147483647 := rl_i2l ez3_1 (rg_any v1)
  refine go_i (k1 := 0) (n1 := 0) (wr := []) [0, 1, 2] [] (rn_V (As := [.int v0, .long z3_1]) (rest := []) (c_X6_at l D ct k0 v0 z3_1 k0c k0l x_k0_2 g_k0l g_k0c h_x_k0_2 h_g_k0l h_g_k0c _) (cb_of (n := 2) hn mw_464 mw_3 mw_461 mhX6_at ⟨(Nat.le_of_ble_eq_true rfl), (Nat.le_of_ble_eq_true rfl)⟩) hx hb hml hown hn hK hSK hZ hS mw_463 mw_s5 (ci := 6) (q0 := 0) rfl rfl rfl rfl hl.1 (Nat.le_of_ble_eq_true rfl) dX6_eightFrom_4 ⟨(Nat.le_of_ble_eq_true rfl), (Nat.le_of_ble_eq_true rfl)⟩) hP hD hS hA rfl rfl (by decide) (by decide) (by decide) (Nat.le_of_ble_eq_true rfl) (Nat.le_of_ble_eq_true rfl) (fun r4_1 u4_2 H locs hp4_3 hP hD hS => ?_)
  have hp4_4 := hp4_3
  have hp4_4 : rg r4_1 (-1) 255 := hp4_4
  have hP : va_P D vwCl [(k0, .inr (6, [.ref k0c, .ref k0l, .int x_k0_2])), (k0l, .inl (ct 1, 16, .inl g_k0l)), (k0c, .inl (ct 0, 4096, .inl g_k0c))] _ := hP
  have hD : va_D A [(k0, .inr (6, [.ref k0c, .ref k0l, .int x_k0_2])), (k0l, .inl (ct 1, 16, .inl g_k0l)), (k0c, .inl (ct 0, 4096, .inl g_k0c))] := hD
  refine lv_if_ge (tgt := 14) hx hb dX6_eightFrom_7 (by decide) (fun c7_1 => ?_) (fun c7_1 => ?_)
  · have t7_2 := (i_le c7_1)
    have r7_3 : rg r4_1 0 255 := rg_leB t7_2 (show rg (0 : Int32) 0 0 from rg_l (by decide)) hp4_4 (by decide)
    refine lv_lconst (v := 0) hx hb dX6_eightFrom_14 (by decide) ?_
    refine lv_lstore_n (lv' := [(3, .long 0), (0, .ref k0), (1, .int v0), (2, .int v1)]) hx hb dX6_eightFrom_15 rfl hl (by decide) rfl (fun ls hl => ?_)
    refine lv_iconst (v := 0) hx hb dX6_eightFrom_16 (by decide) ?_
    refine lv_istore (lv' := [(5, .int 0), (3, .long 0), (0, .ref k0), (1, .int v0), (2, .int v1)]) hx hb dX6_eightFrom_17 hl (by decide) rfl (fun ls hl => ?_)
    have b19 : ∀ (n : Nat) (j19_l3 : Int64) (j19_l5 : Int32) (H : Heap) (locs : List Loc) (ls : Array Slot), (rg j19_l5 0 8) → ((2147483647 : Int) - j19_l5.toInt).toNat < n → lv_has ls 7 [(0, .ref k0), (1, .int v0), (2, .int v1), (3, .long j19_l3), (5, .int j19_l5)] → va_P D vwCl [(k0, .inr (6, [.ref k0c, .ref k0l, .int x_k0_2])), (k0l, .inl (ct 1, 16, .inl g_k0l)), (k0c, .inl (ct 0, 4096, .inl g_k0c))] H → va_D A [(k0, .inr (6, [.ref k0c, .ref k0l, .int x_k0_2])), (k0l, .inl (ct 1, 16, .inl g_k0l)), (k0c, .inl (ct 0, 4096, .inl g_k0c))] → va_S A s.heap H locs → W p l e ({ frames := 3, cells := 0, slots := 0, locals := 64 }) s m [.ref k0, .int v0, .int v1].toArray below meth c H locs 0 0 Q (F0 m 19 ls []) := by
      intro n
      induction n with
      | zero => intros; rename_i hms _ _ _ _; exact absurd hms (Nat.not_lt_zero _)
      | succ n ih =>
        intro j19_l3 j19_l5 H locs ls r19_1001 hms hl hP hD hS
        refine lv_iload hx hb dX6_eightFrom_19 (lv_at hl 4 rfl) ?_
        refine lv_bipush (v := 8) hx hb dX6_eightFrom_21 (by decide) ?_
        refine lv_icmp_ge (tgt := 63) hx hb dX6_eightFrom_23 (by decide) (fun c23_1 => ?_) (fun c23_1 => ?_)
        · have t23_2 := (i_le c23_1)
          have r23_3 : rg j19_l5 8 8 := rg_leB t23_2 (show rg (8 : Int32) 8 8 from rg_l (by decide)) r19_1001 (by decide)
          refine lv_lload_n hx hb dX6_eightFrom_63 rfl (lv_at hl 3 rfl) ?_
          exact endq_l hQ hx hb hr hlocks dX6_eightFrom_64 () trivial hP hD hS [0, 1, 2] rfl (by decide) rfl (Nat.le_of_ble_eq_true rfl) (Nat.le_of_ble_eq_true rfl)
        · have t23_2 := (i_nle c23_1)
          have r23_3 : rg j19_l5 0 7 := rg_ltA t23_2 r19_1001 (show rg (8 : Int32) 8 8 from rg_l (by decide)) (by decide)
          refine lv_aload_n hx hb dX6_eightFrom_26 rfl (lv_at hl 0 rfl) ?_
          refine lv_iload_n hx hb dX6_eightFrom_27 rfl (lv_at hl 1 rfl) ?_
          refine lv_iload_n hx hb dX6_eightFrom_28 rfl (lv_at hl 2 rfl) ?_
          refine lv_i2l hx hb dX6_eightFrom_29 rfl ?_
          refine lv_topl (fun z29_1 ez29_1 => ?_)
          have r29_2 : rl z29_1 (-2147483648) 2147483647 := rl_i2l ez29_1 (rg_any v1)
          refine lv_iload hx hb dX6_eightFrom_30 (lv_at hl 4 rfl) ?_
          refine lv_i2l hx hb dX6_eightFrom_32 rfl ?_
          refine lv_topl (fun z32_1 ez32_1 => ?_)
          have r32_2 : rl z32_1 0 7 := rl_i2l ez32_1 r23_3
          refine lv_ladd hx hb dX6_eightFrom_33 ?_
          refine lv_topl (fun z33_1 ez33_1 => ?_)
          have r33_2 : rl z33_1 (-2147483648) 2147483654 := rgL_add ez33_1 r29_2 r32_2 (by decide)
          refine go_i (k1 := 0) (n1 := 0) (wr := []) [0, 1, 2] [] (rn_V (As := [.int v0, .long z33_1]) (rest := []) (c_X6_at l D ct k0 v0 z33_1 k0c k0l x_k0_2 g_k0l g_k0c h_x_k0_2 h_g_k0l h_g_k0c _) (cb_of (n := 2) hn mw_464 mw_3 mw_461 mhX6_at ⟨(Nat.le_of_ble_eq_true rfl), (Nat.le_of_ble_eq_true rfl)⟩) hx hb hml hown hn hK hSK hZ hS mw_463 mw_s5 (ci := 6) (q0 := 0) rfl rfl rfl rfl hl.1 (Nat.le_of_ble_eq_true rfl) dX6_eightFrom_34 ⟨(Nat.le_of_ble_eq_true rfl), (Nat.le_of_ble_eq_true rfl)⟩) hP hD hS hA rfl rfl (by decide) (by decide) (by decide) (Nat.le_of_ble_eq_true rfl) (Nat.le_of_ble_eq_true rfl) (fun r34_1 u34_2 H locs hp34_3 hP hD hS => ?_)
          have hp34_4 := hp34_3
          have hp34_4 : rg r34_1 (-1) 255 := hp34_4
          have hP : va_P D vwCl [(k0, .inr (6, [.ref k0c, .ref k0l, .int x_k0_2])), (k0l, .inl (ct 1, 16, .inl g_k0l)), (k0c, .inl (ct 0, 4096, .inl g_k0c))] _ := hP
          have hD : va_D A [(k0, .inr (6, [.ref k0c, .ref k0l, .int x_k0_2])), (k0l, .inl (ct 1, 16, .inl g_k0l)), (k0c, .inl (ct 0, 4096, .inl g_k0c))] := hD
          refine lv_istore (lv' := [(6, .int r34_1), (0, .ref k0), (1, .int v0), (2, .int v1), (3, .long j19_l3), (5, .int j19_l5)]) hx hb dX6_eightFrom_37 hl (by decide) rfl (fun ls hl => ?_)
          refine lv_lload_n hx hb dX6_eightFrom_39 rfl (lv_at hl 4 rfl) ?_
          refine lv_bipush (v := 8) hx hb dX6_eightFrom_40 (by decide) ?_
          refine lv_lshl hx hb dX6_eightFrom_42 rfl ?_
          refine lv_topl (fun z42_1 ez42_1 => ?_)
          refine lv_iload hx hb dX6_eightFrom_43 (lv_at hl 0 rfl) ?_
          have b54 : ∀ (j54_s0 : Int32) (H : Heap) (locs : List Loc) (ls : Array Slot), (rg j54_s0 0 255) → lv_has ls 7 [(0, .ref k0), (1, .int v0), (2, .int v1), (5, .int j19_l5)] → va_P D vwCl [(k0, .inr (6, [.ref k0c, .ref k0l, .int x_k0_2])), (k0l, .inl (ct 1, 16, .inl g_k0l)), (k0c, .inl (ct 0, 4096, .inl g_k0c))] H → va_D A [(k0, .inr (6, [.ref k0c, .ref k0l, .int x_k0_2])), (k0l, .inl (ct 1, 16, .inl g_k0l)), (k0c, .inl (ct 0, 4096, .inl g_k0c))] → va_S A s.heap H locs → W p l e ({ frames := 3, cells := 0, slots := 0, locals := 64 }) s m [.ref k0, .int v0, .int v1].toArray below meth c H locs 0 0 Q (F0 m 54 ls [.int j54_s0, .long z42_1]) := by
            intro j54_s0 H locs ls r54_1001 hl hP hD hS
            refine lv_i2l hx hb dX6_eightFrom_54 rfl ?_
            refine lv_topl (fun z54_1 ez54_1 => ?_)
            have r54_2 : rl z54_1 0 255 := rl_i2l ez54_1 r54_1001
            refine lv_lor hx hb dX6_eightFrom_55 ?_
            refine lv_topl (fun z55_1 ez55_1 => ?_)
            refine lv_lstore_n (lv' := [(3, .long z55_1), (0, .ref k0), (1, .int v0), (2, .int v1), (5, .int j19_l5)]) hx hb dX6_eightFrom_56 rfl hl (by decide) rfl (fun ls hl => ?_)
            obtain ⟨x57_1, ex57_1⟩ : ∃ z : Int32, z = j19_l5 + 1 := ⟨_, rfl⟩
            have r57_2 : rg x57_1 1 8 := rg_add ex57_1 r23_3 (show rg (1 : Int32) 1 1 from rg_l (by decide)) (by decide)
            refine lv_iinc (v := x57_1) (lv' := [(5, .int x57_1), (3, .long z55_1), (0, .ref k0), (1, .int v0), (2, .int v1)]) hx hb dX6_eightFrom_57 hl (k := 4) rfl (by rw [ex57_1]; rfl) (by decide) rfl (fun ls hl => ?_)
            refine lv_goto (tgt := 19) hx hb dX6_eightFrom_60 (by decide) ?_
            exact ih z55_1 x57_1 H locs ls (rg_w r57_2 (by decide)) (show ((2147483647 : Int) - x57_1.toInt).toNat < n by have q0 := r23_3.1; have q1 := r23_3.2; have q2 := r57_2.1; have q3 := r57_2.2; have q4 := (eq_add ex57_1 r23_3 (show rg (1 : Int32) 1 1 from rg_l (by decide)) (by decide)); have q5 := (show rg (1 : Int32) 1 1 from rg_l (by decide)).1; have q6 := (show rg (1 : Int32) 1 1 from rg_l (by decide)).2; have q7 := (show rg (8 : Int32) 8 8 from rg_l (by decide)).1; have q8 := (show rg (8 : Int32) 8 8 from rg_l (by decide)).2; have q9 := t23_2; have q10 := hms; omega) (lv_sub hl [2, 3, 4, 1, 0] rfl) hP hD hS
          refine lv_if_ge (tgt := 52) hx hb dX6_eightFrom_45 (by decide) (fun c45_1 => ?_) (fun c45_1 => ?_)
          · have t45_2 := (i_le c45_1)
            have r45_3 : rg r34_1 0 255 := rg_leB t45_2 (show rg (0 : Int32) 0 0 from rg_l (by decide)) hp34_4 (by decide)
            refine lv_iload hx hb dX6_eightFrom_52 (lv_at hl 0 rfl) ?_
            exact b54 r34_1 H locs ls r45_3 (lv_sub hl [1, 2, 3, 5] rfl) hP hD hS
          · have t45_2 := (i_nle c45_1)
            have r45_3 : rg r34_1 (-1) (-1) := rg_ltA t45_2 hp34_4 (show rg (0 : Int32) 0 0 from rg_l (by decide)) (by decide)
            refine lv_iconst (v := 0) hx hb dX6_eightFrom_48 (by decide) ?_
            refine lv_goto (tgt := 54) hx hb dX6_eightFrom_49 (by decide) ?_
            exact b54 (0 : Int32) H locs ls (rg_w (show rg (0 : Int32) 0 0 from rg_l (by decide)) (by decide)) (lv_sub hl [1, 2, 3, 5] rfl) hP hD hS
    exact b19 _ (0 : Int64) (0 : Int32) H locs ls (rg_w (show rg (0 : Int32) 0 0 from rg_l (by decide)) (by decide)) (Nat.lt_succ_self _) (lv_sub hl [2, 3, 4, 1, 0] rfl) hP hD hS
  · have t7_2 := (i_nle c7_1)
    have r7_3 : rg r4_1 (-1) (-1) := rg_ltA t7_2 hp4_4 (show rg (0 : Int32) 0 0 from rg_l (by decide)) (by decide)
    refine lv_ldc2 (v := (-1)) hx hb hown (hn.get mw_469 rfl) dX6_eightFrom_10 ?_
    exact endq_l hQ hx hb hr hlocks dX6_eightFrom_13 () trivial hP hD hS [0, 1, 2] rfl (by decide) rfl (Nat.le_of_ble_eq_true rfl) (Nat.le_of_ble_eq_true rfl)
set_option maxHeartbeats 2000000 in
theorem c_X6_read (l : Launch) (D : va_G) (ct : Nat → ClassId) (k0 : Nat) (v0 : Int32) (v1 : Int64) (v2 : Int32) (k0c : Nat) (k0l : Nat) (x_k0_2 : Int32) (g_k0l : Nat → Int32) (g_k0c : Nat → Int32) (h_v2 : rg v2 0 8) (h_x_k0_2 : rg x_k0_2 0 16) (h_g_k0l : Rg g_k0l 16 0 256) (h_g_k0c : Rg g_k0c 4096 (-128) 127) : KL (S := Unit) l yX6_read cX6_read 8 (some .long) 3 64 D ct [.ref k0, .int v0, .long v1, .int v2] [(k0, .inr (6, [.ref k0c, .ref k0l, .int x_k0_2])), (k0l, .inl (ct 1, 16, .inl g_k0l)), (k0c, .inl (ct 0, 4096, .inl g_k0c))] 0 0 (fun (r : Int64) (_ : Unit) => True) (fun (_ : Unit) => [(k0, .inr (6, [.ref k0c, .ref k0l, .int x_k0_2])), (k0l, .inl (ct 1, 16, .inl g_k0l)), (k0c, .inl (ct 0, 4096, .inl g_k0c))]) := by
  refine KLq_of (by decide) (Nat.le_of_ble_eq_true rfl) (fun p e s m below meth c A Q C0 hA H locs hS hP hD hQ ls hl => ?_)
  obtain ⟨hx, hb, hr, hown, hin, hml, hlocks, hn, hK, hZ, hSK⟩ := C0
  have hl : lv_has ls 8 [(0, .ref k0), (1, .int v0), (2, .long v1), (4, .int v2)] := hl
  refine lv_lload_n hx hb dX6_read_0 rfl (lv_at hl 2 rfl) ?_
  refine lv_lconst (v := 0) hx hb dX6_read_1 (by decide) ?_
  refine W.lcmp hx hb dX6_read_2 ?_
  refine lv_topi (fun z2_1 ez2_1 => ?_)
  refine lv_if_lt (tgt := 21) hx hb dX6_read_3 (by decide) (fun c3_1 => ?_) (fun c3_1 => ?_)
  · have t3_2 := (l_lt ez2_1 c3_1)
    have r3_3 : rl v1 (-9223372036854775808) (-1) := rl_ltA t3_2 (rl_any v1) (show rl (0 : Int64) 0 0 from rl_l (by decide)) (by decide)
    refine lv_ldc2 (v := (-1)) hx hb hown (hn.get mw_469 rfl) dX6_read_21 ?_
    exact endq_l hQ hx hb hr hlocks dX6_read_24 () trivial hP hD hS [0, 1, 2] rfl (by decide) rfl (Nat.le_of_ble_eq_true rfl) (Nat.le_of_ble_eq_true rfl)
  · have t3_2 := (l_nlt ez2_1 c3_1)
    have r3_3 : rl v1 0 9223372036854775807 := rl_leB t3_2 (show rl (0 : Int64) 0 0 from rl_l (by decide)) (rl_any v1) (by decide)
    refine lv_lload_n hx hb dX6_read_6 rfl (lv_at hl 2 rfl) ?_
    refine lv_iload hx hb dX6_read_7 (lv_at hl 3 rfl) ?_
    refine lv_i2l hx hb dX6_read_9 rfl ?_
    refine lv_topl (fun z9_1 ez9_1 => ?_)
    have r9_2 : rl z9_1 0 8 := rl_i2l ez9_1 h_v2
    refine lv_ladd hx hb dX6_read_10 ?_
    refine lv_topl (fun z10_1 ez10_1 => ?_)
    refine lv_aload_n hx hb dX6_read_11 rfl (lv_at hl 0 rfl) ?_
    refine lv_iload_n hx hb dX6_read_12 rfl (lv_at hl 1 rfl) ?_
    refine go_i (k1 := 0) (n1 := 0) (wr := [(k0c, .inl (ct 0, 4096, .inl g_k0c))]) [0, 1] [2] (rn_V (As := [.int v0]) (rest := [.long z10_1]) (c_X6_lengthOf l D ct k0 v0 k0c k0l x_k0_2 g_k0l h_x_k0_2 h_g_k0l _) (cb_of (n := 1) hn mw_468 mw_3 mw_465 mhX6_lengthOf ⟨(Nat.le_of_ble_eq_true rfl), (Nat.le_of_ble_eq_true rfl)⟩) hx hb hml hown hn hK hSK hZ hS mw_467 mw_s6 (ci := 6) (q0 := 0) rfl rfl rfl rfl hl.1 (Nat.le_of_ble_eq_true rfl) dX6_read_13 ⟨(Nat.le_of_ble_eq_true rfl), (Nat.le_of_ble_eq_true rfl)⟩) hP hD hS hA rfl rfl (by decide) (by decide) (by decide) (Nat.le_of_ble_eq_true rfl) (Nat.le_of_ble_eq_true rfl) (fun r13_1 u13_2 H locs hp13_3 hP hD hS => ?_)
    obtain ⟨hp13_4, hp13_5⟩ := hp13_3
    have hp13_4 : rg r13_1 (-1) 256 := hp13_4
    have hp13_5 : 0 ≤ r13_1.toInt → 0 ≤ v0.toInt ∧ v0.toInt < x_k0_2.toInt := hp13_5
    have hP : va_P D vwCl [(k0c, .inl (ct 0, 4096, .inl g_k0c)), (k0, .inr (6, [.ref k0c, .ref k0l, .int x_k0_2])), (k0l, .inl (ct 1, 16, .inl g_k0l))] _ := hP
    have hD : va_D A [(k0c, .inl (ct 0, 4096, .inl g_k0c)), (k0, .inr (6, [.ref k0c, .ref k0l, .int x_k0_2])), (k0l, .inl (ct 1, 16, .inl g_k0l))] := hD
    refine lv_i2l hx hb dX6_read_16 rfl ?_
    refine lv_topl (fun z16_1 ez16_1 => ?_)
    have r16_2 : rl z16_1 (-1) 256 := rl_i2l ez16_1 hp13_4
    refine W.lcmp hx hb dX6_read_17 ?_
    refine lv_topi (fun z17_1 ez17_1 => ?_)
    refine lv_if_le (tgt := 25) hx hb dX6_read_18 (by decide) (fun c18_1 => ?_) (fun c18_1 => ?_)
    · have t18_2 := (l_le ez17_1 c18_1)
      have r18_3 : rl z10_1 (-9223372036854775808) 256 := rl_leA t18_2 (rl_any z10_1) r16_2 (by decide)
      refine lv_lconst (v := 0) hx hb dX6_read_25 (by decide) ?_
      refine lv_lstore (lv' := [(5, .long 0), (0, .ref k0), (1, .int v0), (2, .long v1), (4, .int v2)]) hx hb dX6_read_26 hl (by decide) rfl (fun ls hl => ?_)
      refine lv_iconst (v := 0) hx hb dX6_read_28 (by decide) ?_
      refine lv_istore (lv' := [(7, .int 0), (5, .long 0), (0, .ref k0), (1, .int v0), (2, .long v1), (4, .int v2)]) hx hb dX6_read_29 hl (by decide) rfl (fun ls hl => ?_)
      have b31 : ∀ (n : Nat) (j31_l5 : Int64) (j31_l7 : Int32) (H : Heap) (locs : List Loc) (ls : Array Slot), (rg j31_l7 0 8) → ((2147483647 : Int) - j31_l7.toInt).toNat < n → lv_has ls 8 [(0, .ref k0), (1, .int v0), (2, .long v1), (4, .int v2), (5, .long j31_l5), (7, .int j31_l7)] → va_P D vwCl [(k0c, .inl (ct 0, 4096, .inl g_k0c)), (k0, .inr (6, [.ref k0c, .ref k0l, .int x_k0_2])), (k0l, .inl (ct 1, 16, .inl g_k0l))] H → va_D A [(k0c, .inl (ct 0, 4096, .inl g_k0c)), (k0, .inr (6, [.ref k0c, .ref k0l, .int x_k0_2])), (k0l, .inl (ct 1, 16, .inl g_k0l))] → va_S A s.heap H locs → W p l e ({ frames := 3, cells := 0, slots := 0, locals := 64 }) s m [.ref k0, .int v0, .long v1, .int v2].toArray below meth c H locs 0 0 Q (F0 m 31 ls []) := by
        intro n
        induction n with
        | zero => intros; rename_i hms _ _ _ _; exact absurd hms (Nat.not_lt_zero _)
        | succ n ih =>
          intro j31_l5 j31_l7 H locs ls r31_1001 hms hl hP hD hS
          refine lv_iload hx hb dX6_read_31 (lv_at hl 5 rfl) ?_
          refine lv_iload hx hb dX6_read_33 (lv_at hl 3 rfl) ?_
          refine lv_icmp_ge (tgt := 63) hx hb dX6_read_35 (by decide) (fun c35_1 => ?_) (fun c35_1 => ?_)
          · have t35_2 := (i_le c35_1)
            refine lv_lload hx hb dX6_read_63 (lv_at hl 4 rfl) ?_
            exact endq_l hQ hx hb hr hlocks dX6_read_65 () trivial hP hD hS [1, 2, 0] rfl (by decide) rfl (Nat.le_of_ble_eq_true rfl) (Nat.le_of_ble_eq_true rfl)
          · have t35_2 := (i_nle c35_1)
            have r35_3 : rg j31_l7 0 7 := rg_ltA t35_2 r31_1001 h_v2 (by decide)
            have r35_4 : rg v2 1 8 := rg_ltB t35_2 r31_1001 h_v2 (by decide)
            refine lv_lload hx hb dX6_read_38 (lv_at hl 4 rfl) ?_
            refine lv_bipush (v := 8) hx hb dX6_read_40 (by decide) ?_
            refine lv_lshl hx hb dX6_read_42 rfl ?_
            refine lv_topl (fun z42_1 ez42_1 => ?_)
            refine lv_aload_n hx hb dX6_read_43 rfl (lv_at hl 0 rfl) ?_
            refine lv_iload_n hx hb dX6_read_44 rfl (lv_at hl 1 rfl) ?_
            refine lv_lload_n hx hb dX6_read_45 rfl (lv_at hl 2 rfl) ?_
            refine lv_iload hx hb dX6_read_46 (lv_at hl 5 rfl) ?_
            refine lv_i2l hx hb dX6_read_48 rfl ?_
            refine lv_topl (fun z48_1 ez48_1 => ?_)
            have r48_2 : rl z48_1 0 7 := rl_i2l ez48_1 r35_3
            refine lv_ladd hx hb dX6_read_49 ?_
            refine lv_topl (fun z49_1 ez49_1 => ?_)
            refine go_i (k1 := 0) (n1 := 0) (wr := []) [1, 2, 0] [] (rn_V (As := [.int v0, .long z49_1]) (rest := [.long z42_1]) (c_X6_at l D ct k0 v0 z49_1 k0c k0l x_k0_2 g_k0l g_k0c h_x_k0_2 h_g_k0l h_g_k0c _) (cb_of (n := 2) hn mw_464 mw_3 mw_461 mhX6_at ⟨(Nat.le_of_ble_eq_true rfl), (Nat.le_of_ble_eq_true rfl)⟩) hx hb hml hown hn hK hSK hZ hS mw_463 mw_s5 (ci := 6) (q0 := 0) rfl rfl rfl rfl hl.1 (Nat.le_of_ble_eq_true rfl) dX6_read_50 ⟨(Nat.le_of_ble_eq_true rfl), (Nat.le_of_ble_eq_true rfl)⟩) hP hD hS hA rfl rfl (by decide) (by decide) (by decide) (Nat.le_of_ble_eq_true rfl) (Nat.le_of_ble_eq_true rfl) (fun r50_1 u50_2 H locs hp50_3 hP hD hS => ?_)
            have hp50_4 := hp50_3
            have hp50_4 : rg r50_1 (-1) 255 := hp50_4
            have hP : va_P D vwCl [(k0, .inr (6, [.ref k0c, .ref k0l, .int x_k0_2])), (k0l, .inl (ct 1, 16, .inl g_k0l)), (k0c, .inl (ct 0, 4096, .inl g_k0c))] _ := hP
            have hD : va_D A [(k0, .inr (6, [.ref k0c, .ref k0l, .int x_k0_2])), (k0l, .inl (ct 1, 16, .inl g_k0l)), (k0c, .inl (ct 0, 4096, .inl g_k0c))] := hD
            refine lv_i2l hx hb dX6_read_53 rfl ?_
            refine lv_topl (fun z53_1 ez53_1 => ?_)
            have r53_2 : rl z53_1 (-1) 255 := rl_i2l ez53_1 hp50_4
            refine lv_lor hx hb dX6_read_54 ?_
            refine lv_topl (fun z54_1 ez54_1 => ?_)
            refine lv_lstore (lv' := [(5, .long z54_1), (0, .ref k0), (1, .int v0), (2, .long v1), (4, .int v2), (7, .int j31_l7)]) hx hb dX6_read_55 hl (by decide) rfl (fun ls hl => ?_)
            obtain ⟨x57_1, ex57_1⟩ : ∃ z : Int32, z = j31_l7 + 1 := ⟨_, rfl⟩
            have r57_2 : rg x57_1 1 8 := rg_add ex57_1 r35_3 (show rg (1 : Int32) 1 1 from rg_l (by decide)) (by decide)
            refine lv_iinc (v := x57_1) (lv' := [(7, .int x57_1), (5, .long z54_1), (0, .ref k0), (1, .int v0), (2, .long v1), (4, .int v2)]) hx hb dX6_read_57 hl (k := 5) rfl (by rw [ex57_1]; rfl) (by decide) rfl (fun ls hl => ?_)
            refine lv_goto (tgt := 31) hx hb dX6_read_60 (by decide) ?_
            have hP := hP.sub (ws' := [(k0c, .inl (ct 0, 4096, .inl g_k0c)), (k0, .inr (6, [.ref k0c, .ref k0l, .int x_k0_2])), (k0l, .inl (ct 1, 16, .inl g_k0l))]) [2, 0, 1] rfl
            have hD := hD.sub (ws' := [(k0c, .inl (ct 0, 4096, .inl g_k0c)), (k0, .inr (6, [.ref k0c, .ref k0l, .int x_k0_2])), (k0l, .inl (ct 1, 16, .inl g_k0l))]) [2, 0, 1] (by decide) rfl
            exact ih z54_1 x57_1 H locs ls (rg_w r57_2 (by decide)) (show ((2147483647 : Int) - x57_1.toInt).toNat < n by have q0 := r35_3.1; have q1 := r35_3.2; have q2 := r57_2.1; have q3 := r57_2.2; have q4 := (eq_add ex57_1 r35_3 (show rg (1 : Int32) 1 1 from rg_l (by decide)) (by decide)); have q5 := (show rg (1 : Int32) 1 1 from rg_l (by decide)).1; have q6 := (show rg (1 : Int32) 1 1 from rg_l (by decide)).2; have q7 := r35_4.1; have q8 := r35_4.2; have q9 := t35_2; have q10 := hms; omega) (lv_sub hl [2, 3, 4, 5, 1, 0] rfl) hP hD hS
      exact b31 _ (0 : Int64) (0 : Int32) H locs ls (rg_w (show rg (0 : Int32) 0 0 from rg_l (by decide)) (by decide)) (Nat.lt_succ_self _) (lv_sub hl [2, 3, 4, 5, 1, 0] rfl) hP hD hS
    · have t18_2 := (l_nle ez17_1 c18_1)
      have r18_3 : rl z10_1 0 9223372036854775807 := rl_ltB t18_2 r16_2 (rl_any z10_1) (by decide)
      refine lv_ldc2 (v := (-1)) hx hb hown (hn.get mw_469 rfl) dX6_read_21 ?_
      exact endq_l hQ hx hb hr hlocks dX6_read_24 () trivial hP hD hS [1, 2, 0] rfl (by decide) rfl (Nat.le_of_ble_eq_true rfl) (Nat.le_of_ble_eq_true rfl)
set_option maxHeartbeats 2000000 in
theorem c_X6_add (l : Launch) (D : va_G) (ct : Nat → ClassId) (k0 : Nat) (t0 : Nat) (k0c : Nat) (k0l : Nat) (x_k0_2 : Int32) (t0r : Nat) (x_t0_1 : Int32) (g_k0l : Nat → Int32) (g_t0r : Nat → Int32) (g_k0c : Nat → Int32) (h_x_k0_2 : rg x_k0_2 0 16) (h_x_t0_1 : rg x_t0_1 0 2000) (h_g_k0l : Rg g_k0l 16 0 256) (h_g_t0r : Rg g_t0r 2000 (-128) 127) (h_g_k0c : Rg g_k0c 4096 (-128) 127) : KI (S := Int32 × (Nat → Int32) × (Nat → Int32)) l yX6_add cX6_add 3 (some .int) 2 41 D ct [.ref k0, .ref t0] [(k0, .inr (6, [.ref k0c, .ref k0l, .int x_k0_2])), (t0, .inr (9, [.ref t0r, .int x_t0_1])), (k0l, .inl (ct 1, 16, .inl g_k0l)), (t0r, .inl (ct 0, 2000, .inl g_t0r)), (k0c, .inl (ct 0, 4096, .inl g_k0c))] 0 0 (fun (r : Int32) (u : Int32 × (Nat → Int32) × (Nat → Int32)) => match u with | (y_k0_2, k_k0l, k_k0c) => rg r (-2) 15 ∧ rg y_k0_2 0 16 ∧ Rg k_k0l 16 0 256 ∧ Rg k_k0c 4096 (-128) 127 ∧ (x_k0_2.toInt + 0 ≤ y_k0_2.toInt ∧ y_k0_2.toInt ≤ x_k0_2.toInt + 1)) (fun (u : Int32 × (Nat → Int32) × (Nat → Int32)) => match u with | (y_k0_2, k_k0l, k_k0c) => [(k0, .inr (6, [.ref k0c, .ref k0l, .int y_k0_2])), (t0, .inr (9, [.ref t0r, .int x_t0_1])), (k0l, .inl (ct 1, 16, .inl k_k0l)), (t0r, .inl (ct 0, 2000, .inl g_t0r)), (k0c, .inl (ct 0, 4096, .inl k_k0c))]) := by
  refine KIq_of (by decide) (Nat.le_of_ble_eq_true rfl) (fun p e s m below meth c A Q C0 hA H locs hS hP hD hQ ls hl => ?_)
  obtain ⟨hx, hb, hr, hown, hin, hml, hlocks, hn, hK, hZ, hSK⟩ := C0
  have hl : lv_has ls 3 [(0, .ref k0), (1, .ref t0)] := hl
  refine lv_aload_n hx hb dX6_add_0 rfl (lv_at hl 0 rfl) ?_
  refine va_get (D := D) (ci := 6) (v := .int x_k0_2) (C := RX6) (T := TX6) (N := 3) hx hb (htX6 hn) (fun _ h => h) hown hK hP 0 rfl rfl 2 (by decide) (hn.get mw_63 rfl) (fun _ h9 => h9) rfl dX6_add_1 ?_
  refine lv_bipush (v := 16) hx hb dX6_add_4 (by decide) ?_
  refine lv_icmp_lt (tgt := 11) hx hb dX6_add_6 (by decide) (fun c6_1 => ?_) (fun c6_1 => ?_)
  · have t6_2 := (i_lt c6_1)
    have r6_3 : rg x_k0_2 0 15 := rg_ltA t6_2 h_x_k0_2 (show rg (16 : Int32) 16 16 from rg_l (by decide)) (by decide)
    refine lv_aload_n hx hb dX6_add_11 rfl (lv_at hl 1 rfl) ?_
    refine va_getN (D := D) (ci := 9) (v := .int x_t0_1) (C := RX9) (T := TX9) (N := 2) hx hb (htX9 hn) (fun _ h => h) hown hK hP 1 rfl rfl 1 (by decide) (hn.get mw_46 rfl) (fun _ h9 => h9) rfl dX6_add_12 ?_
    refine lv_sipush (v := 256) hx hb dX6_add_15 (by decide) ?_
    refine lv_icmp_le (tgt := 24) hx hb dX6_add_18 (by decide) (fun c18_1 => ?_) (fun c18_1 => ?_)
    · have t18_2 := (i_le c18_1)
      have r18_3 : rg x_t0_1 0 256 := rg_leA t18_2 h_x_t0_1 (show rg (256 : Int32) 256 256 from rg_l (by decide)) (by decide)
      refine lv_iconst (v := 0) hx hb dX6_add_24 (by decide) ?_
      refine lv_istore_n (lv' := [(2, .int 0), (0, .ref k0), (1, .ref t0)]) hx hb dX6_add_25 rfl hl (by decide) rfl (fun ls hl => ?_)
      have b26 : ∀ (n : Nat) (j26_l2 : Int32) (j26_ck0c : Nat → Int32) (H : Heap) (locs : List Loc) (ls : Array Slot), (rg j26_l2 0 256) → (Rg j26_ck0c 4096 (-128) 127) → ((2147483647 : Int) - j26_l2.toInt).toNat < n → lv_has ls 3 [(0, .ref k0), (1, .ref t0), (2, .int j26_l2)] → va_P D vwCl [(k0, .inr (6, [.ref k0c, .ref k0l, .int x_k0_2])), (t0, .inr (9, [.ref t0r, .int x_t0_1])), (k0l, .inl (ct 1, 16, .inl g_k0l)), (t0r, .inl (ct 0, 2000, .inl g_t0r)), (k0c, .inl (ct 0, 4096, .inl j26_ck0c))] H → va_D A [(k0, .inr (6, [.ref k0c, .ref k0l, .int x_k0_2])), (t0, .inr (9, [.ref t0r, .int x_t0_1])), (k0l, .inl (ct 1, 16, .inl g_k0l)), (t0r, .inl (ct 0, 2000, .inl g_t0r)), (k0c, .inl (ct 0, 4096, .inl j26_ck0c))] → va_S A s.heap H locs → W p l e ({ frames := 2, cells := 0, slots := 0, locals := 41 }) s m [.ref k0, .ref t0].toArray below meth c H locs 0 0 Q (F0 m 26 ls []) := by
        intro n
        induction n with
        | zero => intros; rename_i hms _ _ _ _; exact absurd hms (Nat.not_lt_zero _)
        | succ n ih =>
          intro j26_l2 j26_ck0c H locs ls r26_1001 hc26_1002 hms hl hP hD hS
          refine lv_iload_n hx hb dX6_add_26 rfl (lv_at hl 2 rfl) ?_
          refine lv_aload_n hx hb dX6_add_27 rfl (lv_at hl 1 rfl) ?_
          refine va_getN (D := D) (ci := 9) (v := .int x_t0_1) (C := RX9) (T := TX9) (N := 2) hx hb (htX9 hn) (fun _ h => h) hown hK hP 1 rfl rfl 1 (by decide) (hn.get mw_46 rfl) (fun _ h9 => h9) rfl dX6_add_28 ?_
          refine lv_icmp_ge (tgt := 61) hx hb dX6_add_31 (by decide) (fun c31_1 => ?_) (fun c31_1 => ?_)
          · have t31_2 := (i_le c31_1)
            refine lv_aload_n hx hb dX6_add_61 rfl (lv_at hl 0 rfl) ?_
            refine va_get (D := D) (ci := 6) (v := .ref k0l) (C := RX6) (T := TX6) (N := 3) hx hb (htX6 hn) (fun _ h => h) hown hK hP 0 rfl rfl 1 (by decide) (hn.get mw_62 rfl) (fun _ h9 => h9) rfl dX6_add_62 ?_
            refine lv_aload_n hx hb dX6_add_65 rfl (lv_at hl 0 rfl) ?_
            refine va_get (D := D) (ci := 6) (v := .int x_k0_2) (C := RX6) (T := TX6) (N := 3) hx hb (htX6 hn) (fun _ h => h) hown hK hP 0 rfl rfl 2 (by decide) (hn.get mw_63 rfl) (fun _ h9 => h9) rfl dX6_add_66 ?_
            refine lv_aload_n hx hb dX6_add_69 rfl (lv_at hl 1 rfl) ?_
            refine va_getN (D := D) (ci := 9) (v := .int x_t0_1) (C := RX9) (T := TX9) (N := 2) hx hb (htX9 hn) (fun _ h => h) hown hK hP 1 rfl rfl 1 (by decide) (hn.get mw_46 rfl) (fun _ h9 => h9) rfl dX6_add_70 ?_
            have hi73_1 : vp_in x_k0_2 16 := (in_rg r6_3 (by decide))
            refine va_iast hx hb hK hP hD hS 2 1 rfl rfl hi73_1 dX6_add_73 (fun H locs hP hD hS => ?_)
            have hP : va_P D vwCl [(k0, .inr (6, [.ref k0c, .ref k0l, .int x_k0_2])), (t0, .inr (9, [.ref t0r, .int x_t0_1])), (k0l, .inl (ct 1, 16, .inl (upd g_k0l x_k0_2.toNatClampNeg x_t0_1))), (t0r, .inl (ct 0, 2000, .inl g_t0r)), (k0c, .inl (ct 0, 4096, .inl j26_ck0c))] _ := hP
            have hD : va_D A [(k0, .inr (6, [.ref k0c, .ref k0l, .int x_k0_2])), (t0, .inr (9, [.ref t0r, .int x_t0_1])), (k0l, .inl (ct 1, 16, .inl (upd g_k0l x_k0_2.toNatClampNeg x_t0_1))), (t0r, .inl (ct 0, 2000, .inl g_t0r)), (k0c, .inl (ct 0, 4096, .inl j26_ck0c))] := hD
            obtain ⟨f73_2, ef73_2⟩ : ∃ z, z = (upd g_k0l x_k0_2.toNatClampNeg x_t0_1) := ⟨_, rfl⟩
            rw [← ef73_2] at hP hD
            have hc73_3 : Rg f73_2 16 0 256 := Rg_upd ef73_2 h_g_k0l r18_3
            refine lv_aload_n hx hb dX6_add_74 rfl (lv_at hl 0 rfl) ?_
            refine lv_dup hx hb dX6_add_75 rfl ?_
            refine va_get (D := D) (ci := 6) (v := .int x_k0_2) (C := RX6) (T := TX6) (N := 3) hx hb (htX6 hn) (fun _ h => h) hown hK hP 0 rfl rfl 2 (by decide) (hn.get mw_63 rfl) (fun _ h9 => h9) rfl dX6_add_76 ?_
            refine lv_iconst (v := 1) hx hb dX6_add_79 (by decide) ?_
            refine lv_iadd hx hb dX6_add_80 ?_
            refine lv_topi (fun z80_1 ez80_1 => ?_)
            have r80_2 : rg z80_1 1 16 := rg_add ez80_1 r6_3 (show rg (1 : Int32) 1 1 from rg_l (by decide)) (by decide)
            refine va_put (D := D) (ci := 6) (v := .int z80_1) (ty := .int) (C := RX6) (T := TX6) (N := 3) hx hb (htX6 hn) (fun _ h => h) tyX6 tyX6_ok nmX6 hown hK hP hD hS 0 rfl rfl 2 (by decide) (hn.get mw_63 rfl) (fun _ h9 => h9) rfl (by decide +kernel) rfl rfl (Nat.le_of_ble_eq_true rfl) dX6_add_81 (fun H locs hP hD hS => ?_)
            have hP : va_P D vwCl [(k0, .inr (6, [.ref k0c, .ref k0l, .int z80_1])), (t0, .inr (9, [.ref t0r, .int x_t0_1])), (k0l, .inl (ct 1, 16, .inl f73_2)), (t0r, .inl (ct 0, 2000, .inl g_t0r)), (k0c, .inl (ct 0, 4096, .inl j26_ck0c))] _ := hP
            have hD : va_D A [(k0, .inr (6, [.ref k0c, .ref k0l, .int z80_1])), (t0, .inr (9, [.ref t0r, .int x_t0_1])), (k0l, .inl (ct 1, 16, .inl f73_2)), (t0r, .inl (ct 0, 2000, .inl g_t0r)), (k0c, .inl (ct 0, 4096, .inl j26_ck0c))] := hD
            refine lv_aload_n hx hb dX6_add_84 rfl (lv_at hl 0 rfl) ?_
            refine va_get (D := D) (ci := 6) (v := .int z80_1) (C := RX6) (T := TX6) (N := 3) hx hb (htX6 hn) (fun _ h => h) hown hK hP 0 rfl rfl 2 (by decide) (hn.get mw_63 rfl) (fun _ h9 => h9) rfl dX6_add_85 ?_
            refine lv_iconst (v := 1) hx hb dX6_add_88 (by decide) ?_
            refine lv_isub hx hb dX6_add_89 ?_
            refine lv_topi (fun z89_1 ez89_1 => ?_)
            have r89_2 : rg z89_1 0 15 := rg_sub ez89_1 r80_2 (show rg (1 : Int32) 1 1 from rg_l (by decide)) (by decide)
            exact endq_i hQ hx hb hr hlocks dX6_add_90 rfl (z80_1, f73_2, j26_ck0c) ⟨(rg_w r89_2 (by decide)), (rg_w r80_2 (by decide)), hc73_3, hc26_1002, (show x_k0_2.toInt + 0 ≤ z80_1.toInt ∧ z80_1.toInt ≤ x_k0_2.toInt + 1 by have q0 := r6_3.1; have q1 := r6_3.2; have q2 := r80_2.1; have q3 := r80_2.2; have q4 := (eq_add ez80_1 r6_3 (show rg (1 : Int32) 1 1 from rg_l (by decide)) (by decide)); have q5 := (show rg (1 : Int32) 1 1 from rg_l (by decide)).1; have q6 := (show rg (1 : Int32) 1 1 from rg_l (by decide)).2; have q7 := (show rg (16 : Int32) 16 16 from rg_l (by decide)).1; have q8 := (show rg (16 : Int32) 16 16 from rg_l (by decide)).2; have q9 := t6_2; omega)⟩ hP hD hS [0, 1, 2, 3, 4] rfl (by decide) rfl (Nat.le_of_ble_eq_true rfl) (Nat.le_of_ble_eq_true rfl)
          · have t31_2 := (i_nle c31_1)
            have r31_3 : rg j26_l2 0 255 := rg_ltA t31_2 r26_1001 r18_3 (by decide)
            have r31_4 : rg x_t0_1 1 256 := rg_ltB t31_2 r26_1001 r18_3 (by decide)
            refine lv_aload_n hx hb dX6_add_34 rfl (lv_at hl 0 rfl) ?_
            refine va_get (D := D) (ci := 6) (v := .ref k0c) (C := RX6) (T := TX6) (N := 3) hx hb (htX6 hn) (fun _ h => h) hown hK hP 0 rfl rfl 0 (by decide) (hn.get mw_61 rfl) (fun _ h9 => h9) rfl dX6_add_35 ?_
            refine lv_aload_n hx hb dX6_add_38 rfl (lv_at hl 0 rfl) ?_
            refine va_get (D := D) (ci := 6) (v := .int x_k0_2) (C := RX6) (T := TX6) (N := 3) hx hb (htX6 hn) (fun _ h => h) hown hK hP 0 rfl rfl 2 (by decide) (hn.get mw_63 rfl) (fun _ h9 => h9) rfl dX6_add_39 ?_
            refine lv_sipush (v := 256) hx hb dX6_add_42 (by decide) ?_
            refine lv_imul hx hb dX6_add_45 ?_
            refine lv_topi (fun z45_1 ez45_1 => ?_)
            have r45_2 : rg z45_1 0 3840 := rg_mul ez45_1 r6_3 (show rg (256 : Int32) 256 256 from rg_l (by decide)) (by decide)
            refine lv_iload_n hx hb dX6_add_46 rfl (lv_at hl 2 rfl) ?_
            refine lv_iadd hx hb dX6_add_47 ?_
            refine lv_topi (fun z47_1 ez47_1 => ?_)
            have r47_2 : rg z47_1 0 4095 := rg_add ez47_1 r45_2 r31_3 (by decide)
            refine lv_aload_n hx hb dX6_add_48 rfl (lv_at hl 1 rfl) ?_
            refine lv_iload_n hx hb dX6_add_49 rfl (lv_at hl 2 rfl) ?_
            refine go_i (k1 := 0) (n1 := 0) (wr := [(k0, .inr (6, [.ref k0c, .ref k0l, .int x_k0_2])), (k0l, .inl (ct 1, 16, .inl g_k0l)), (k0c, .inl (ct 0, 4096, .inl j26_ck0c))]) [1, 3] [0, 2, 4] (rn_VN (As := [.int j26_l2]) (rest := [.int z47_1, .ref k0c]) (c_X9_at l D ct t0 j26_l2 t0r x_t0_1 g_t0r (rg_w r31_4 (by decide)) h_g_t0r _) (cn_of (n := 1) hn mw_452 mw_2 mw_449 mhX9_at ⟨(Nat.le_of_ble_eq_true rfl), (Nat.le_of_ble_eq_true rfl)⟩) hx hb hml hown hn hK hSK hZ hS mw_451 mw_s3 (ci := 9) (q0 := 0) rfl rfl rfl rfl hl.1 (Nat.le_of_ble_eq_true rfl) dX6_add_50 ⟨(Nat.le_of_ble_eq_true rfl), (Nat.le_of_ble_eq_true rfl)⟩) hP hD hS hA rfl rfl (by decide) (by decide) (by decide) (Nat.le_of_ble_eq_true rfl) (Nat.le_of_ble_eq_true rfl) (fun r50_1 u50_2 H locs hp50_3 hP hD hS => ?_)
            have hp50_4 := hp50_3
            have hp50_4 : rg r50_1 (-1) 255 := hp50_4
            have hP : va_P D vwCl [(k0, .inr (6, [.ref k0c, .ref k0l, .int x_k0_2])), (k0l, .inl (ct 1, 16, .inl g_k0l)), (k0c, .inl (ct 0, 4096, .inl j26_ck0c)), (t0, .inr (9, [.ref t0r, .int x_t0_1])), (t0r, .inl (ct 0, 2000, .inl g_t0r))] _ := hP
            have hD : va_D A [(k0, .inr (6, [.ref k0c, .ref k0l, .int x_k0_2])), (k0l, .inl (ct 1, 16, .inl g_k0l)), (k0c, .inl (ct 0, 4096, .inl j26_ck0c)), (t0, .inr (9, [.ref t0r, .int x_t0_1])), (t0r, .inl (ct 0, 2000, .inl g_t0r))] := hD
            refine lv_i2b hx hb dX6_add_53 rfl ?_
            refine lv_topi (fun z53_1 ez53_1 => ?_)
            have r53_2 : rg z53_1 (-128) 127 := rg_i2b ez53_1
            have hi54_1 : vp_in z47_1 4096 := (in_rg r47_2 (by decide))
            refine va_bast hx hb hK hP hD hS 2 0 rfl rfl hi54_1 dX6_add_54 (fun H locs hP hD hS => ?_)
            have hP : va_P D vwCl [(k0, .inr (6, [.ref k0c, .ref k0l, .int x_k0_2])), (k0l, .inl (ct 1, 16, .inl g_k0l)), (k0c, .inl (ct 0, 4096, .inl (upd j26_ck0c z47_1.toNatClampNeg (vp_nar .byte z53_1)))), (t0, .inr (9, [.ref t0r, .int x_t0_1])), (t0r, .inl (ct 0, 2000, .inl g_t0r))] _ := hP
            have hD : va_D A [(k0, .inr (6, [.ref k0c, .ref k0l, .int x_k0_2])), (k0l, .inl (ct 1, 16, .inl g_k0l)), (k0c, .inl (ct 0, 4096, .inl (upd j26_ck0c z47_1.toNatClampNeg (vp_nar .byte z53_1)))), (t0, .inr (9, [.ref t0r, .int x_t0_1])), (t0r, .inl (ct 0, 2000, .inl g_t0r))] := hD
            obtain ⟨f54_2, ef54_2⟩ : ∃ z, z = (upd j26_ck0c z47_1.toNatClampNeg (vp_nar .byte z53_1)) := ⟨_, rfl⟩
            rw [← ef54_2] at hP hD
            have hc54_3 : Rg f54_2 4096 (-128) 127 := Rg_upd ef54_2 hc26_1002 (rg_narB z53_1)
            obtain ⟨x55_1, ex55_1⟩ : ∃ z : Int32, z = j26_l2 + 1 := ⟨_, rfl⟩
            have r55_2 : rg x55_1 1 256 := rg_add ex55_1 r31_3 (show rg (1 : Int32) 1 1 from rg_l (by decide)) (by decide)
            refine lv_iinc (v := x55_1) (lv' := [(2, .int x55_1), (0, .ref k0), (1, .ref t0)]) hx hb dX6_add_55 hl (k := 2) rfl (by rw [ex55_1]; rfl) (by decide) rfl (fun ls hl => ?_)
            refine lv_goto (tgt := 26) hx hb dX6_add_58 (by decide) ?_
            have hP := hP.sub (ws' := [(k0, .inr (6, [.ref k0c, .ref k0l, .int x_k0_2])), (t0, .inr (9, [.ref t0r, .int x_t0_1])), (k0l, .inl (ct 1, 16, .inl g_k0l)), (t0r, .inl (ct 0, 2000, .inl g_t0r)), (k0c, .inl (ct 0, 4096, .inl f54_2))]) [0, 3, 1, 4, 2] rfl
            have hD := hD.sub (ws' := [(k0, .inr (6, [.ref k0c, .ref k0l, .int x_k0_2])), (t0, .inr (9, [.ref t0r, .int x_t0_1])), (k0l, .inl (ct 1, 16, .inl g_k0l)), (t0r, .inl (ct 0, 2000, .inl g_t0r)), (k0c, .inl (ct 0, 4096, .inl f54_2))]) [0, 3, 1, 4, 2] (by decide) rfl
            exact ih x55_1 f54_2 H locs ls (rg_w r55_2 (by decide)) hc54_3 (show ((2147483647 : Int) - x55_1.toInt).toNat < n by have q0 := r31_3.1; have q1 := r31_3.2; have q2 := r55_2.1; have q3 := r55_2.2; have q4 := (eq_add ex55_1 r31_3 (show rg (1 : Int32) 1 1 from rg_l (by decide)) (by decide)); have q5 := (show rg (1 : Int32) 1 1 from rg_l (by decide)).1; have q6 := (show rg (1 : Int32) 1 1 from rg_l (by decide)).2; have q7 := r31_4.1; have q8 := r31_4.2; have q9 := (show rg (256 : Int32) 256 256 from rg_l (by decide)).1; have q10 := (show rg (256 : Int32) 256 256 from rg_l (by decide)).2; have q11 := t18_2; have q12 := t31_2; have q13 := hms; omega) (lv_sub hl [1, 2, 0] rfl) hP hD hS
      exact b26 _ (0 : Int32) g_k0c H locs ls (rg_w (show rg (0 : Int32) 0 0 from rg_l (by decide)) (by decide)) h_g_k0c (Nat.lt_succ_self _) (lv_sub hl [1, 2, 0] rfl) hP hD hS
    · have t18_2 := (i_nle c18_1)
      have r18_3 : rg x_t0_1 257 2000 := rg_ltB t18_2 (show rg (256 : Int32) 256 256 from rg_l (by decide)) h_x_t0_1 (by decide)
      refine lv_bipush (v := (-2)) hx hb dX6_add_21 (by decide) ?_
      exact endq_i hQ hx hb hr hlocks dX6_add_23 rfl (x_k0_2, g_k0l, g_k0c) ⟨(rg_w (show rg ((-2) : Int32) (-2) (-2) from rg_l (by decide)) (by decide)), (rg_w r6_3 (by decide)), h_g_k0l, h_g_k0c, (show x_k0_2.toInt + 0 ≤ x_k0_2.toInt ∧ x_k0_2.toInt ≤ x_k0_2.toInt + 1 by have q0 := r6_3.1; have q1 := r6_3.2; have q2 := (show rg (16 : Int32) 16 16 from rg_l (by decide)).1; have q3 := (show rg (16 : Int32) 16 16 from rg_l (by decide)).2; have q4 := t6_2; omega)⟩ hP hD hS [0, 1, 2, 3, 4] rfl (by decide) rfl (Nat.le_of_ble_eq_true rfl) (Nat.le_of_ble_eq_true rfl)
  · have t6_2 := (i_nlt c6_1)
    have r6_3 : rg x_k0_2 16 16 := rg_leB t6_2 (show rg (16 : Int32) 16 16 from rg_l (by decide)) h_x_k0_2 (by decide)
    refine lv_iconst (v := (-1)) hx hb dX6_add_9 (by decide) ?_
    exact endq_i hQ hx hb hr hlocks dX6_add_10 rfl (x_k0_2, g_k0l, g_k0c) ⟨(rg_w (show rg ((-1) : Int32) (-1) (-1) from rg_l (by decide)) (by decide)), (rg_w r6_3 (by decide)), h_g_k0l, h_g_k0c, (show x_k0_2.toInt + 0 ≤ x_k0_2.toInt ∧ x_k0_2.toInt ≤ x_k0_2.toInt + 1 by have q0 := r6_3.1; have q1 := r6_3.2; have q2 := (show rg (16 : Int32) 16 16 from rg_l (by decide)).1; have q3 := (show rg (16 : Int32) 16 16 from rg_l (by decide)).2; have q4 := t6_2; omega)⟩ hP hD hS [0, 1, 2, 3, 4] rfl (by decide) rfl (Nat.le_of_ble_eq_true rfl) (Nat.le_of_ble_eq_true rfl)
set_option maxHeartbeats 2000000 in
theorem c_X4_begin (l : Launch) (D : va_G) (ct : Nat → ClassId) (m0 : Nat) (v0 : Int32) (v1 : Int32) (m0r : Nat) (m0s : Nat) (k0 : Nat) (x_m0_3 : Int32) (x_m0_4 : Int32) (x_m0_5 : Int32) (x_m0_6 : Int32) (x_m0_7 : Int32) (x_m0_8 : Int64) (x_m0_9 : Int32) (g_m0r : Nat → Int64) (g_m0s : Nat → Int32) (h_x_m0_9 : rg x_m0_9 0 1) (h_g_m0s : Rg g_m0s 64 (-128) 127) : KV (S := Int32 × Int32 × (Nat → Int64) × (Nat → Int32)) l yX4_begin cX4_begin 4 none 1 20 D ct [.ref m0, .int v0, .int v1] [(m0, .inr (4, [.ref m0r, .ref m0s, .ref k0, .int x_m0_3, .int x_m0_4, .int x_m0_5, .int x_m0_6, .int x_m0_7, .long x_m0_8, .int x_m0_9])), (m0r, .inl (ct 2, 32, .inr (.inl g_m0r))), (m0s, .inl (ct 0, 64, .inl g_m0s))] 0 0 (fun (u : Int32 × Int32 × (Nat → Int64) × (Nat → Int32)) => match u with | (y_m0_3, y_m0_4, k_m0r, k_m0s) => Rg k_m0s 64 (-128) 127 ∧ (y_m0_3.toInt = v1.toInt) ∧ (y_m0_4.toInt = v0.toInt)) (fun (u : Int32 × Int32 × (Nat → Int64) × (Nat → Int32)) => match u with | (y_m0_3, y_m0_4, k_m0r, k_m0s) => [(m0, .inr (4, [.ref m0r, .ref m0s, .ref k0, .int y_m0_3, .int y_m0_4, .int 0, .int 0, .int 0, .long 1, .int 0])), (m0r, .inl (ct 2, 32, .inr (.inl k_m0r))), (m0s, .inl (ct 0, 64, .inl k_m0s))]) := by
  refine KVq_of (by decide) (Nat.le_of_ble_eq_true rfl) (fun p e s m below meth c A Q C0 hA H locs hS hP hD hQ ls hl => ?_)
  obtain ⟨hx, hb, hr, hown, hin, hml, hlocks, hn, hK, hZ, hSK⟩ := C0
  have hl : lv_has ls 4 [(0, .ref m0), (1, .int v0), (2, .int v1)] := hl
  refine lv_aload_n hx hb dX4_begin_0 rfl (lv_at hl 0 rfl) ?_
  refine lv_iload_n hx hb dX4_begin_1 rfl (lv_at hl 2 rfl) ?_
  refine va_put (D := D) (ci := 4) (v := .int v1) (ty := .int) (C := RX4) (T := TX4) (N := 10) hx hb (htX4 hn) (fun _ h => h) tyX4 tyX4_ok nmX4 hown hK hP hD hS 0 rfl rfl 3 (by decide) (hn.get mw_83 rfl) (fun _ h9 => h9) rfl (by decide +kernel) rfl rfl (Nat.le_of_ble_eq_true rfl) dX4_begin_2 (fun H locs hP hD hS => ?_)
  have hP : va_P D vwCl [(m0, .inr (4, [.ref m0r, .ref m0s, .ref k0, .int v1, .int x_m0_4, .int x_m0_5, .int x_m0_6, .int x_m0_7, .long x_m0_8, .int x_m0_9])), (m0r, .inl (ct 2, 32, .inr (.inl g_m0r))), (m0s, .inl (ct 0, 64, .inl g_m0s))] _ := hP
  have hD : va_D A [(m0, .inr (4, [.ref m0r, .ref m0s, .ref k0, .int v1, .int x_m0_4, .int x_m0_5, .int x_m0_6, .int x_m0_7, .long x_m0_8, .int x_m0_9])), (m0r, .inl (ct 2, 32, .inr (.inl g_m0r))), (m0s, .inl (ct 0, 64, .inl g_m0s))] := hD
  refine lv_aload_n hx hb dX4_begin_5 rfl (lv_at hl 0 rfl) ?_
  refine lv_iload_n hx hb dX4_begin_6 rfl (lv_at hl 1 rfl) ?_
  refine va_put (D := D) (ci := 4) (v := .int v0) (ty := .int) (C := RX4) (T := TX4) (N := 10) hx hb (htX4 hn) (fun _ h => h) tyX4 tyX4_ok nmX4 hown hK hP hD hS 0 rfl rfl 4 (by decide) (hn.get mw_84 rfl) (fun _ h9 => h9) rfl (by decide +kernel) rfl rfl (Nat.le_of_ble_eq_true rfl) dX4_begin_7 (fun H locs hP hD hS => ?_)
  have hP : va_P D vwCl [(m0, .inr (4, [.ref m0r, .ref m0s, .ref k0, .int v1, .int v0, .int x_m0_5, .int x_m0_6, .int x_m0_7, .long x_m0_8, .int x_m0_9])), (m0r, .inl (ct 2, 32, .inr (.inl g_m0r))), (m0s, .inl (ct 0, 64, .inl g_m0s))] _ := hP
  have hD : va_D A [(m0, .inr (4, [.ref m0r, .ref m0s, .ref k0, .int v1, .int v0, .int x_m0_5, .int x_m0_6, .int x_m0_7, .long x_m0_8, .int x_m0_9])), (m0r, .inl (ct 2, 32, .inr (.inl g_m0r))), (m0s, .inl (ct 0, 64, .inl g_m0s))] := hD
  refine lv_iconst (v := 0) hx hb dX4_begin_10 (by decide) ?_
  refine lv_istore_n (lv' := [(3, .int 0), (0, .ref m0), (1, .int v0), (2, .int v1)]) hx hb dX4_begin_11 rfl hl (by decide) rfl (fun ls hl => ?_)
  have b12 : ∀ (n : Nat) (j12_l3 : Int32) (j12_cm0r : Nat → Int64) (H : Heap) (locs : List Loc) (ls : Array Slot), (rg j12_l3 0 2147483647) → ((2147483647 : Int) - j12_l3.toInt).toNat < n → lv_has ls 4 [(0, .ref m0), (3, .int j12_l3)] → va_P D vwCl [(m0, .inr (4, [.ref m0r, .ref m0s, .ref k0, .int v1, .int v0, .int x_m0_5, .int x_m0_6, .int x_m0_7, .long x_m0_8, .int x_m0_9])), (m0r, .inl (ct 2, 32, .inr (.inl j12_cm0r))), (m0s, .inl (ct 0, 64, .inl g_m0s))] H → va_D A [(m0, .inr (4, [.ref m0r, .ref m0s, .ref k0, .int v1, .int v0, .int x_m0_5, .int x_m0_6, .int x_m0_7, .long x_m0_8, .int x_m0_9])), (m0r, .inl (ct 2, 32, .inr (.inl j12_cm0r))), (m0s, .inl (ct 0, 64, .inl g_m0s))] → va_S A s.heap H locs → W p l e ({ frames := 1, cells := 0, slots := 0, locals := 20 }) s m [.ref m0, .int v0, .int v1].toArray below meth c H locs 0 0 Q (F0 m 12 ls []) := by
    intro n
    induction n with
    | zero => intros; rename_i hms _ _ _ _; exact absurd hms (Nat.not_lt_zero _)
    | succ n ih =>
      intro j12_l3 j12_cm0r H locs ls r12_1001 hms hl hP hD hS
      refine lv_iload_n hx hb dX4_begin_12 rfl (lv_at hl 1 rfl) ?_
      refine lv_aload_n hx hb dX4_begin_13 rfl (lv_at hl 0 rfl) ?_
      refine va_get (D := D) (ci := 4) (v := .ref m0r) (C := RX4) (T := TX4) (N := 10) hx hb (htX4 hn) (fun _ h => h) hown hK hP 0 rfl rfl 0 (by decide) (hn.get mw_79 rfl) (fun _ h9 => h9) rfl dX4_begin_14 ?_
      refine va_alen (v := 32) hx hb hK hP 1 2 rfl rfl (show Int32.ofNat 32 = 32 by decide) dX4_begin_17 ?_
      refine lv_icmp_ge (tgt := 34) hx hb dX4_begin_18 (by decide) (fun c18_1 => ?_) (fun c18_1 => ?_)
      · have t18_2 := (i_le c18_1)
        have r18_3 : rg j12_l3 32 2147483647 := rg_leB t18_2 (show rg (32 : Int32) 32 32 from rg_l (by decide)) r12_1001 (by decide)
        refine lv_iconst (v := 0) hx hb dX4_begin_34 (by decide) ?_
        refine lv_istore_n (lv' := [(3, .int 0), (0, .ref m0)]) hx hb dX4_begin_35 rfl hl (by decide) rfl (fun ls hl => ?_)
        have b36 : ∀ (n : Nat) (j36_l3 : Int32) (j36_cm0s : Nat → Int32) (H : Heap) (locs : List Loc) (ls : Array Slot), (rg j36_l3 0 2147483647) → (Rg j36_cm0s 64 (-128) 127) → ((2147483647 : Int) - j36_l3.toInt).toNat < n → lv_has ls 4 [(0, .ref m0), (3, .int j36_l3)] → va_P D vwCl [(m0, .inr (4, [.ref m0r, .ref m0s, .ref k0, .int v1, .int v0, .int x_m0_5, .int x_m0_6, .int x_m0_7, .long x_m0_8, .int x_m0_9])), (m0r, .inl (ct 2, 32, .inr (.inl j12_cm0r))), (m0s, .inl (ct 0, 64, .inl j36_cm0s))] H → va_D A [(m0, .inr (4, [.ref m0r, .ref m0s, .ref k0, .int v1, .int v0, .int x_m0_5, .int x_m0_6, .int x_m0_7, .long x_m0_8, .int x_m0_9])), (m0r, .inl (ct 2, 32, .inr (.inl j12_cm0r))), (m0s, .inl (ct 0, 64, .inl j36_cm0s))] → va_S A s.heap H locs → W p l e ({ frames := 1, cells := 0, slots := 0, locals := 20 }) s m [.ref m0, .int v0, .int v1].toArray below meth c H locs 0 0 Q (F0 m 36 ls []) := by
          intro n
          induction n with
          | zero => intros; rename_i hms _ _ _ _; exact absurd hms (Nat.not_lt_zero _)
          | succ n ih =>
            intro j36_l3 j36_cm0s H locs ls r36_1001 hc36_1002 hms hl hP hD hS
            refine lv_iload_n hx hb dX4_begin_36 rfl (lv_at hl 1 rfl) ?_
            refine lv_aload_n hx hb dX4_begin_37 rfl (lv_at hl 0 rfl) ?_
            refine va_get (D := D) (ci := 4) (v := .ref m0s) (C := RX4) (T := TX4) (N := 10) hx hb (htX4 hn) (fun _ h => h) hown hK hP 0 rfl rfl 1 (by decide) (hn.get mw_80 rfl) (fun _ h9 => h9) rfl dX4_begin_38 ?_
            refine va_alen (v := 64) hx hb hK hP 2 0 rfl rfl (show Int32.ofNat 64 = 64 by decide) dX4_begin_41 ?_
            refine lv_icmp_ge (tgt := 58) hx hb dX4_begin_42 (by decide) (fun c42_1 => ?_) (fun c42_1 => ?_)
            · have t42_2 := (i_le c42_1)
              have r42_3 : rg j36_l3 64 2147483647 := rg_leB t42_2 (show rg (64 : Int32) 64 64 from rg_l (by decide)) r36_1001 (by decide)
              refine lv_aload_n hx hb dX4_begin_58 rfl (lv_at hl 0 rfl) ?_
              refine lv_iconst (v := 0) hx hb dX4_begin_59 (by decide) ?_
              refine va_put (D := D) (ci := 4) (v := .int 0) (ty := .int) (C := RX4) (T := TX4) (N := 10) hx hb (htX4 hn) (fun _ h => h) tyX4 tyX4_ok nmX4 hown hK hP hD hS 0 rfl rfl 5 (by decide) (hn.get mw_86 rfl) (fun _ h9 => h9) rfl (by decide +kernel) rfl rfl (Nat.le_of_ble_eq_true rfl) dX4_begin_60 (fun H locs hP hD hS => ?_)
              have hP : va_P D vwCl [(m0, .inr (4, [.ref m0r, .ref m0s, .ref k0, .int v1, .int v0, .int 0, .int x_m0_6, .int x_m0_7, .long x_m0_8, .int x_m0_9])), (m0r, .inl (ct 2, 32, .inr (.inl j12_cm0r))), (m0s, .inl (ct 0, 64, .inl j36_cm0s))] _ := hP
              have hD : va_D A [(m0, .inr (4, [.ref m0r, .ref m0s, .ref k0, .int v1, .int v0, .int 0, .int x_m0_6, .int x_m0_7, .long x_m0_8, .int x_m0_9])), (m0r, .inl (ct 2, 32, .inr (.inl j12_cm0r))), (m0s, .inl (ct 0, 64, .inl j36_cm0s))] := hD
              refine lv_aload_n hx hb dX4_begin_63 rfl (lv_at hl 0 rfl) ?_
              refine lv_iconst (v := 0) hx hb dX4_begin_64 (by decide) ?_
              refine va_put (D := D) (ci := 4) (v := .int 0) (ty := .int) (C := RX4) (T := TX4) (N := 10) hx hb (htX4 hn) (fun _ h => h) tyX4 tyX4_ok nmX4 hown hK hP hD hS 0 rfl rfl 6 (by decide) (hn.get mw_90 rfl) (fun _ h9 => h9) rfl (by decide +kernel) rfl rfl (Nat.le_of_ble_eq_true rfl) dX4_begin_65 (fun H locs hP hD hS => ?_)
              have hP : va_P D vwCl [(m0, .inr (4, [.ref m0r, .ref m0s, .ref k0, .int v1, .int v0, .int 0, .int 0, .int x_m0_7, .long x_m0_8, .int x_m0_9])), (m0r, .inl (ct 2, 32, .inr (.inl j12_cm0r))), (m0s, .inl (ct 0, 64, .inl j36_cm0s))] _ := hP
              have hD : va_D A [(m0, .inr (4, [.ref m0r, .ref m0s, .ref k0, .int v1, .int v0, .int 0, .int 0, .int x_m0_7, .long x_m0_8, .int x_m0_9])), (m0r, .inl (ct 2, 32, .inr (.inl j12_cm0r))), (m0s, .inl (ct 0, 64, .inl j36_cm0s))] := hD
              refine lv_aload_n hx hb dX4_begin_68 rfl (lv_at hl 0 rfl) ?_
              refine lv_iconst (v := 0) hx hb dX4_begin_69 (by decide) ?_
              refine va_put (D := D) (ci := 4) (v := .int 0) (ty := .int) (C := RX4) (T := TX4) (N := 10) hx hb (htX4 hn) (fun _ h => h) tyX4 tyX4_ok nmX4 hown hK hP hD hS 0 rfl rfl 7 (by decide) (hn.get mw_92 rfl) (fun _ h9 => h9) rfl (by decide +kernel) rfl rfl (Nat.le_of_ble_eq_true rfl) dX4_begin_70 (fun H locs hP hD hS => ?_)
              have hP : va_P D vwCl [(m0, .inr (4, [.ref m0r, .ref m0s, .ref k0, .int v1, .int v0, .int 0, .int 0, .int 0, .long x_m0_8, .int x_m0_9])), (m0r, .inl (ct 2, 32, .inr (.inl j12_cm0r))), (m0s, .inl (ct 0, 64, .inl j36_cm0s))] _ := hP
              have hD : va_D A [(m0, .inr (4, [.ref m0r, .ref m0s, .ref k0, .int v1, .int v0, .int 0, .int 0, .int 0, .long x_m0_8, .int x_m0_9])), (m0r, .inl (ct 2, 32, .inr (.inl j12_cm0r))), (m0s, .inl (ct 0, 64, .inl j36_cm0s))] := hD
              refine lv_aload_n hx hb dX4_begin_73 rfl (lv_at hl 0 rfl) ?_
              refine lv_lconst (v := 1) hx hb dX4_begin_74 (by decide) ?_
              refine va_put (D := D) (ci := 4) (v := .long 1) (ty := .long) (C := RX4) (T := TX4) (N := 10) hx hb (htX4 hn) (fun _ h => h) tyX4 tyX4_ok nmX4 hown hK hP hD hS 0 rfl rfl 8 (by decide) (hn.get mw_96 rfl) (fun _ h9 => h9) rfl (by decide +kernel) rfl rfl (Nat.le_of_ble_eq_true rfl) dX4_begin_75 (fun H locs hP hD hS => ?_)
              have hP : va_P D vwCl [(m0, .inr (4, [.ref m0r, .ref m0s, .ref k0, .int v1, .int v0, .int 0, .int 0, .int 0, .long 1, .int x_m0_9])), (m0r, .inl (ct 2, 32, .inr (.inl j12_cm0r))), (m0s, .inl (ct 0, 64, .inl j36_cm0s))] _ := hP
              have hD : va_D A [(m0, .inr (4, [.ref m0r, .ref m0s, .ref k0, .int v1, .int v0, .int 0, .int 0, .int 0, .long 1, .int x_m0_9])), (m0r, .inl (ct 2, 32, .inr (.inl j12_cm0r))), (m0s, .inl (ct 0, 64, .inl j36_cm0s))] := hD
              refine lv_aload_n hx hb dX4_begin_78 rfl (lv_at hl 0 rfl) ?_
              refine lv_iconst (v := 0) hx hb dX4_begin_79 (by decide) ?_
              refine va_put (D := D) (ci := 4) (v := .int 0) (ty := .boolean) (C := RX4) (T := TX4) (N := 10) hx hb (htX4 hn) (fun _ h => h) tyX4 tyX4_ok nmX4 hown hK hP hD hS 0 rfl rfl 9 (by decide) (hn.get mw_99 rfl) (fun _ h9 => h9) rfl (by decide +kernel) (by decide) rfl (Nat.le_of_ble_eq_true rfl) dX4_begin_80 (fun H locs hP hD hS => ?_)
              have hP : va_P D vwCl [(m0, .inr (4, [.ref m0r, .ref m0s, .ref k0, .int v1, .int v0, .int 0, .int 0, .int 0, .long 1, .int 0])), (m0r, .inl (ct 2, 32, .inr (.inl j12_cm0r))), (m0s, .inl (ct 0, 64, .inl j36_cm0s))] _ := hP
              have hD : va_D A [(m0, .inr (4, [.ref m0r, .ref m0s, .ref k0, .int v1, .int v0, .int 0, .int 0, .int 0, .long 1, .int 0])), (m0r, .inl (ct 2, 32, .inr (.inl j12_cm0r))), (m0s, .inl (ct 0, 64, .inl j36_cm0s))] := hD
              exact endq_v hQ hx hb hr hlocks dX4_begin_83 (v1, v0, j12_cm0r, j36_cm0s) ⟨hc36_1002, (show v1.toInt = v1.toInt by have q0 := (rg_any v1).1; have q1 := (rg_any v1).2; omega), (show v0.toInt = v0.toInt by have q0 := (rg_any v0).1; have q1 := (rg_any v0).2; omega)⟩ hP hD hS [0, 1, 2] rfl (by decide) rfl (Nat.le_of_ble_eq_true rfl) (Nat.le_of_ble_eq_true rfl)
            · have t42_2 := (i_nle c42_1)
              have r42_3 : rg j36_l3 0 63 := rg_ltA t42_2 r36_1001 (show rg (64 : Int32) 64 64 from rg_l (by decide)) (by decide)
              refine lv_aload_n hx hb dX4_begin_45 rfl (lv_at hl 0 rfl) ?_
              refine va_get (D := D) (ci := 4) (v := .ref m0s) (C := RX4) (T := TX4) (N := 10) hx hb (htX4 hn) (fun _ h => h) hown hK hP 0 rfl rfl 1 (by decide) (hn.get mw_80 rfl) (fun _ h9 => h9) rfl dX4_begin_46 ?_
              refine lv_iload_n hx hb dX4_begin_49 rfl (lv_at hl 1 rfl) ?_
              refine lv_iconst (v := 0) hx hb dX4_begin_50 (by decide) ?_
              have hi51_1 : vp_in j36_l3 64 := (in_rg r42_3 (by decide))
              refine va_bast hx hb hK hP hD hS 2 0 rfl rfl hi51_1 dX4_begin_51 (fun H locs hP hD hS => ?_)
              have hP : va_P D vwCl [(m0, .inr (4, [.ref m0r, .ref m0s, .ref k0, .int v1, .int v0, .int x_m0_5, .int x_m0_6, .int x_m0_7, .long x_m0_8, .int x_m0_9])), (m0r, .inl (ct 2, 32, .inr (.inl j12_cm0r))), (m0s, .inl (ct 0, 64, .inl (upd j36_cm0s j36_l3.toNatClampNeg (vp_nar .byte 0))))] _ := hP
              have hD : va_D A [(m0, .inr (4, [.ref m0r, .ref m0s, .ref k0, .int v1, .int v0, .int x_m0_5, .int x_m0_6, .int x_m0_7, .long x_m0_8, .int x_m0_9])), (m0r, .inl (ct 2, 32, .inr (.inl j12_cm0r))), (m0s, .inl (ct 0, 64, .inl (upd j36_cm0s j36_l3.toNatClampNeg (vp_nar .byte 0))))] := hD
              obtain ⟨f51_2, ef51_2⟩ : ∃ z, z = (upd j36_cm0s j36_l3.toNatClampNeg (vp_nar .byte 0)) := ⟨_, rfl⟩
              rw [← ef51_2] at hP hD
              have hc51_3 : Rg f51_2 64 (-128) 127 := Rg_upd ef51_2 hc36_1002 (rg_narB 0)
              obtain ⟨x52_1, ex52_1⟩ : ∃ z : Int32, z = j36_l3 + 1 := ⟨_, rfl⟩
              have r52_2 : rg x52_1 1 64 := rg_add ex52_1 r42_3 (show rg (1 : Int32) 1 1 from rg_l (by decide)) (by decide)
              refine lv_iinc (v := x52_1) (lv' := [(3, .int x52_1), (0, .ref m0)]) hx hb dX4_begin_52 hl (k := 1) rfl (by rw [ex52_1]; rfl) (by decide) rfl (fun ls hl => ?_)
              refine lv_goto (tgt := 36) hx hb dX4_begin_55 (by decide) ?_
              exact ih x52_1 f51_2 H locs ls (rg_w r52_2 (by decide)) hc51_3 (show ((2147483647 : Int) - x52_1.toInt).toNat < n by have q0 := r42_3.1; have q1 := r42_3.2; have q2 := r52_2.1; have q3 := r52_2.2; have q4 := (eq_add ex52_1 r42_3 (show rg (1 : Int32) 1 1 from rg_l (by decide)) (by decide)); have q5 := (show rg (1 : Int32) 1 1 from rg_l (by decide)).1; have q6 := (show rg (1 : Int32) 1 1 from rg_l (by decide)).2; have q7 := (show rg (64 : Int32) 64 64 from rg_l (by decide)).1; have q8 := (show rg (64 : Int32) 64 64 from rg_l (by decide)).2; have q9 := t42_2; have q10 := hms; omega) (lv_sub hl [1, 0] rfl) hP hD hS
        exact b36 _ (0 : Int32) g_m0s H locs ls (rg_w (show rg (0 : Int32) 0 0 from rg_l (by decide)) (by decide)) h_g_m0s (Nat.lt_succ_self _) (lv_sub hl [1, 0] rfl) hP hD hS
      · have t18_2 := (i_nle c18_1)
        have r18_3 : rg j12_l3 0 31 := rg_ltA t18_2 r12_1001 (show rg (32 : Int32) 32 32 from rg_l (by decide)) (by decide)
        refine lv_aload_n hx hb dX4_begin_21 rfl (lv_at hl 0 rfl) ?_
        refine va_get (D := D) (ci := 4) (v := .ref m0r) (C := RX4) (T := TX4) (N := 10) hx hb (htX4 hn) (fun _ h => h) hown hK hP 0 rfl rfl 0 (by decide) (hn.get mw_79 rfl) (fun _ h9 => h9) rfl dX4_begin_22 ?_
        refine lv_iload_n hx hb dX4_begin_25 rfl (lv_at hl 1 rfl) ?_
        refine lv_lconst (v := 0) hx hb dX4_begin_26 (by decide) ?_
        have hi27_1 : vp_in j12_l3 32 := (in_rg r18_3 (by decide))
        refine va_last hx hb hK hP hD hS 1 2 rfl rfl hi27_1 dX4_begin_27 (fun H locs hP hD hS => ?_)
        have hP : va_P D vwCl [(m0, .inr (4, [.ref m0r, .ref m0s, .ref k0, .int v1, .int v0, .int x_m0_5, .int x_m0_6, .int x_m0_7, .long x_m0_8, .int x_m0_9])), (m0r, .inl (ct 2, 32, .inr (.inl (vp_updL j12_cm0r j12_l3.toNatClampNeg 0)))), (m0s, .inl (ct 0, 64, .inl g_m0s))] _ := hP
        have hD : va_D A [(m0, .inr (4, [.ref m0r, .ref m0s, .ref k0, .int v1, .int v0, .int x_m0_5, .int x_m0_6, .int x_m0_7, .long x_m0_8, .int x_m0_9])), (m0r, .inl (ct 2, 32, .inr (.inl (vp_updL j12_cm0r j12_l3.toNatClampNeg 0)))), (m0s, .inl (ct 0, 64, .inl g_m0s))] := hD
        obtain ⟨f27_2, ef27_2⟩ : ∃ z, z = (vp_updL j12_cm0r j12_l3.toNatClampNeg 0) := ⟨_, rfl⟩
        rw [← ef27_2] at hP hD
        obtain ⟨x28_1, ex28_1⟩ : ∃ z : Int32, z = j12_l3 + 1 := ⟨_, rfl⟩
        have r28_2 : rg x28_1 1 32 := rg_add ex28_1 r18_3 (show rg (1 : Int32) 1 1 from rg_l (by decide)) (by decide)
        refine lv_iinc (v := x28_1) (lv' := [(3, .int x28_1), (0, .ref m0)]) hx hb dX4_begin_28 hl (k := 1) rfl (by rw [ex28_1]; rfl) (by decide) rfl (fun ls hl => ?_)
        refine lv_goto (tgt := 12) hx hb dX4_begin_31 (by decide) ?_
        exact ih x28_1 f27_2 H locs ls (rg_w r28_2 (by decide)) (show ((2147483647 : Int) - x28_1.toInt).toNat < n by have q0 := r18_3.1; have q1 := r18_3.2; have q2 := r28_2.1; have q3 := r28_2.2; have q4 := (eq_add ex28_1 r18_3 (show rg (1 : Int32) 1 1 from rg_l (by decide)) (by decide)); have q5 := (show rg (1 : Int32) 1 1 from rg_l (by decide)).1; have q6 := (show rg (1 : Int32) 1 1 from rg_l (by decide)).2; have q7 := (show rg (32 : Int32) 32 32 from rg_l (by decide)).1; have q8 := (show rg (32 : Int32) 32 32 from rg_l (by decide)).2; have q9 := t18_2; have q10 := hms; omega) (lv_sub hl [1, 0] rfl) hP hD hS
  exact b12 _ (0 : Int32) g_m0r H locs ls (rg_w (show rg (0 : Int32) 0 0 from rg_l (by decide)) (by decide)) (Nat.lt_succ_self _) (lv_sub hl [1, 0] rfl) hP hD hS
set_option maxHeartbeats 2000000 in
theorem c_X4_get (l : Launch) (D : va_G) (ct : Nat → ClassId) (m0 : Nat) (v0 : Int32) (m0r : Nat) (m0s : Nat) (k0 : Nat) (x_m0_3 : Int32) (x_m0_4 : Int32) (x_m0_5 : Int32) (x_m0_6 : Int32) (x_m0_7 : Int32) (x_m0_8 : Int64) (x_m0_9 : Int32) (g_m0r : Nat → Int64) (h_x_m0_9 : rg x_m0_9 0 1) : KL (S := Unit) l yX4_get cX4_get 2 (some .long) 1 20 D ct [.ref m0, .int v0] [(m0, .inr (4, [.ref m0r, .ref m0s, .ref k0, .int x_m0_3, .int x_m0_4, .int x_m0_5, .int x_m0_6, .int x_m0_7, .long x_m0_8, .int x_m0_9])), (m0r, .inl (ct 2, 32, .inr (.inl g_m0r)))] 0 0 (fun (r : Int64) (_ : Unit) => True) (fun (_ : Unit) => [(m0, .inr (4, [.ref m0r, .ref m0s, .ref k0, .int x_m0_3, .int x_m0_4, .int x_m0_5, .int x_m0_6, .int x_m0_7, .long x_m0_8, .int x_m0_9])), (m0r, .inl (ct 2, 32, .inr (.inl g_m0r)))]) := by
  refine KLq_of (by decide) (Nat.le_of_ble_eq_true rfl) (fun p e s m below meth c A Q C0 hA H locs hS hP hD hQ ls hl => ?_)
  obtain ⟨hx, hb, hr, hown, hin, hml, hlocks, hn, hK, hZ, hSK⟩ := C0
  have hl : lv_has ls 2 [(0, .ref m0), (1, .int v0)] := hl
  refine lv_iload_n hx hb dX4_get_0 rfl (lv_at hl 1 rfl) ?_
  refine lv_if_lt (tgt := 13) hx hb dX4_get_1 (by decide) (fun c1_1 => ?_) (fun c1_1 => ?_)
  · have t1_2 := (i_lt c1_1)
    have r1_3 : rg v0 (-2147483648) (-1) := rg_ltA t1_2 (rg_any v0) (show rg (0 : Int32) 0 0 from rg_l (by decide)) (by decide)
    refine lv_lconst (v := 0) hx hb dX4_get_13 (by decide) ?_
    refine lv_goto (tgt := 23) hx hb dX4_get_14 (by decide) ?_
    exact endq_l hQ hx hb hr hlocks dX4_get_23 () trivial hP hD hS [0, 1] rfl (by decide) rfl (Nat.le_of_ble_eq_true rfl) (Nat.le_of_ble_eq_true rfl)
  · have t1_2 := (i_nlt c1_1)
    have r1_3 : rg v0 0 2147483647 := rg_leB t1_2 (show rg (0 : Int32) 0 0 from rg_l (by decide)) (rg_any v0) (by decide)
    refine lv_iload_n hx hb dX4_get_4 rfl (lv_at hl 1 rfl) ?_
    refine lv_aload_n hx hb dX4_get_5 rfl (lv_at hl 0 rfl) ?_
    refine va_get (D := D) (ci := 4) (v := .ref m0r) (C := RX4) (T := TX4) (N := 10) hx hb (htX4 hn) (fun _ h => h) hown hK hP 0 rfl rfl 0 (by decide) (hn.get mw_79 rfl) (fun _ h9 => h9) rfl dX4_get_6 ?_
    refine va_alen (v := 32) hx hb hK hP 1 2 rfl rfl (show Int32.ofNat 32 = 32 by decide) dX4_get_9 ?_
    refine lv_icmp_lt (tgt := 17) hx hb dX4_get_10 (by decide) (fun c10_1 => ?_) (fun c10_1 => ?_)
    · have t10_2 := (i_lt c10_1)
      have r10_3 : rg v0 0 31 := rg_ltA t10_2 r1_3 (show rg (32 : Int32) 32 32 from rg_l (by decide)) (by decide)
      refine lv_aload_n hx hb dX4_get_17 rfl (lv_at hl 0 rfl) ?_
      refine va_get (D := D) (ci := 4) (v := .ref m0r) (C := RX4) (T := TX4) (N := 10) hx hb (htX4 hn) (fun _ h => h) hown hK hP 0 rfl rfl 0 (by decide) (hn.get mw_79 rfl) (fun _ h9 => h9) rfl dX4_get_18 ?_
      refine lv_iload_n hx hb dX4_get_21 rfl (lv_at hl 1 rfl) ?_
      have hi22_1 : vp_in v0 32 := (in_rg r10_3 (by decide))
      refine va_lald hx hb hK hP 1 2 rfl rfl hi22_1 dX4_get_22 ?_
      refine lv_topl (fun z22_2 ez22_2 => ?_)
      exact endq_l hQ hx hb hr hlocks dX4_get_23 () trivial hP hD hS [0, 1] rfl (by decide) rfl (Nat.le_of_ble_eq_true rfl) (Nat.le_of_ble_eq_true rfl)
    · have t10_2 := (i_nlt c10_1)
      have r10_3 : rg v0 32 2147483647 := rg_leB t10_2 (show rg (32 : Int32) 32 32 from rg_l (by decide)) r1_3 (by decide)
      refine lv_lconst (v := 0) hx hb dX4_get_13 (by decide) ?_
      refine lv_goto (tgt := 23) hx hb dX4_get_14 (by decide) ?_
      exact endq_l hQ hx hb hr hlocks dX4_get_23 () trivial hP hD hS [0, 1] rfl (by decide) rfl (Nat.le_of_ble_eq_true rfl) (Nat.le_of_ble_eq_true rfl)
set_option maxHeartbeats 2000000 in
theorem c_X4_set (l : Launch) (D : va_G) (ct : Nat → ClassId) (m0 : Nat) (v0 : Int32) (v1 : Int64) (m0r : Nat) (m0s : Nat) (k0 : Nat) (x_m0_3 : Int32) (x_m0_4 : Int32) (x_m0_5 : Int32) (x_m0_6 : Int32) (x_m0_7 : Int32) (x_m0_8 : Int64) (x_m0_9 : Int32) (g_m0r : Nat → Int64) (h_x_m0_9 : rg x_m0_9 0 1) : KV (S := (Nat → Int64)) l yX4_set cX4_set 4 none 1 20 D ct [.ref m0, .int v0, .long v1] [(m0, .inr (4, [.ref m0r, .ref m0s, .ref k0, .int x_m0_3, .int x_m0_4, .int x_m0_5, .int x_m0_6, .int x_m0_7, .long x_m0_8, .int x_m0_9])), (m0r, .inl (ct 2, 32, .inr (.inl g_m0r)))] 0 0 (fun (k_m0r : (Nat → Int64)) => True) (fun (k_m0r : (Nat → Int64)) => [(m0, .inr (4, [.ref m0r, .ref m0s, .ref k0, .int x_m0_3, .int x_m0_4, .int x_m0_5, .int x_m0_6, .int x_m0_7, .long x_m0_8, .int x_m0_9])), (m0r, .inl (ct 2, 32, .inr (.inl k_m0r)))]) := by
  refine KVq_of (by decide) (Nat.le_of_ble_eq_true rfl) (fun p e s m below meth c A Q C0 hA H locs hS hP hD hQ ls hl => ?_)
  obtain ⟨hx, hb, hr, hown, hin, hml, hlocks, hn, hK, hZ, hSK⟩ := C0
  have hl : lv_has ls 4 [(0, .ref m0), (1, .int v0), (2, .long v1)] := hl
  refine lv_iload_n hx hb dX4_set_0 rfl (lv_at hl 1 rfl) ?_
  refine lv_if_lt (tgt := 20) hx hb dX4_set_1 (by decide) (fun c1_1 => ?_) (fun c1_1 => ?_)
  · have t1_2 := (i_lt c1_1)
    have r1_3 : rg v0 (-2147483648) (-1) := rg_ltA t1_2 (rg_any v0) (show rg (0 : Int32) 0 0 from rg_l (by decide)) (by decide)
    exact endq_v hQ hx hb hr hlocks dX4_set_20 g_m0r trivial hP hD hS [0, 1] rfl (by decide) rfl (Nat.le_of_ble_eq_true rfl) (Nat.le_of_ble_eq_true rfl)
  · have t1_2 := (i_nlt c1_1)
    have r1_3 : rg v0 0 2147483647 := rg_leB t1_2 (show rg (0 : Int32) 0 0 from rg_l (by decide)) (rg_any v0) (by decide)
    refine lv_iload_n hx hb dX4_set_4 rfl (lv_at hl 1 rfl) ?_
    refine lv_aload_n hx hb dX4_set_5 rfl (lv_at hl 0 rfl) ?_
    refine va_get (D := D) (ci := 4) (v := .ref m0r) (C := RX4) (T := TX4) (N := 10) hx hb (htX4 hn) (fun _ h => h) hown hK hP 0 rfl rfl 0 (by decide) (hn.get mw_79 rfl) (fun _ h9 => h9) rfl dX4_set_6 ?_
    refine va_alen (v := 32) hx hb hK hP 1 2 rfl rfl (show Int32.ofNat 32 = 32 by decide) dX4_set_9 ?_
    refine lv_icmp_ge (tgt := 20) hx hb dX4_set_10 (by decide) (fun c10_1 => ?_) (fun c10_1 => ?_)
    · have t10_2 := (i_le c10_1)
      have r10_3 : rg v0 32 2147483647 := rg_leB t10_2 (show rg (32 : Int32) 32 32 from rg_l (by decide)) r1_3 (by decide)
      exact endq_v hQ hx hb hr hlocks dX4_set_20 g_m0r trivial hP hD hS [0, 1] rfl (by decide) rfl (Nat.le_of_ble_eq_true rfl) (Nat.le_of_ble_eq_true rfl)
    · have t10_2 := (i_nle c10_1)
      have r10_3 : rg v0 0 31 := rg_ltA t10_2 r1_3 (show rg (32 : Int32) 32 32 from rg_l (by decide)) (by decide)
      refine lv_aload_n hx hb dX4_set_13 rfl (lv_at hl 0 rfl) ?_
      refine va_get (D := D) (ci := 4) (v := .ref m0r) (C := RX4) (T := TX4) (N := 10) hx hb (htX4 hn) (fun _ h => h) hown hK hP 0 rfl rfl 0 (by decide) (hn.get mw_79 rfl) (fun _ h9 => h9) rfl dX4_set_14 ?_
      refine lv_iload_n hx hb dX4_set_17 rfl (lv_at hl 1 rfl) ?_
      refine lv_lload_n hx hb dX4_set_18 rfl (lv_at hl 2 rfl) ?_
      have hi19_1 : vp_in v0 32 := (in_rg r10_3 (by decide))
      refine va_last hx hb hK hP hD hS 1 2 rfl rfl hi19_1 dX4_set_19 (fun H locs hP hD hS => ?_)
      have hP : va_P D vwCl [(m0, .inr (4, [.ref m0r, .ref m0s, .ref k0, .int x_m0_3, .int x_m0_4, .int x_m0_5, .int x_m0_6, .int x_m0_7, .long x_m0_8, .int x_m0_9])), (m0r, .inl (ct 2, 32, .inr (.inl (vp_updL g_m0r v0.toNatClampNeg v1))))] _ := hP
      have hD : va_D A [(m0, .inr (4, [.ref m0r, .ref m0s, .ref k0, .int x_m0_3, .int x_m0_4, .int x_m0_5, .int x_m0_6, .int x_m0_7, .long x_m0_8, .int x_m0_9])), (m0r, .inl (ct 2, 32, .inr (.inl (vp_updL g_m0r v0.toNatClampNeg v1))))] := hD
      obtain ⟨f19_2, ef19_2⟩ : ∃ z, z = (vp_updL g_m0r v0.toNatClampNeg v1) := ⟨_, rfl⟩
      rw [← ef19_2] at hP hD
      exact endq_v hQ hx hb hr hlocks dX4_set_20 f19_2 trivial hP hD hS [0, 1] rfl (by decide) rfl (Nat.le_of_ble_eq_true rfl) (Nat.le_of_ble_eq_true rfl)
set_option maxHeartbeats 2000000 in
theorem c_X4_stop (l : Launch) (D : va_G) (ct : Nat → ClassId) (m0 : Nat) (v0 : Int32) (m0r : Nat) (m0s : Nat) (k0 : Nat) (x_m0_3 : Int32) (x_m0_4 : Int32) (x_m0_5 : Int32) (x_m0_6 : Int32) (x_m0_7 : Int32) (x_m0_8 : Int64) (x_m0_9 : Int32) (h_x_m0_9 : rg x_m0_9 0 1) : KV (S := Int32) l yX4_stop cX4_stop 2 none 1 20 D ct [.ref m0, .int v0] [(m0, .inr (4, [.ref m0r, .ref m0s, .ref k0, .int x_m0_3, .int x_m0_4, .int x_m0_5, .int x_m0_6, .int x_m0_7, .long x_m0_8, .int x_m0_9]))] 0 0 (fun (y_m0_5 : Int32) => (y_m0_5.toInt = v0.toInt)) (fun (y_m0_5 : Int32) => [(m0, .inr (4, [.ref m0r, .ref m0s, .ref k0, .int x_m0_3, .int x_m0_4, .int y_m0_5, .int x_m0_6, .int x_m0_7, .long x_m0_8, .int 1]))]) := by
  refine KVq_of (by decide) (Nat.le_of_ble_eq_true rfl) (fun p e s m below meth c A Q C0 hA H locs hS hP hD hQ ls hl => ?_)
  obtain ⟨hx, hb, hr, hown, hin, hml, hlocks, hn, hK, hZ, hSK⟩ := C0
  have hl : lv_has ls 2 [(0, .ref m0), (1, .int v0)] := hl
  refine lv_aload_n hx hb dX4_stop_0 rfl (lv_at hl 0 rfl) ?_
  refine lv_iload_n hx hb dX4_stop_1 rfl (lv_at hl 1 rfl) ?_
  refine va_put (D := D) (ci := 4) (v := .int v0) (ty := .int) (C := RX4) (T := TX4) (N := 10) hx hb (htX4 hn) (fun _ h => h) tyX4 tyX4_ok nmX4 hown hK hP hD hS 0 rfl rfl 5 (by decide) (hn.get mw_86 rfl) (fun _ h9 => h9) rfl (by decide +kernel) rfl rfl (Nat.le_of_ble_eq_true rfl) dX4_stop_2 (fun H locs hP hD hS => ?_)
  have hP : va_P D vwCl [(m0, .inr (4, [.ref m0r, .ref m0s, .ref k0, .int x_m0_3, .int x_m0_4, .int v0, .int x_m0_6, .int x_m0_7, .long x_m0_8, .int x_m0_9]))] _ := hP
  have hD : va_D A [(m0, .inr (4, [.ref m0r, .ref m0s, .ref k0, .int x_m0_3, .int x_m0_4, .int v0, .int x_m0_6, .int x_m0_7, .long x_m0_8, .int x_m0_9]))] := hD
  refine lv_aload_n hx hb dX4_stop_5 rfl (lv_at hl 0 rfl) ?_
  refine lv_iconst (v := 1) hx hb dX4_stop_6 (by decide) ?_
  refine va_put (D := D) (ci := 4) (v := .int 1) (ty := .boolean) (C := RX4) (T := TX4) (N := 10) hx hb (htX4 hn) (fun _ h => h) tyX4 tyX4_ok nmX4 hown hK hP hD hS 0 rfl rfl 9 (by decide) (hn.get mw_99 rfl) (fun _ h9 => h9) rfl (by decide +kernel) (by decide) rfl (Nat.le_of_ble_eq_true rfl) dX4_stop_7 (fun H locs hP hD hS => ?_)
  have hP : va_P D vwCl [(m0, .inr (4, [.ref m0r, .ref m0s, .ref k0, .int x_m0_3, .int x_m0_4, .int v0, .int x_m0_6, .int x_m0_7, .long x_m0_8, .int 1]))] _ := hP
  have hD : va_D A [(m0, .inr (4, [.ref m0r, .ref m0s, .ref k0, .int x_m0_3, .int x_m0_4, .int v0, .int x_m0_6, .int x_m0_7, .long x_m0_8, .int 1]))] := hD
  exact endq_v hQ hx hb hr hlocks dX4_stop_10 v0 (show v0.toInt = v0.toInt by have q0 := (rg_any v0).1; have q1 := (rg_any v0).2; omega) hP hD hS [0] rfl (by decide) rfl (Nat.le_of_ble_eq_true rfl) (Nat.le_of_ble_eq_true rfl)
set_option maxHeartbeats 2000000 in
theorem c_X4_stepOn (l : Launch) (D : va_G) (ct : Nat → ClassId) (m0 : Nat) (v0 : Int32) (m0r : Nat) (m0s : Nat) (k0 : Nat) (x_m0_3 : Int32) (x_m0_4 : Int32) (x_m0_5 : Int32) (x_m0_6 : Int32) (x_m0_7 : Int32) (x_m0_8 : Int64) (x_m0_9 : Int32) (h_x_m0_9 : rg x_m0_9 0 1) : KV (S := Int32 × Int32 × Int32 × Int64 × Int32) l yX4_stepOn cX4_stepOn 2 none 2 41 D ct [.ref m0, .int v0] [(m0, .inr (4, [.ref m0r, .ref m0s, .ref k0, .int x_m0_3, .int x_m0_4, .int x_m0_5, .int x_m0_6, .int x_m0_7, .long x_m0_8, .int x_m0_9]))] 0 0 (fun (u : Int32 × Int32 × Int32 × Int64 × Int32) => match u with | (y_m0_5, y_m0_6, y_m0_7, y_m0_8, y_m0_9) => rg y_m0_9 0 1) (fun (u : Int32 × Int32 × Int32 × Int64 × Int32) => match u with | (y_m0_5, y_m0_6, y_m0_7, y_m0_8, y_m0_9) => [(m0, .inr (4, [.ref m0r, .ref m0s, .ref k0, .int x_m0_3, .int x_m0_4, .int y_m0_5, .int y_m0_6, .int y_m0_7, .long y_m0_8, .int y_m0_9]))]) := by
  refine KVq_of (by decide) (Nat.le_of_ble_eq_true rfl) (fun p e s m below meth c A Q C0 hA H locs hS hP hD hQ ls hl => ?_)
  obtain ⟨hx, hb, hr, hown, hin, hml, hlocks, hn, hK, hZ, hSK⟩ := C0
  have hl : lv_has ls 2 [(0, .ref m0), (1, .int v0)] := hl
  refine lv_aload_n hx hb dX4_stepOn_0 rfl (lv_at hl 0 rfl) ?_
  refine va_get (D := D) (ci := 4) (v := .int x_m0_5) (C := RX4) (T := TX4) (N := 10) hx hb (htX4 hn) (fun _ h => h) hown hK hP 0 rfl rfl 5 (by decide) (hn.get mw_86 rfl) (fun _ h9 => h9) rfl dX4_stepOn_1 ?_
  refine lv_if_eq (tgt := 8) hx hb dX4_stepOn_4 (by decide) (fun c4_1 => ?_) (fun c4_1 => ?_)
  · have t4_2 := (i_eq c4_1)
    have r4_3 : rg x_m0_5 0 0 := rg_eqA t4_2 (rg_any x_m0_5) (show rg (0 : Int32) 0 0 from rg_l (by decide)) (by decide)
    refine lv_aload_n hx hb dX4_stepOn_8 rfl (lv_at hl 0 rfl) ?_
    refine va_get (D := D) (ci := 4) (v := .int x_m0_9) (C := RX4) (T := TX4) (N := 10) hx hb (htX4 hn) (fun _ h => h) hown hK hP 0 rfl rfl 9 (by decide) (hn.get mw_99 rfl) (fun _ h9 => h9) rfl dX4_stepOn_9 ?_
    have b40 : ∀  (H : Heap) (locs : List Loc) (ls : Array Slot), lv_has ls 2 [(0, .ref m0)] → va_P D vwCl [(m0, .inr (4, [.ref m0r, .ref m0s, .ref k0, .int x_m0_3, .int x_m0_4, .int x_m0_5, .int x_m0_6, .int x_m0_7, .long x_m0_8, .int x_m0_9]))] H → va_D A [(m0, .inr (4, [.ref m0r, .ref m0s, .ref k0, .int x_m0_3, .int x_m0_4, .int x_m0_5, .int x_m0_6, .int x_m0_7, .long x_m0_8, .int x_m0_9]))] → va_S A s.heap H locs → W p l e ({ frames := 2, cells := 0, slots := 0, locals := 41 }) s m [.ref m0, .int v0].toArray below meth c H locs 0 0 Q (F0 m 40 ls []) := by
      intro  H locs ls  hl hP hD hS
      refine lv_aload_n hx hb dX4_stepOn_40 rfl (lv_at hl 0 rfl) ?_
      refine lv_dup hx hb dX4_stepOn_41 rfl ?_
      refine va_get (D := D) (ci := 4) (v := .int x_m0_6) (C := RX4) (T := TX4) (N := 10) hx hb (htX4 hn) (fun _ h => h) hown hK hP 0 rfl rfl 6 (by decide) (hn.get mw_90 rfl) (fun _ h9 => h9) rfl dX4_stepOn_42 ?_
      refine lv_iconst (v := 1) hx hb dX4_stepOn_45 (by decide) ?_
      refine lv_iadd hx hb dX4_stepOn_46 ?_
      refine lv_topi (fun z46_1 ez46_1 => ?_)
      refine va_put (D := D) (ci := 4) (v := .int z46_1) (ty := .int) (C := RX4) (T := TX4) (N := 10) hx hb (htX4 hn) (fun _ h => h) tyX4 tyX4_ok nmX4 hown hK hP hD hS 0 rfl rfl 6 (by decide) (hn.get mw_90 rfl) (fun _ h9 => h9) rfl (by decide +kernel) rfl rfl (Nat.le_of_ble_eq_true rfl) dX4_stepOn_47 (fun H locs hP hD hS => ?_)
      have hP : va_P D vwCl [(m0, .inr (4, [.ref m0r, .ref m0s, .ref k0, .int x_m0_3, .int x_m0_4, .int x_m0_5, .int z46_1, .int x_m0_7, .long x_m0_8, .int x_m0_9]))] _ := hP
      have hD : va_D A [(m0, .inr (4, [.ref m0r, .ref m0s, .ref k0, .int x_m0_3, .int x_m0_4, .int x_m0_5, .int z46_1, .int x_m0_7, .long x_m0_8, .int x_m0_9]))] := hD
      refine lv_aload_n hx hb dX4_stepOn_50 rfl (lv_at hl 0 rfl) ?_
      refine va_get (D := D) (ci := 4) (v := .int x_m0_9) (C := RX4) (T := TX4) (N := 10) hx hb (htX4 hn) (fun _ h => h) hown hK hP 0 rfl rfl 9 (by decide) (hn.get mw_99 rfl) (fun _ h9 => h9) rfl dX4_stepOn_51 ?_
      refine lv_if_ne (tgt := 77) hx hb dX4_stepOn_54 (by decide) (fun c54_1 => ?_) (fun c54_1 => ?_)
      · have t54_2 := (i_ne c54_1)
        have r54_3 : rg x_m0_9 1 1 := rg_neAl t54_2 h_x_m0_9 (show rg (0 : Int32) 0 0 from rg_l (by decide)) (by decide)
        exact endq_v hQ hx hb hr hlocks dX4_stepOn_77 (x_m0_5, z46_1, x_m0_7, x_m0_8, x_m0_9) (rg_w r54_3 (by decide)) hP hD hS [0] rfl (by decide) rfl (Nat.le_of_ble_eq_true rfl) (Nat.le_of_ble_eq_true rfl)
      · have t54_2 := (i_eq c54_1)
        have r54_3 : rg x_m0_9 0 0 := rg_eqA t54_2 h_x_m0_9 (show rg (0 : Int32) 0 0 from rg_l (by decide)) (by decide)
        refine lv_aload_n hx hb dX4_stepOn_57 rfl (lv_at hl 0 rfl) ?_
        refine lv_aload_n hx hb dX4_stepOn_58 rfl (lv_at hl 0 rfl) ?_
        refine va_get (D := D) (ci := 4) (v := .long x_m0_8) (C := RX4) (T := TX4) (N := 10) hx hb (htX4 hn) (fun _ h => h) hown hK hP 0 rfl rfl 8 (by decide) (hn.get mw_96 rfl) (fun _ h9 => h9) rfl dX4_stepOn_59 ?_
        refine lv_l2i hx hb dX4_stepOn_62 rfl ?_
        refine lv_topi (fun z62_1 ez62_1 => ?_)
        refine va_put (D := D) (ci := 4) (v := .int z62_1) (ty := .int) (C := RX4) (T := TX4) (N := 10) hx hb (htX4 hn) (fun _ h => h) tyX4 tyX4_ok nmX4 hown hK hP hD hS 0 rfl rfl 7 (by decide) (hn.get mw_92 rfl) (fun _ h9 => h9) rfl (by decide +kernel) rfl rfl (Nat.le_of_ble_eq_true rfl) dX4_stepOn_63 (fun H locs hP hD hS => ?_)
        have hP : va_P D vwCl [(m0, .inr (4, [.ref m0r, .ref m0s, .ref k0, .int x_m0_3, .int x_m0_4, .int x_m0_5, .int z46_1, .int z62_1, .long x_m0_8, .int x_m0_9]))] _ := hP
        have hD : va_D A [(m0, .inr (4, [.ref m0r, .ref m0s, .ref k0, .int x_m0_3, .int x_m0_4, .int x_m0_5, .int z46_1, .int z62_1, .long x_m0_8, .int x_m0_9]))] := hD
        refine lv_aload_n hx hb dX4_stepOn_66 rfl (lv_at hl 0 rfl) ?_
        refine lv_aload_n hx hb dX4_stepOn_67 rfl (lv_at hl 0 rfl) ?_
        refine va_get (D := D) (ci := 4) (v := .int z62_1) (C := RX4) (T := TX4) (N := 10) hx hb (htX4 hn) (fun _ h => h) hown hK hP 0 rfl rfl 7 (by decide) (hn.get mw_92 rfl) (fun _ h9 => h9) rfl dX4_stepOn_68 ?_
        refine lv_i2l hx hb dX4_stepOn_71 rfl ?_
        refine lv_topl (fun z71_1 ez71_1 => ?_)
        have r71_2 : rl z71_1 (-2147483648) 2147483647 := rl_i2l ez71_1 (rg_any z62_1)
        refine lv_lconst (v := 1) hx hb dX4_stepOn_72 (by decide) ?_
        refine lv_ladd hx hb dX4_stepOn_73 ?_
        refine lv_topl (fun z73_1 ez73_1 => ?_)
        have r73_2 : rl z73_1 (-2147483647) 2147483648 := rgL_add ez73_1 r71_2 (show rl (1 : Int64) 1 1 from rl_l (by decide)) (by decide)
        refine va_put (D := D) (ci := 4) (v := .long z73_1) (ty := .long) (C := RX4) (T := TX4) (N := 10) hx hb (htX4 hn) (fun _ h => h) tyX4 tyX4_ok nmX4 hown hK hP hD hS 0 rfl rfl 8 (by decide) (hn.get mw_96 rfl) (fun _ h9 => h9) rfl (by decide +kernel) rfl rfl (Nat.le_of_ble_eq_true rfl) dX4_stepOn_74 (fun H locs hP hD hS => ?_)
        have hP : va_P D vwCl [(m0, .inr (4, [.ref m0r, .ref m0s, .ref k0, .int x_m0_3, .int x_m0_4, .int x_m0_5, .int z46_1, .int z62_1, .long z73_1, .int x_m0_9]))] _ := hP
        have hD : va_D A [(m0, .inr (4, [.ref m0r, .ref m0s, .ref k0, .int x_m0_3, .int x_m0_4, .int x_m0_5, .int z46_1, .int z62_1, .long z73_1, .int x_m0_9]))] := hD
        exact endq_v hQ hx hb hr hlocks dX4_stepOn_77 (x_m0_5, z46_1, z62_1, z73_1, x_m0_9) (rg_w r54_3 (by decide)) hP hD hS [0] rfl (by decide) rfl (Nat.le_of_ble_eq_true rfl) (Nat.le_of_ble_eq_true rfl)
    refine lv_if_ne (tgt := 40) hx hb dX4_stepOn_12 (by decide) (fun c12_1 => ?_) (fun c12_1 => ?_)
    · have t12_2 := (i_ne c12_1)
      have r12_3 : rg x_m0_9 1 1 := rg_neAl t12_2 h_x_m0_9 (show rg (0 : Int32) 0 0 from rg_l (by decide)) (by decide)
      exact b40  H locs ls  (lv_sub hl [0] rfl) hP hD hS
    · have t12_2 := (i_eq c12_1)
      have r12_3 : rg x_m0_9 0 0 := rg_eqA t12_2 h_x_m0_9 (show rg (0 : Int32) 0 0 from rg_l (by decide)) (by decide)
      refine lv_aload_n hx hb dX4_stepOn_15 rfl (lv_at hl 0 rfl) ?_
      refine va_get (D := D) (ci := 4) (v := .long x_m0_8) (C := RX4) (T := TX4) (N := 10) hx hb (htX4 hn) (fun _ h => h) hown hK hP 0 rfl rfl 8 (by decide) (hn.get mw_96 rfl) (fun _ h9 => h9) rfl dX4_stepOn_16 ?_
      refine lv_lconst (v := 0) hx hb dX4_stepOn_19 (by decide) ?_
      refine W.lcmp hx hb dX4_stepOn_20 ?_
      refine lv_topi (fun z20_1 ez20_1 => ?_)
      have b34 : ∀  (H : Heap) (locs : List Loc) (ls : Array Slot), lv_has ls 2 [(0, .ref m0)] → va_P D vwCl [(m0, .inr (4, [.ref m0r, .ref m0s, .ref k0, .int x_m0_3, .int x_m0_4, .int x_m0_5, .int x_m0_6, .int x_m0_7, .long x_m0_8, .int x_m0_9]))] H → va_D A [(m0, .inr (4, [.ref m0r, .ref m0s, .ref k0, .int x_m0_3, .int x_m0_4, .int x_m0_5, .int x_m0_6, .int x_m0_7, .long x_m0_8, .int x_m0_9]))] → va_S A s.heap H locs → W p l e ({ frames := 2, cells := 0, slots := 0, locals := 41 }) s m [.ref m0, .int v0].toArray below meth c H locs 0 0 Q (F0 m 34 ls []) := by
        intro  H locs ls  hl hP hD hS
        refine lv_aload_n hx hb dX4_stepOn_34 rfl (lv_at hl 0 rfl) ?_
        refine lv_iconst (v := 2) hx hb dX4_stepOn_35 (by decide) ?_
        refine go_v (k1 := 0) (n1 := 0) (wr := []) [0] [] (rn_V (As := [.int 2]) (rest := []) (c_X4_stop l D ct m0 (2 : Int32) m0r m0s k0 x_m0_3 x_m0_4 x_m0_5 x_m0_6 x_m0_7 x_m0_8 x_m0_9 (rg_w r12_3 (by decide)) _) (cb_of (n := 1) hn mw_1214 mw_4 mw_1281 mhX4_stop ⟨(Nat.le_of_ble_eq_true rfl), (Nat.le_of_ble_eq_true rfl)⟩) hx hb hml hown hn hK hSK hZ hS mw_1213 mw_s133 (ci := 4) (q0 := 0) rfl rfl rfl rfl hl.1 (Nat.le_of_ble_eq_true rfl) dX4_stepOn_36 ⟨(Nat.le_of_ble_eq_true rfl), (Nat.le_of_ble_eq_true rfl)⟩) hP hD hS hA rfl rfl (by decide) (by decide) (by decide) (Nat.le_of_ble_eq_true rfl) (Nat.le_of_ble_eq_true rfl) (fun u36_2 H locs hp36_3 hP hD hS => ?_)
        have hp36_4 := hp36_3
        have hp36_4 : u36_2.toInt = (2 : Int32).toInt := hp36_4
        have hP : va_P D vwCl [(m0, .inr (4, [.ref m0r, .ref m0s, .ref k0, .int x_m0_3, .int x_m0_4, .int u36_2, .int x_m0_6, .int x_m0_7, .long x_m0_8, .int 1]))] _ := hP
        have hD : va_D A [(m0, .inr (4, [.ref m0r, .ref m0s, .ref k0, .int x_m0_3, .int x_m0_4, .int u36_2, .int x_m0_6, .int x_m0_7, .long x_m0_8, .int 1]))] := hD
        exact endq_v hQ hx hb hr hlocks dX4_stepOn_39 (u36_2, x_m0_6, x_m0_7, x_m0_8, (1 : Int32)) (rg_w (show rg (1 : Int32) 1 1 from rg_l (by decide)) (by decide)) hP hD hS [0] rfl (by decide) rfl (Nat.le_of_ble_eq_true rfl) (Nat.le_of_ble_eq_true rfl)
      refine lv_if_lt (tgt := 34) hx hb dX4_stepOn_21 (by decide) (fun c21_1 => ?_) (fun c21_1 => ?_)
      · have t21_2 := (l_lt ez20_1 c21_1)
        have r21_3 : rl x_m0_8 (-9223372036854775808) (-1) := rl_ltA t21_2 (rl_any x_m0_8) (show rl (0 : Int64) 0 0 from rl_l (by decide)) (by decide)
        exact b34  H locs ls  (lv_sub hl [0] rfl) hP hD hS
      · have t21_2 := (l_nlt ez20_1 c21_1)
        have r21_3 : rl x_m0_8 0 9223372036854775807 := rl_leB t21_2 (show rl (0 : Int64) 0 0 from rl_l (by decide)) (rl_any x_m0_8) (by decide)
        refine lv_aload_n hx hb dX4_stepOn_24 rfl (lv_at hl 0 rfl) ?_
        refine va_get (D := D) (ci := 4) (v := .long x_m0_8) (C := RX4) (T := TX4) (N := 10) hx hb (htX4 hn) (fun _ h => h) hown hK hP 0 rfl rfl 8 (by decide) (hn.get mw_96 rfl) (fun _ h9 => h9) rfl dX4_stepOn_25 ?_
        refine lv_iload_n hx hb dX4_stepOn_28 rfl (lv_at hl 1 rfl) ?_
        refine lv_i2l hx hb dX4_stepOn_29 rfl ?_
        refine lv_topl (fun z29_1 ez29_1 => ?_)
        have r29_2 : rl z29_1 (-2147483648) 2147483647 := rl_i2l ez29_1 (rg_any v0)
        refine W.lcmp hx hb dX4_stepOn_30 ?_
        refine lv_topi (fun z30_1 ez30_1 => ?_)
        refine lv_if_lt (tgt := 40) hx hb dX4_stepOn_31 (by decide) (fun c31_1 => ?_) (fun c31_1 => ?_)
        · have t31_2 := (l_lt ez30_1 c31_1)
          have r31_3 : rl x_m0_8 0 2147483646 := rl_ltA t31_2 r21_3 r29_2 (by decide)
          have r31_4 : rl z29_1 1 2147483647 := rl_ltB t31_2 r21_3 r29_2 (by decide)
          exact b40  H locs ls  (lv_sub hl [0] rfl) hP hD hS
        · have t31_2 := (l_nlt ez30_1 c31_1)
          exact b34  H locs ls  (lv_sub hl [0] rfl) hP hD hS
  · have t4_2 := (i_ne c4_1)
    exact endq_v hQ hx hb hr hlocks dX4_stepOn_7 (x_m0_5, x_m0_6, x_m0_7, x_m0_8, x_m0_9) h_x_m0_9 hP hD hS [0] rfl (by decide) rfl (Nat.le_of_ble_eq_true rfl) (Nat.le_of_ble_eq_true rfl)
set_option maxHeartbeats 2000000 in
theorem c_X4_readPacket (l : Launch) (D : va_G) (ct : Nat → ClassId) (m0 : Nat) (v0 : Int64) (v1 : Int32) (m0r : Nat) (m0s : Nat) (k0 : Nat) (x_m0_3 : Int32) (x_m0_4 : Int32) (x_m0_5 : Int32) (x_m0_6 : Int32) (x_m0_7 : Int32) (x_m0_8 : Int64) (x_m0_9 : Int32) (k0c : Nat) (k0l : Nat) (x_k0_2 : Int32) (g_k0l : Nat → Int32) (g_k0c : Nat → Int32) (h_v1 : rg v1 0 8) (h_x_m0_9 : rg x_m0_9 0 1) (h_x_k0_2 : rg x_k0_2 0 16) (h_g_k0l : Rg g_k0l 16 0 256) (h_g_k0c : Rg g_k0c 4096 (-128) 127) : KL (S := Unit) l yX4_readPacket cX4_readPacket 4 (some .long) 4 91 D ct [.ref m0, .long v0, .int v1] [(m0, .inr (4, [.ref m0r, .ref m0s, .ref k0, .int x_m0_3, .int x_m0_4, .int x_m0_5, .int x_m0_6, .int x_m0_7, .long x_m0_8, .int x_m0_9])), (k0, .inr (6, [.ref k0c, .ref k0l, .int x_k0_2])), (k0l, .inl (ct 1, 16, .inl g_k0l)), (k0c, .inl (ct 0, 4096, .inl g_k0c))] 0 0 (fun (r : Int64) (_ : Unit) => True) (fun (_ : Unit) => [(m0, .inr (4, [.ref m0r, .ref m0s, .ref k0, .int x_m0_3, .int x_m0_4, .int x_m0_5, .int x_m0_6, .int x_m0_7, .long x_m0_8, .int x_m0_9])), (k0, .inr (6, [.ref k0c, .ref k0l, .int x_k0_2])), (k0l, .inl (ct 1, 16, .inl g_k0l)), (k0c, .inl (ct 0, 4096, .inl g_k0c))]) := by
  refine KLq_of (by decide) (Nat.le_of_ble_eq_true rfl) (fun p e s m below meth c A Q C0 hA H locs hS hP hD hQ ls hl => ?_)
  obtain ⟨hx, hb, hr, hown, hin, hml, hlocks, hn, hK, hZ, hSK⟩ := C0
  have hl : lv_has ls 4 [(0, .ref m0), (1, .long v0), (3, .int v1)] := hl
  refine lv_aload_n hx hb dX4_readPacket_0 rfl (lv_at hl 0 rfl) ?_
  refine va_get (D := D) (ci := 4) (v := .ref k0) (C := RX4) (T := TX4) (N := 10) hx hb (htX4 hn) (fun _ h => h) hown hK hP 0 rfl rfl 2 (by decide) (hn.get mw_82 rfl) (fun _ h9 => h9) rfl dX4_readPacket_1 ?_
  refine lv_aload_n hx hb dX4_readPacket_4 rfl (lv_at hl 0 rfl) ?_
  refine va_get (D := D) (ci := 4) (v := .int x_m0_3) (C := RX4) (T := TX4) (N := 10) hx hb (htX4 hn) (fun _ h => h) hown hK hP 0 rfl rfl 3 (by decide) (hn.get mw_83 rfl) (fun _ h9 => h9) rfl dX4_readPacket_5 ?_
  refine lv_lload_n hx hb dX4_readPacket_8 rfl (lv_at hl 1 rfl) ?_
  refine lv_iload_n hx hb dX4_readPacket_9 rfl (lv_at hl 2 rfl) ?_
  refine go_l (k1 := 0) (n1 := 0) (wr := [(m0, .inr (4, [.ref m0r, .ref m0s, .ref k0, .int x_m0_3, .int x_m0_4, .int x_m0_5, .int x_m0_6, .int x_m0_7, .long x_m0_8, .int x_m0_9]))]) [1, 2, 3] [0] (rn_VN (As := [.int x_m0_3, .long v0, .int v1]) (rest := []) (c_X6_read l D ct k0 x_m0_3 v0 v1 k0c k0l x_k0_2 g_k0l g_k0c h_v1 h_x_k0_2 h_g_k0l h_g_k0c _) (cn_of (n := 3) hn mw_1245 mw_3 mw_1242 mhX6_read ⟨(Nat.le_of_ble_eq_true rfl), (Nat.le_of_ble_eq_true rfl)⟩) hx hb hml hown hn hK hSK hZ hS mw_1244 mw_s137 (ci := 6) (q0 := 0) rfl rfl rfl rfl hl.1 (Nat.le_of_ble_eq_true rfl) dX4_readPacket_10 ⟨(Nat.le_of_ble_eq_true rfl), (Nat.le_of_ble_eq_true rfl)⟩) hP hD hS hA rfl rfl (by decide) (by decide) (by decide) (Nat.le_of_ble_eq_true rfl) (Nat.le_of_ble_eq_true rfl) (fun r10_1 u10_2 H locs hp10_3 hP hD hS => ?_)
  have hP : va_P D vwCl [(m0, .inr (4, [.ref m0r, .ref m0s, .ref k0, .int x_m0_3, .int x_m0_4, .int x_m0_5, .int x_m0_6, .int x_m0_7, .long x_m0_8, .int x_m0_9])), (k0, .inr (6, [.ref k0c, .ref k0l, .int x_k0_2])), (k0l, .inl (ct 1, 16, .inl g_k0l)), (k0c, .inl (ct 0, 4096, .inl g_k0c))] _ := hP
  have hD : va_D A [(m0, .inr (4, [.ref m0r, .ref m0s, .ref k0, .int x_m0_3, .int x_m0_4, .int x_m0_5, .int x_m0_6, .int x_m0_7, .long x_m0_8, .int x_m0_9])), (k0, .inr (6, [.ref k0c, .ref k0l, .int x_k0_2])), (k0l, .inl (ct 1, 16, .inl g_k0l)), (k0c, .inl (ct 0, 4096, .inl g_k0c))] := hD
  exact endq_l hQ hx hb hr hlocks dX4_readPacket_13 () trivial hP hD hS [0, 1, 2, 3] rfl (by decide) rfl (Nat.le_of_ble_eq_true rfl) (Nat.le_of_ble_eq_true rfl)
set_option maxHeartbeats 2000000 in
theorem c_X4_inStack (l : Launch) (D : va_G) (ct : Nat → ClassId) (m0 : Nat) (v0 : Int64) (v1 : Int32) (m0r : Nat) (m0s : Nat) (k0 : Nat) (x_m0_3 : Int32) (x_m0_4 : Int32) (x_m0_5 : Int32) (x_m0_6 : Int32) (x_m0_7 : Int32) (x_m0_8 : Int64) (x_m0_9 : Int32) (h_v1 : rg v1 0 8) (h_x_m0_9 : rg x_m0_9 0 1) : KI (S := Unit) l yX4_inStack cX4_inStack 4 (some .boolean) 1 20 D ct [.ref m0, .long v0, .int v1] [(m0, .inr (4, [.ref m0r, .ref m0s, .ref k0, .int x_m0_3, .int x_m0_4, .int x_m0_5, .int x_m0_6, .int x_m0_7, .long x_m0_8, .int x_m0_9]))] 0 0 (fun (r : Int32) (_ : Unit) => rg r 0 1 ∧ (r.toInt = 1 → 131072 ≤ v0.toInt ∧ v0.toInt ≤ 131136 - v1.toInt)) (fun (_ : Unit) => [(m0, .inr (4, [.ref m0r, .ref m0s, .ref k0, .int x_m0_3, .int x_m0_4, .int x_m0_5, .int x_m0_6, .int x_m0_7, .long x_m0_8, .int x_m0_9]))]) := by
  refine KIq_of (by decide) (Nat.le_of_ble_eq_true rfl) (fun p e s m below meth c A Q C0 hA H locs hS hP hD hQ ls hl => ?_)
  obtain ⟨hx, hb, hr, hown, hin, hml, hlocks, hn, hK, hZ, hSK⟩ := C0
  have hl : lv_has ls 4 [(0, .ref m0), (1, .long v0), (3, .int v1)] := hl
  refine lv_lload_n hx hb dX4_inStack_0 rfl (lv_at hl 1 rfl) ?_
  refine lv_ldc2 (v := 131072) hx hb hown (hn.get mw_1253 rfl) dX4_inStack_1 ?_
  refine W.lcmp hx hb dX4_inStack_4 ?_
  refine lv_topi (fun z4_1 ez4_1 => ?_)
  refine lv_if_lt (tgt := 22) hx hb dX4_inStack_5 (by decide) (fun c5_1 => ?_) (fun c5_1 => ?_)
  · have t5_2 := (l_lt ez4_1 c5_1)
    have r5_3 : rl v0 (-9223372036854775808) 131071 := rl_ltA t5_2 (rl_any v0) (show rl (131072 : Int64) 131072 131072 from rl_l (by decide)) (by decide)
    refine lv_iconst (v := 0) hx hb dX4_inStack_22 (by decide) ?_
    exact endq_i hQ hx hb hr hlocks dX4_inStack_23 (by decide) () ⟨(rg_w (show rg (0 : Int32) 0 0 from rg_l (by decide)) (by decide)), (show (0 : Int32).toInt = 1 → 131072 ≤ v0.toInt ∧ v0.toInt ≤ 131136 - v1.toInt by have q0 := h_v1.1; have q1 := h_v1.2; have q2 := r5_3.1; have q3 := r5_3.2; have q4 := (show rg (0 : Int32) 0 0 from rg_l (by decide)).1; have q5 := (show rg (0 : Int32) 0 0 from rg_l (by decide)).2; have q6 := (show rl (131072 : Int64) 131072 131072 from rl_l (by decide)).1; have q7 := (show rl (131072 : Int64) 131072 131072 from rl_l (by decide)).2; have q8 := t5_2; omega)⟩ hP hD hS [0] rfl (by decide) rfl (Nat.le_of_ble_eq_true rfl) (Nat.le_of_ble_eq_true rfl)
  · have t5_2 := (l_nlt ez4_1 c5_1)
    have r5_3 : rl v0 131072 9223372036854775807 := rl_leB t5_2 (show rl (131072 : Int64) 131072 131072 from rl_l (by decide)) (rl_any v0) (by decide)
    refine lv_lload_n hx hb dX4_inStack_8 rfl (lv_at hl 1 rfl) ?_
    refine lv_ldc (v := 131136) hx hb hown (hn.get mw_1254 rfl) dX4_inStack_9 ?_
    refine lv_iload_n hx hb dX4_inStack_11 rfl (lv_at hl 2 rfl) ?_
    refine lv_isub hx hb dX4_inStack_12 ?_
    refine lv_topi (fun z12_1 ez12_1 => ?_)
    have r12_2 : rg z12_1 131128 131136 := rg_sub ez12_1 (show rg (131136 : Int32) 131136 131136 from rg_l (by decide)) h_v1 (by decide)
    refine lv_i2l hx hb dX4_inStack_13 rfl ?_
    refine lv_topl (fun z13_1 ez13_1 => ?_)
    have r13_2 : rl z13_1 131128 131136 := rl_i2l ez13_1 r12_2
    refine W.lcmp hx hb dX4_inStack_14 ?_
    refine lv_topi (fun z14_1 ez14_1 => ?_)
    refine lv_if_gt (tgt := 22) hx hb dX4_inStack_15 (by decide) (fun c15_1 => ?_) (fun c15_1 => ?_)
    · have t15_2 := (l_gt ez14_1 c15_1)
      have r15_3 : rl v0 131129 9223372036854775807 := rl_ltB t15_2 r13_2 r5_3 (by decide)
      refine lv_iconst (v := 0) hx hb dX4_inStack_22 (by decide) ?_
      exact endq_i hQ hx hb hr hlocks dX4_inStack_23 (by decide) () ⟨(rg_w (show rg (0 : Int32) 0 0 from rg_l (by decide)) (by decide)), (show (0 : Int32).toInt = 1 → 131072 ≤ v0.toInt ∧ v0.toInt ≤ 131136 - v1.toInt by have q0 := h_v1.1; have q1 := h_v1.2; have q2 := r15_3.1; have q3 := r15_3.2; have q4 := (show rg (0 : Int32) 0 0 from rg_l (by decide)).1; have q5 := (show rg (0 : Int32) 0 0 from rg_l (by decide)).2; have q6 := (show rl (131072 : Int64) 131072 131072 from rl_l (by decide)).1; have q7 := (show rl (131072 : Int64) 131072 131072 from rl_l (by decide)).2; have q8 := r13_2.1; have q9 := r13_2.2; have q10 := (eq_i2l ez13_1); have q11 := r12_2.1; have q12 := r12_2.2; have q13 := (eq_sub ez12_1 (show rg (131136 : Int32) 131136 131136 from rg_l (by decide)) h_v1 (by decide)); have q14 := (show rg (131136 : Int32) 131136 131136 from rg_l (by decide)).1; have q15 := (show rg (131136 : Int32) 131136 131136 from rg_l (by decide)).2; have q16 := t5_2; have q17 := t15_2; omega)⟩ hP hD hS [0] rfl (by decide) rfl (Nat.le_of_ble_eq_true rfl) (Nat.le_of_ble_eq_true rfl)
    · have t15_2 := (l_ngt ez14_1 c15_1)
      have r15_3 : rl v0 131072 131136 := rl_leA t15_2 r5_3 r13_2 (by decide)
      refine lv_iconst (v := 1) hx hb dX4_inStack_18 (by decide) ?_
      refine lv_goto (tgt := 23) hx hb dX4_inStack_19 (by decide) ?_
      exact endq_i hQ hx hb hr hlocks dX4_inStack_23 (by decide) () ⟨(rg_w (show rg (1 : Int32) 1 1 from rg_l (by decide)) (by decide)), (show (1 : Int32).toInt = 1 → 131072 ≤ v0.toInt ∧ v0.toInt ≤ 131136 - v1.toInt by have q0 := h_v1.1; have q1 := h_v1.2; have q2 := r15_3.1; have q3 := r15_3.2; have q4 := (show rg (1 : Int32) 1 1 from rg_l (by decide)).1; have q5 := (show rg (1 : Int32) 1 1 from rg_l (by decide)).2; have q6 := (show rl (131072 : Int64) 131072 131072 from rl_l (by decide)).1; have q7 := (show rl (131072 : Int64) 131072 131072 from rl_l (by decide)).2; have q8 := r13_2.1; have q9 := r13_2.2; have q10 := (eq_i2l ez13_1); have q11 := r12_2.1; have q12 := r12_2.2; have q13 := (eq_sub ez12_1 (show rg (131136 : Int32) 131136 131136 from rg_l (by decide)) h_v1 (by decide)); have q14 := (show rg (131136 : Int32) 131136 131136 from rg_l (by decide)).1; have q15 := (show rg (131136 : Int32) 131136 131136 from rg_l (by decide)).2; have q16 := t5_2; have q17 := t15_2; omega)⟩ hP hD hS [0] rfl (by decide) rfl (Nat.le_of_ble_eq_true rfl) (Nat.le_of_ble_eq_true rfl)
set_option maxHeartbeats 2000000 in
theorem c_X4_inPacket (l : Launch) (D : va_G) (ct : Nat → ClassId) (m0 : Nat) (v0 : Int64) (v1 : Int32) (m0r : Nat) (m0s : Nat) (k0 : Nat) (x_m0_3 : Int32) (x_m0_4 : Int32) (x_m0_5 : Int32) (x_m0_6 : Int32) (x_m0_7 : Int32) (x_m0_8 : Int64) (x_m0_9 : Int32) (k0c : Nat) (k0l : Nat) (x_k0_2 : Int32) (g_k0l : Nat → Int32) (h_v1 : rg v1 0 8) (h_x_m0_9 : rg x_m0_9 0 1) (h_x_k0_2 : rg x_k0_2 0 16) (h_g_k0l : Rg g_k0l 16 0 256) : KI (S := Unit) l yX4_inPacket cX4_inPacket 4 (some .boolean) 2 41 D ct [.ref m0, .long v0, .int v1] [(m0, .inr (4, [.ref m0r, .ref m0s, .ref k0, .int x_m0_3, .int x_m0_4, .int x_m0_5, .int x_m0_6, .int x_m0_7, .long x_m0_8, .int x_m0_9])), (k0, .inr (6, [.ref k0c, .ref k0l, .int x_k0_2])), (k0l, .inl (ct 1, 16, .inl g_k0l))] 0 0 (fun (r : Int32) (_ : Unit) => rg r 0 1) (fun (_ : Unit) => [(m0, .inr (4, [.ref m0r, .ref m0s, .ref k0, .int x_m0_3, .int x_m0_4, .int x_m0_5, .int x_m0_6, .int x_m0_7, .long x_m0_8, .int x_m0_9])), (k0, .inr (6, [.ref k0c, .ref k0l, .int x_k0_2])), (k0l, .inl (ct 1, 16, .inl g_k0l))]) := by
  refine KIq_of (by decide) (Nat.le_of_ble_eq_true rfl) (fun p e s m below meth c A Q C0 hA H locs hS hP hD hQ ls hl => ?_)
  obtain ⟨hx, hb, hr, hown, hin, hml, hlocks, hn, hK, hZ, hSK⟩ := C0
  have hl : lv_has ls 4 [(0, .ref m0), (1, .long v0), (3, .int v1)] := hl
  refine lv_lload_n hx hb dX4_inPacket_0 rfl (lv_at hl 1 rfl) ?_
  refine lv_ldc2 (v := 65536) hx hb hown (hn.get mw_1269 rfl) dX4_inPacket_1 ?_
  refine W.lcmp hx hb dX4_inPacket_4 ?_
  refine lv_topi (fun z4_1 ez4_1 => ?_)
  refine lv_if_lt (tgt := 34) hx hb dX4_inPacket_5 (by decide) (fun c5_1 => ?_) (fun c5_1 => ?_)
  · have t5_2 := (l_lt ez4_1 c5_1)
    have r5_3 : rl v0 (-9223372036854775808) 65535 := rl_ltA t5_2 (rl_any v0) (show rl (65536 : Int64) 65536 65536 from rl_l (by decide)) (by decide)
    refine lv_iconst (v := 0) hx hb dX4_inPacket_34 (by decide) ?_
    exact endq_i hQ hx hb hr hlocks dX4_inPacket_35 (by decide) () (rg_w (show rg (0 : Int32) 0 0 from rg_l (by decide)) (by decide)) hP hD hS [0, 1, 2] rfl (by decide) rfl (Nat.le_of_ble_eq_true rfl) (Nat.le_of_ble_eq_true rfl)
  · have t5_2 := (l_nlt ez4_1 c5_1)
    have r5_3 : rl v0 65536 9223372036854775807 := rl_leB t5_2 (show rl (65536 : Int64) 65536 65536 from rl_l (by decide)) (rl_any v0) (by decide)
    refine lv_lload_n hx hb dX4_inPacket_8 rfl (lv_at hl 1 rfl) ?_
    refine lv_ldc (v := 65536) hx hb hown (hn.get mw_1270 rfl) dX4_inPacket_9 ?_
    refine lv_aload_n hx hb dX4_inPacket_11 rfl (lv_at hl 0 rfl) ?_
    refine va_get (D := D) (ci := 4) (v := .ref k0) (C := RX4) (T := TX4) (N := 10) hx hb (htX4 hn) (fun _ h => h) hown hK hP 0 rfl rfl 2 (by decide) (hn.get mw_82 rfl) (fun _ h9 => h9) rfl dX4_inPacket_12 ?_
    refine lv_aload_n hx hb dX4_inPacket_15 rfl (lv_at hl 0 rfl) ?_
    refine va_get (D := D) (ci := 4) (v := .int x_m0_3) (C := RX4) (T := TX4) (N := 10) hx hb (htX4 hn) (fun _ h => h) hown hK hP 0 rfl rfl 3 (by decide) (hn.get mw_83 rfl) (fun _ h9 => h9) rfl dX4_inPacket_16 ?_
    refine go_i (k1 := 0) (n1 := 0) (wr := [(m0, .inr (4, [.ref m0r, .ref m0s, .ref k0, .int x_m0_3, .int x_m0_4, .int x_m0_5, .int x_m0_6, .int x_m0_7, .long x_m0_8, .int x_m0_9]))]) [1, 2] [0] (rn_VN (As := [.int x_m0_3]) (rest := [.int 65536, .long v0]) (c_X6_lengthOf l D ct k0 x_m0_3 k0c k0l x_k0_2 g_k0l h_x_k0_2 h_g_k0l _) (cn_of (n := 1) hn mw_468 mw_3 mw_1271 mhX6_lengthOf ⟨(Nat.le_of_ble_eq_true rfl), (Nat.le_of_ble_eq_true rfl)⟩) hx hb hml hown hn hK hSK hZ hS mw_467 mw_s6 (ci := 6) (q0 := 0) rfl rfl rfl rfl hl.1 (Nat.le_of_ble_eq_true rfl) dX4_inPacket_19 ⟨(Nat.le_of_ble_eq_true rfl), (Nat.le_of_ble_eq_true rfl)⟩) hP hD hS hA rfl rfl (by decide) (by decide) (by decide) (Nat.le_of_ble_eq_true rfl) (Nat.le_of_ble_eq_true rfl) (fun r19_1 u19_2 H locs hp19_3 hP hD hS => ?_)
    obtain ⟨hp19_4, hp19_5⟩ := hp19_3
    have hp19_4 : rg r19_1 (-1) 256 := hp19_4
    have hp19_5 : 0 ≤ r19_1.toInt → 0 ≤ x_m0_3.toInt ∧ x_m0_3.toInt < x_k0_2.toInt := hp19_5
    have hP : va_P D vwCl [(m0, .inr (4, [.ref m0r, .ref m0s, .ref k0, .int x_m0_3, .int x_m0_4, .int x_m0_5, .int x_m0_6, .int x_m0_7, .long x_m0_8, .int x_m0_9])), (k0, .inr (6, [.ref k0c, .ref k0l, .int x_k0_2])), (k0l, .inl (ct 1, 16, .inl g_k0l))] _ := hP
    have hD : va_D A [(m0, .inr (4, [.ref m0r, .ref m0s, .ref k0, .int x_m0_3, .int x_m0_4, .int x_m0_5, .int x_m0_6, .int x_m0_7, .long x_m0_8, .int x_m0_9])), (k0, .inr (6, [.ref k0c, .ref k0l, .int x_k0_2])), (k0l, .inl (ct 1, 16, .inl g_k0l))] := hD
    refine lv_iadd hx hb dX4_inPacket_22 ?_
    refine lv_topi (fun z22_1 ez22_1 => ?_)
    have r22_2 : rg z22_1 65535 65792 := rg_add ez22_1 (show rg (65536 : Int32) 65536 65536 from rg_l (by decide)) hp19_4 (by decide)
    refine lv_iload_n hx hb dX4_inPacket_23 rfl (lv_at hl 2 rfl) ?_
    refine lv_isub hx hb dX4_inPacket_24 ?_
    refine lv_topi (fun z24_1 ez24_1 => ?_)
    have r24_2 : rg z24_1 65527 65792 := rg_sub ez24_1 r22_2 h_v1 (by decide)
    refine lv_i2l hx hb dX4_inPacket_25 rfl ?_
    refine lv_topl (fun z25_1 ez25_1 => ?_)
    have r25_2 : rl z25_1 65527 65792 := rl_i2l ez25_1 r24_2
    refine W.lcmp hx hb dX4_inPacket_26 ?_
    refine lv_topi (fun z26_1 ez26_1 => ?_)
    refine lv_if_gt (tgt := 34) hx hb dX4_inPacket_27 (by decide) (fun c27_1 => ?_) (fun c27_1 => ?_)
    · have t27_2 := (l_gt ez26_1 c27_1)
      refine lv_iconst (v := 0) hx hb dX4_inPacket_34 (by decide) ?_
      exact endq_i hQ hx hb hr hlocks dX4_inPacket_35 (by decide) () (rg_w (show rg (0 : Int32) 0 0 from rg_l (by decide)) (by decide)) hP hD hS [0, 1, 2] rfl (by decide) rfl (Nat.le_of_ble_eq_true rfl) (Nat.le_of_ble_eq_true rfl)
    · have t27_2 := (l_ngt ez26_1 c27_1)
      have r27_3 : rl v0 65536 65792 := rl_leA t27_2 r5_3 r25_2 (by decide)
      have r27_4 : rl z25_1 65536 65792 := rl_leB t27_2 r5_3 r25_2 (by decide)
      refine lv_iconst (v := 1) hx hb dX4_inPacket_30 (by decide) ?_
      refine lv_goto (tgt := 35) hx hb dX4_inPacket_31 (by decide) ?_
      exact endq_i hQ hx hb hr hlocks dX4_inPacket_35 (by decide) () (rg_w (show rg (1 : Int32) 1 1 from rg_l (by decide)) (by decide)) hP hD hS [0, 1, 2] rfl (by decide) rfl (Nat.le_of_ble_eq_true rfl) (Nat.le_of_ble_eq_true rfl)
set_option maxHeartbeats 2000000 in
theorem c_X4_byteAt (l : Launch) (D : va_G) (ct : Nat → ClassId) (m0 : Nat) (v0 : Int64) (m0r : Nat) (m0s : Nat) (k0 : Nat) (x_m0_3 : Int32) (x_m0_4 : Int32) (x_m0_5 : Int32) (x_m0_6 : Int32) (x_m0_7 : Int32) (x_m0_8 : Int64) (x_m0_9 : Int32) (k0c : Nat) (k0l : Nat) (x_k0_2 : Int32) (g_k0l : Nat → Int32) (g_k0c : Nat → Int32) (g_m0s : Nat → Int32) (h_x_m0_9 : rg x_m0_9 0 1) (h_x_k0_2 : rg x_k0_2 0 16) (h_g_k0l : Rg g_k0l 16 0 256) (h_g_k0c : Rg g_k0c 4096 (-128) 127) (h_g_m0s : Rg g_m0s 64 (-128) 127) : KI (S := Unit) l yX4_byteAt cX4_byteAt 3 (some .int) 3 64 D ct [.ref m0, .long v0] [(m0, .inr (4, [.ref m0r, .ref m0s, .ref k0, .int x_m0_3, .int x_m0_4, .int x_m0_5, .int x_m0_6, .int x_m0_7, .long x_m0_8, .int x_m0_9])), (k0, .inr (6, [.ref k0c, .ref k0l, .int x_k0_2])), (k0l, .inl (ct 1, 16, .inl g_k0l)), (k0c, .inl (ct 0, 4096, .inl g_k0c)), (m0s, .inl (ct 0, 64, .inl g_m0s))] 0 0 (fun (r : Int32) (_ : Unit) => rg r (-1) 255) (fun (_ : Unit) => [(m0, .inr (4, [.ref m0r, .ref m0s, .ref k0, .int x_m0_3, .int x_m0_4, .int x_m0_5, .int x_m0_6, .int x_m0_7, .long x_m0_8, .int x_m0_9])), (k0, .inr (6, [.ref k0c, .ref k0l, .int x_k0_2])), (k0l, .inl (ct 1, 16, .inl g_k0l)), (k0c, .inl (ct 0, 4096, .inl g_k0c)), (m0s, .inl (ct 0, 64, .inl g_m0s))]) := by
  refine KIq_of (by decide) (Nat.le_of_ble_eq_true rfl) (fun p e s m below meth c A Q C0 hA H locs hS hP hD hQ ls hl => ?_)
  obtain ⟨hx, hb, hr, hown, hin, hml, hlocks, hn, hK, hZ, hSK⟩ := C0
  have hl : lv_has ls 3 [(0, .ref m0), (1, .long v0)] := hl
  refine lv_aload_n hx hb dX4_byteAt_0 rfl (lv_at hl 0 rfl) ?_
  refine lv_lload_n hx hb dX4_byteAt_1 rfl (lv_at hl 1 rfl) ?_
  refine lv_iconst (v := 1) hx hb dX4_byteAt_2 (by decide) ?_
  refine go_i (k1 := 0) (n1 := 0) (wr := [(k0, .inr (6, [.ref k0c, .ref k0l, .int x_k0_2])), (k0l, .inl (ct 1, 16, .inl g_k0l)), (k0c, .inl (ct 0, 4096, .inl g_k0c)), (m0s, .inl (ct 0, 64, .inl g_m0s))]) [0] [1, 2, 3, 4] (rn_V (As := [.long v0, .int 1]) (rest := []) (c_X4_inStack l D ct m0 v0 (1 : Int32) m0r m0s k0 x_m0_3 x_m0_4 x_m0_5 x_m0_6 x_m0_7 x_m0_8 x_m0_9 (rg_w (show rg (1 : Int32) 1 1 from rg_l (by decide)) (by decide)) h_x_m0_9 _) (cb_of (n := 2) hn mw_1252 mw_4 mw_1263 mhX4_inStack ⟨(Nat.le_of_ble_eq_true rfl), (Nat.le_of_ble_eq_true rfl)⟩) hx hb hml hown hn hK hSK hZ hS mw_1251 mw_s138 (ci := 4) (q0 := 0) rfl rfl rfl rfl hl.1 (Nat.le_of_ble_eq_true rfl) dX4_byteAt_3 ⟨(Nat.le_of_ble_eq_true rfl), (Nat.le_of_ble_eq_true rfl)⟩) hP hD hS hA rfl rfl (by decide) (by decide) (by decide) (Nat.le_of_ble_eq_true rfl) (Nat.le_of_ble_eq_true rfl) (fun r3_1 u3_2 H locs hp3_3 hP hD hS => ?_)
  obtain ⟨hp3_4, hp3_5⟩ := hp3_3
  have hp3_4 : rg r3_1 0 1 := hp3_4
  have hp3_5 : r3_1.toInt = 1 → 131072 ≤ v0.toInt ∧ v0.toInt ≤ 131136 - (1 : Int32).toInt := hp3_5
  have hP : va_P D vwCl [(k0, .inr (6, [.ref k0c, .ref k0l, .int x_k0_2])), (k0l, .inl (ct 1, 16, .inl g_k0l)), (k0c, .inl (ct 0, 4096, .inl g_k0c)), (m0s, .inl (ct 0, 64, .inl g_m0s)), (m0, .inr (4, [.ref m0r, .ref m0s, .ref k0, .int x_m0_3, .int x_m0_4, .int x_m0_5, .int x_m0_6, .int x_m0_7, .long x_m0_8, .int x_m0_9]))] _ := hP
  have hD : va_D A [(k0, .inr (6, [.ref k0c, .ref k0l, .int x_k0_2])), (k0l, .inl (ct 1, 16, .inl g_k0l)), (k0c, .inl (ct 0, 4096, .inl g_k0c)), (m0s, .inl (ct 0, 64, .inl g_m0s)), (m0, .inr (4, [.ref m0r, .ref m0s, .ref k0, .int x_m0_3, .int x_m0_4, .int x_m0_5, .int x_m0_6, .int x_m0_7, .long x_m0_8, .int x_m0_9]))] := hD
  refine lv_if_eq (tgt := 24) hx hb dX4_byteAt_6 (by decide) (fun c6_1 => ?_) (fun c6_1 => ?_)
  · have t6_2 := (i_eq c6_1)
    have r6_3 : rg r3_1 0 0 := rg_eqA t6_2 hp3_4 (show rg (0 : Int32) 0 0 from rg_l (by decide)) (by decide)
    refine lv_aload_n hx hb dX4_byteAt_24 rfl (lv_at hl 0 rfl) ?_
    refine lv_lload_n hx hb dX4_byteAt_25 rfl (lv_at hl 1 rfl) ?_
    refine lv_iconst (v := 1) hx hb dX4_byteAt_26 (by decide) ?_
    refine go_i (k1 := 0) (n1 := 0) (wr := [(k0c, .inl (ct 0, 4096, .inl g_k0c)), (m0s, .inl (ct 0, 64, .inl g_m0s))]) [4, 0, 1] [2, 3] (rn_V (As := [.long v0, .int 1]) (rest := []) (c_X4_inPacket l D ct m0 v0 (1 : Int32) m0r m0s k0 x_m0_3 x_m0_4 x_m0_5 x_m0_6 x_m0_7 x_m0_8 x_m0_9 k0c k0l x_k0_2 g_k0l (rg_w (show rg (1 : Int32) 1 1 from rg_l (by decide)) (by decide)) h_x_m0_9 h_x_k0_2 h_g_k0l _) (cb_of (n := 2) hn mw_1268 mw_4 mw_1265 mhX4_inPacket ⟨(Nat.le_of_ble_eq_true rfl), (Nat.le_of_ble_eq_true rfl)⟩) hx hb hml hown hn hK hSK hZ hS mw_1267 mw_s141 (ci := 4) (q0 := 0) rfl rfl rfl rfl hl.1 (Nat.le_of_ble_eq_true rfl) dX4_byteAt_27 ⟨(Nat.le_of_ble_eq_true rfl), (Nat.le_of_ble_eq_true rfl)⟩) hP hD hS hA rfl rfl (by decide) (by decide) (by decide) (Nat.le_of_ble_eq_true rfl) (Nat.le_of_ble_eq_true rfl) (fun r27_1 u27_2 H locs hp27_3 hP hD hS => ?_)
    have hp27_4 := hp27_3
    have hp27_4 : rg r27_1 0 1 := hp27_4
    have hP : va_P D vwCl [(k0c, .inl (ct 0, 4096, .inl g_k0c)), (m0s, .inl (ct 0, 64, .inl g_m0s)), (m0, .inr (4, [.ref m0r, .ref m0s, .ref k0, .int x_m0_3, .int x_m0_4, .int x_m0_5, .int x_m0_6, .int x_m0_7, .long x_m0_8, .int x_m0_9])), (k0, .inr (6, [.ref k0c, .ref k0l, .int x_k0_2])), (k0l, .inl (ct 1, 16, .inl g_k0l))] _ := hP
    have hD : va_D A [(k0c, .inl (ct 0, 4096, .inl g_k0c)), (m0s, .inl (ct 0, 64, .inl g_m0s)), (m0, .inr (4, [.ref m0r, .ref m0s, .ref k0, .int x_m0_3, .int x_m0_4, .int x_m0_5, .int x_m0_6, .int x_m0_7, .long x_m0_8, .int x_m0_9])), (k0, .inr (6, [.ref k0c, .ref k0l, .int x_k0_2])), (k0l, .inl (ct 1, 16, .inl g_k0l))] := hD
    refine lv_if_eq (tgt := 52) hx hb dX4_byteAt_30 (by decide) (fun c30_1 => ?_) (fun c30_1 => ?_)
    · have t30_2 := (i_eq c30_1)
      have r30_3 : rg r27_1 0 0 := rg_eqA t30_2 hp27_4 (show rg (0 : Int32) 0 0 from rg_l (by decide)) (by decide)
      refine lv_iconst (v := 0) hx hb dX4_byteAt_52 (by decide) ?_
      exact endq_i hQ hx hb hr hlocks dX4_byteAt_53 rfl () (rg_w (show rg (0 : Int32) 0 0 from rg_l (by decide)) (by decide)) hP hD hS [2, 3, 4, 0, 1] rfl (by decide) rfl (Nat.le_of_ble_eq_true rfl) (Nat.le_of_ble_eq_true rfl)
    · have t30_2 := (i_ne c30_1)
      have r30_3 : rg r27_1 1 1 := rg_neAl t30_2 hp27_4 (show rg (0 : Int32) 0 0 from rg_l (by decide)) (by decide)
      refine lv_aload_n hx hb dX4_byteAt_33 rfl (lv_at hl 0 rfl) ?_
      refine va_get (D := D) (ci := 4) (v := .ref k0) (C := RX4) (T := TX4) (N := 10) hx hb (htX4 hn) (fun _ h => h) hown hK hP 2 rfl rfl 2 (by decide) (hn.get mw_82 rfl) (fun _ h9 => h9) rfl dX4_byteAt_34 ?_
      refine lv_aload_n hx hb dX4_byteAt_37 rfl (lv_at hl 0 rfl) ?_
      refine va_get (D := D) (ci := 4) (v := .int x_m0_3) (C := RX4) (T := TX4) (N := 10) hx hb (htX4 hn) (fun _ h => h) hown hK hP 2 rfl rfl 3 (by decide) (hn.get mw_83 rfl) (fun _ h9 => h9) rfl dX4_byteAt_38 ?_
      refine lv_lload_n hx hb dX4_byteAt_41 rfl (lv_at hl 1 rfl) ?_
      refine lv_ldc2 (v := 65536) hx hb hown (hn.get mw_1269 rfl) dX4_byteAt_42 ?_
      refine lv_lsub hx hb dX4_byteAt_45 ?_
      refine lv_topl (fun z45_1 ez45_1 => ?_)
      refine go_i (k1 := 0) (n1 := 0) (wr := [(m0s, .inl (ct 0, 64, .inl g_m0s)), (m0, .inr (4, [.ref m0r, .ref m0s, .ref k0, .int x_m0_3, .int x_m0_4, .int x_m0_5, .int x_m0_6, .int x_m0_7, .long x_m0_8, .int x_m0_9]))]) [3, 4, 0] [1, 2] (rn_VN (As := [.int x_m0_3, .long z45_1]) (rest := []) (c_X6_at l D ct k0 x_m0_3 z45_1 k0c k0l x_k0_2 g_k0l g_k0c h_x_k0_2 h_g_k0l h_g_k0c _) (cn_of (n := 2) hn mw_464 mw_3 mw_1272 mhX6_at ⟨(Nat.le_of_ble_eq_true rfl), (Nat.le_of_ble_eq_true rfl)⟩) hx hb hml hown hn hK hSK hZ hS mw_463 mw_s5 (ci := 6) (q0 := 0) rfl rfl rfl rfl hl.1 (Nat.le_of_ble_eq_true rfl) dX4_byteAt_46 ⟨(Nat.le_of_ble_eq_true rfl), (Nat.le_of_ble_eq_true rfl)⟩) hP hD hS hA rfl rfl (by decide) (by decide) (by decide) (Nat.le_of_ble_eq_true rfl) (Nat.le_of_ble_eq_true rfl) (fun r46_1 u46_2 H locs hp46_3 hP hD hS => ?_)
      have hp46_4 := hp46_3
      have hp46_4 : rg r46_1 (-1) 255 := hp46_4
      have hP : va_P D vwCl [(m0s, .inl (ct 0, 64, .inl g_m0s)), (m0, .inr (4, [.ref m0r, .ref m0s, .ref k0, .int x_m0_3, .int x_m0_4, .int x_m0_5, .int x_m0_6, .int x_m0_7, .long x_m0_8, .int x_m0_9])), (k0, .inr (6, [.ref k0c, .ref k0l, .int x_k0_2])), (k0l, .inl (ct 1, 16, .inl g_k0l)), (k0c, .inl (ct 0, 4096, .inl g_k0c))] _ := hP
      have hD : va_D A [(m0s, .inl (ct 0, 64, .inl g_m0s)), (m0, .inr (4, [.ref m0r, .ref m0s, .ref k0, .int x_m0_3, .int x_m0_4, .int x_m0_5, .int x_m0_6, .int x_m0_7, .long x_m0_8, .int x_m0_9])), (k0, .inr (6, [.ref k0c, .ref k0l, .int x_k0_2])), (k0l, .inl (ct 1, 16, .inl g_k0l)), (k0c, .inl (ct 0, 4096, .inl g_k0c))] := hD
      refine lv_goto (tgt := 53) hx hb dX4_byteAt_49 (by decide) ?_
      exact endq_i hQ hx hb hr hlocks dX4_byteAt_53 rfl () hp46_4 hP hD hS [1, 2, 3, 4, 0] rfl (by decide) rfl (Nat.le_of_ble_eq_true rfl) (Nat.le_of_ble_eq_true rfl)
  · have t6_2 := (i_ne c6_1)
    have r6_3 : rg r3_1 1 1 := rg_neAl t6_2 hp3_4 (show rg (0 : Int32) 0 0 from rg_l (by decide)) (by decide)
    have r9_1 : rl v0 131072 131135 := (rl_of (show 131072 ≤ v0.toInt ∧ v0.toInt ≤ 131135 by have q0 := (rl_any v0).1; have q1 := (rl_any v0).2; have q2 := (show rg (1 : Int32) 1 1 from rg_l (by decide)).1; have q3 := (show rg (1 : Int32) 1 1 from rg_l (by decide)).2; have q4 := r6_3.1; have q5 := r6_3.2; have q6 := (show rg (0 : Int32) 0 0 from rg_l (by decide)).1; have q7 := (show rg (0 : Int32) 0 0 from rg_l (by decide)).2; have q8 := hp3_5; have q9 := t6_2; omega))
    refine lv_aload_n hx hb dX4_byteAt_9 rfl (lv_at hl 0 rfl) ?_
    refine va_get (D := D) (ci := 4) (v := .ref m0s) (C := RX4) (T := TX4) (N := 10) hx hb (htX4 hn) (fun _ h => h) hown hK hP 4 rfl rfl 1 (by decide) (hn.get mw_80 rfl) (fun _ h9 => h9) rfl dX4_byteAt_10 ?_
    refine lv_lload_n hx hb dX4_byteAt_13 rfl (lv_at hl 1 rfl) ?_
    refine lv_l2i hx hb dX4_byteAt_14 rfl ?_
    refine lv_topi (fun z14_1 ez14_1 => ?_)
    have r14_2 : rg z14_1 131072 131135 := rg_l2i ez14_1 r9_1 (by decide)
    refine lv_ldc (v := 131072) hx hb hown (hn.get mw_1264 rfl) dX4_byteAt_15 ?_
    refine lv_isub hx hb dX4_byteAt_17 ?_
    refine lv_topi (fun z17_1 ez17_1 => ?_)
    have r17_2 : rg z17_1 0 63 := rg_sub ez17_1 r14_2 (show rg (131072 : Int32) 131072 131072 from rg_l (by decide)) (by decide)
    have hi18_1 : vp_in z17_1 64 := (in_rg r17_2 (by decide))
    refine va_bald hx hb hK hP 3 0 rfl rfl hi18_1 dX4_byteAt_18 ?_
    refine lv_topi (fun z18_2 ez18_2 => ?_)
    have r18_3 : rg z18_2 (-128) 127 := Rg_at h_g_m0s hi18_1 ez18_2
    refine lv_sipush (v := 255) hx hb dX4_byteAt_19 (by decide) ?_
    refine lv_iand hx hb dX4_byteAt_22 ?_
    refine lv_topi (fun z22_1 ez22_1 => ?_)
    have r22_2 : rg z22_1 0 255 := rg_andr ez22_1 (show rg (255 : Int32) 255 255 from rg_l (by decide)) (by decide)
    exact endq_i hQ hx hb hr hlocks dX4_byteAt_23 rfl () (rg_w r22_2 (by decide)) hP hD hS [4, 0, 1, 2, 3] rfl (by decide) rfl (Nat.le_of_ble_eq_true rfl) (Nat.le_of_ble_eq_true rfl)
set_option maxHeartbeats 2000000 in
theorem c_X4_load8 (l : Launch) (D : va_G) (ct : Nat → ClassId) (m0 : Nat) (v0 : Int64) (v1 : Int32) (m0r : Nat) (m0s : Nat) (k0 : Nat) (x_m0_3 : Int32) (x_m0_4 : Int32) (x_m0_5 : Int32) (x_m0_6 : Int32) (x_m0_7 : Int32) (x_m0_8 : Int64) (x_m0_9 : Int32) (k0c : Nat) (k0l : Nat) (x_k0_2 : Int32) (g_k0l : Nat → Int32) (g_k0c : Nat → Int32) (g_m0s : Nat → Int32) (h_v1 : rg v1 0 8) (h_x_m0_9 : rg x_m0_9 0 1) (h_x_k0_2 : rg x_k0_2 0 16) (h_g_k0l : Rg g_k0l 16 0 256) (h_g_k0c : Rg g_k0c 4096 (-128) 127) (h_g_m0s : Rg g_m0s 64 (-128) 127) : KL (S := Unit) l yX4_load8 cX4_load8 7 (some .long) 4 86 D ct [.ref m0, .long v0, .int v1] [(m0, .inr (4, [.ref m0r, .ref m0s, .ref k0, .int x_m0_3, .int x_m0_4, .int x_m0_5, .int x_m0_6, .int x_m0_7, .long x_m0_8, .int x_m0_9])), (k0, .inr (6, [.ref k0c, .ref k0l, .int x_k0_2])), (k0l, .inl (ct 1, 16, .inl g_k0l)), (k0c, .inl (ct 0, 4096, .inl g_k0c)), (m0s, .inl (ct 0, 64, .inl g_m0s))] 0 0 (fun (r : Int64) (_ : Unit) => True) (fun (_ : Unit) => [(m0, .inr (4, [.ref m0r, .ref m0s, .ref k0, .int x_m0_3, .int x_m0_4, .int x_m0_5, .int x_m0_6, .int x_m0_7, .long x_m0_8, .int x_m0_9])), (k0, .inr (6, [.ref k0c, .ref k0l, .int x_k0_2])), (k0l, .inl (ct 1, 16, .inl g_k0l)), (k0c, .inl (ct 0, 4096, .inl g_k0c)), (m0s, .inl (ct 0, 64, .inl g_m0s))]) := by
  refine KLq_of (by decide) (Nat.le_of_ble_eq_true rfl) (fun p e s m below meth c A Q C0 hA H locs hS hP hD hQ ls hl => ?_)
  obtain ⟨hx, hb, hr, hown, hin, hml, hlocks, hn, hK, hZ, hSK⟩ := C0
  have hl : lv_has ls 7 [(0, .ref m0), (1, .long v0), (3, .int v1)] := hl
  refine lv_lconst (v := 0) hx hb dX4_load8_0 (by decide) ?_
  refine lv_lstore (lv' := [(4, .long 0), (0, .ref m0), (1, .long v0), (3, .int v1)]) hx hb dX4_load8_1 hl (by decide) rfl (fun ls hl => ?_)
  refine lv_iload_n hx hb dX4_load8_3 rfl (lv_at hl 3 rfl) ?_
  refine lv_iconst (v := 1) hx hb dX4_load8_4 (by decide) ?_
  refine lv_isub hx hb dX4_load8_5 ?_
  refine lv_topi (fun z5_1 ez5_1 => ?_)
  have r5_2 : rg z5_1 (-1) 7 := rg_sub ez5_1 h_v1 (show rg (1 : Int32) 1 1 from rg_l (by decide)) (by decide)
  refine lv_istore (lv' := [(6, .int z5_1), (4, .long 0), (0, .ref m0), (1, .long v0), (3, .int v1)]) hx hb dX4_load8_6 hl (by decide) rfl (fun ls hl => ?_)
  have b8 : ∀ (n : Nat) (j8_l4 : Int64) (j8_l6 : Int32) (H : Heap) (locs : List Loc) (ls : Array Slot), (rg j8_l6 (-1) 7) → (j8_l6.toInt + 2147483648).toNat < n → lv_has ls 7 [(0, .ref m0), (1, .long v0), (4, .long j8_l4), (6, .int j8_l6)] → va_P D vwCl [(m0, .inr (4, [.ref m0r, .ref m0s, .ref k0, .int x_m0_3, .int x_m0_4, .int x_m0_5, .int x_m0_6, .int x_m0_7, .long x_m0_8, .int x_m0_9])), (k0, .inr (6, [.ref k0c, .ref k0l, .int x_k0_2])), (k0l, .inl (ct 1, 16, .inl g_k0l)), (k0c, .inl (ct 0, 4096, .inl g_k0c)), (m0s, .inl (ct 0, 64, .inl g_m0s))] H → va_D A [(m0, .inr (4, [.ref m0r, .ref m0s, .ref k0, .int x_m0_3, .int x_m0_4, .int x_m0_5, .int x_m0_6, .int x_m0_7, .long x_m0_8, .int x_m0_9])), (k0, .inr (6, [.ref k0c, .ref k0l, .int x_k0_2])), (k0l, .inl (ct 1, 16, .inl g_k0l)), (k0c, .inl (ct 0, 4096, .inl g_k0c)), (m0s, .inl (ct 0, 64, .inl g_m0s))] → va_S A s.heap H locs → W p l e ({ frames := 4, cells := 0, slots := 0, locals := 86 }) s m [.ref m0, .long v0, .int v1].toArray below meth c H locs 0 0 Q (F0 m 8 ls []) := by
    intro n
    induction n with
    | zero => intros; rename_i hms _ _ _ _; exact absurd hms (Nat.not_lt_zero _)
    | succ n ih =>
      intro j8_l4 j8_l6 H locs ls r8_1001 hms hl hP hD hS
      refine lv_iload hx hb dX4_load8_8 (lv_at hl 3 rfl) ?_
      refine lv_if_lt (tgt := 37) hx hb dX4_load8_10 (by decide) (fun c10_1 => ?_) (fun c10_1 => ?_)
      · have t10_2 := (i_lt c10_1)
        have r10_3 : rg j8_l6 (-1) (-1) := rg_ltA t10_2 r8_1001 (show rg (0 : Int32) 0 0 from rg_l (by decide)) (by decide)
        refine lv_lload hx hb dX4_load8_37 (lv_at hl 2 rfl) ?_
        exact endq_l hQ hx hb hr hlocks dX4_load8_39 () trivial hP hD hS [0, 1, 2, 3, 4] rfl (by decide) rfl (Nat.le_of_ble_eq_true rfl) (Nat.le_of_ble_eq_true rfl)
      · have t10_2 := (i_nlt c10_1)
        have r10_3 : rg j8_l6 0 7 := rg_leB t10_2 (show rg (0 : Int32) 0 0 from rg_l (by decide)) r8_1001 (by decide)
        refine lv_lload hx hb dX4_load8_13 (lv_at hl 2 rfl) ?_
        refine lv_bipush (v := 8) hx hb dX4_load8_15 (by decide) ?_
        refine lv_lshl hx hb dX4_load8_17 rfl ?_
        refine lv_topl (fun z17_1 ez17_1 => ?_)
        refine lv_aload_n hx hb dX4_load8_18 rfl (lv_at hl 0 rfl) ?_
        refine lv_lload_n hx hb dX4_load8_19 rfl (lv_at hl 1 rfl) ?_
        refine lv_iload hx hb dX4_load8_20 (lv_at hl 3 rfl) ?_
        refine lv_i2l hx hb dX4_load8_22 rfl ?_
        refine lv_topl (fun z22_1 ez22_1 => ?_)
        have r22_2 : rl z22_1 0 7 := rl_i2l ez22_1 r10_3
        refine lv_ladd hx hb dX4_load8_23 ?_
        refine lv_topl (fun z23_1 ez23_1 => ?_)
        refine go_i (k1 := 0) (n1 := 0) (wr := []) [0, 1, 2, 3, 4] [] (rn_V (As := [.long z23_1]) (rest := [.long z17_1]) (c_X4_byteAt l D ct m0 z23_1 m0r m0s k0 x_m0_3 x_m0_4 x_m0_5 x_m0_6 x_m0_7 x_m0_8 x_m0_9 k0c k0l x_k0_2 g_k0l g_k0c g_m0s h_x_m0_9 h_x_k0_2 h_g_k0l h_g_k0c h_g_m0s _) (cb_of (n := 1) hn mw_1262 mw_4 mw_1259 mhX4_byteAt ⟨(Nat.le_of_ble_eq_true rfl), (Nat.le_of_ble_eq_true rfl)⟩) hx hb hml hown hn hK hSK hZ hS mw_1261 mw_s140 (ci := 4) (q0 := 0) rfl rfl rfl rfl hl.1 (Nat.le_of_ble_eq_true rfl) dX4_load8_24 ⟨(Nat.le_of_ble_eq_true rfl), (Nat.le_of_ble_eq_true rfl)⟩) hP hD hS hA rfl rfl (by decide) (by decide) (by decide) (Nat.le_of_ble_eq_true rfl) (Nat.le_of_ble_eq_true rfl) (fun r24_1 u24_2 H locs hp24_3 hP hD hS => ?_)
        have hp24_4 := hp24_3
        have hp24_4 : rg r24_1 (-1) 255 := hp24_4
        have hP : va_P D vwCl [(m0, .inr (4, [.ref m0r, .ref m0s, .ref k0, .int x_m0_3, .int x_m0_4, .int x_m0_5, .int x_m0_6, .int x_m0_7, .long x_m0_8, .int x_m0_9])), (k0, .inr (6, [.ref k0c, .ref k0l, .int x_k0_2])), (k0l, .inl (ct 1, 16, .inl g_k0l)), (k0c, .inl (ct 0, 4096, .inl g_k0c)), (m0s, .inl (ct 0, 64, .inl g_m0s))] _ := hP
        have hD : va_D A [(m0, .inr (4, [.ref m0r, .ref m0s, .ref k0, .int x_m0_3, .int x_m0_4, .int x_m0_5, .int x_m0_6, .int x_m0_7, .long x_m0_8, .int x_m0_9])), (k0, .inr (6, [.ref k0c, .ref k0l, .int x_k0_2])), (k0l, .inl (ct 1, 16, .inl g_k0l)), (k0c, .inl (ct 0, 4096, .inl g_k0c)), (m0s, .inl (ct 0, 64, .inl g_m0s))] := hD
        refine lv_i2l hx hb dX4_load8_27 rfl ?_
        refine lv_topl (fun z27_1 ez27_1 => ?_)
        have r27_2 : rl z27_1 (-1) 255 := rl_i2l ez27_1 hp24_4
        refine lv_lor hx hb dX4_load8_28 ?_
        refine lv_topl (fun z28_1 ez28_1 => ?_)
        refine lv_lstore (lv' := [(4, .long z28_1), (0, .ref m0), (1, .long v0), (6, .int j8_l6)]) hx hb dX4_load8_29 hl (by decide) rfl (fun ls hl => ?_)
        obtain ⟨x31_1, ex31_1⟩ : ∃ z : Int32, z = j8_l6 + (-1) := ⟨_, rfl⟩
        have r31_2 : rg x31_1 (-1) 6 := rg_add ex31_1 r10_3 (show rg ((-1) : Int32) (-1) (-1) from rg_l (by decide)) (by decide)
        refine lv_iinc (v := x31_1) (lv' := [(6, .int x31_1), (4, .long z28_1), (0, .ref m0), (1, .long v0)]) hx hb dX4_load8_31 hl (k := 3) rfl (by rw [ex31_1]; rfl) (by decide) rfl (fun ls hl => ?_)
        refine lv_goto (tgt := 8) hx hb dX4_load8_34 (by decide) ?_
        exact ih z28_1 x31_1 H locs ls (rg_w r31_2 (by decide)) (show (x31_1.toInt + 2147483648).toNat < n by have q0 := r10_3.1; have q1 := r10_3.2; have q2 := r31_2.1; have q3 := r31_2.2; have q4 := (eq_add ex31_1 r10_3 (show rg ((-1) : Int32) (-1) (-1) from rg_l (by decide)) (by decide)); have q5 := (show rg ((-1) : Int32) (-1) (-1) from rg_l (by decide)).1; have q6 := (show rg ((-1) : Int32) (-1) (-1) from rg_l (by decide)).2; have q7 := (show rg (0 : Int32) 0 0 from rg_l (by decide)).1; have q8 := (show rg (0 : Int32) 0 0 from rg_l (by decide)).2; have q9 := t10_2; have q10 := hms; omega) (lv_sub hl [2, 3, 1, 0] rfl) hP hD hS
  exact b8 _ (0 : Int64) z5_1 H locs ls r5_2 (Nat.lt_succ_self _) (lv_sub hl [2, 3, 1, 0] rfl) hP hD hS
set_option maxHeartbeats 2000000 in
theorem c_X4_store (l : Launch) (D : va_G) (ct : Nat → ClassId) (m0 : Nat) (v0 : Int64) (v1 : Int32) (v2 : Int64) (m0r : Nat) (m0s : Nat) (k0 : Nat) (x_m0_3 : Int32) (x_m0_4 : Int32) (x_m0_5 : Int32) (x_m0_6 : Int32) (x_m0_7 : Int32) (x_m0_8 : Int64) (x_m0_9 : Int32) (g_m0s : Nat → Int32) (h_v1 : rg v1 0 8) (h_x_m0_9 : rg x_m0_9 0 1) (h_g_m0s : Rg g_m0s 64 (-128) 127) : KV (S := (Nat → Int32)) l yX4_store cX4_store 7 none 2 43 D ct [.ref m0, .long v0, .int v1, .long v2] [(m0, .inr (4, [.ref m0r, .ref m0s, .ref k0, .int x_m0_3, .int x_m0_4, .int x_m0_5, .int x_m0_6, .int x_m0_7, .long x_m0_8, .int x_m0_9])), (m0s, .inl (ct 0, 64, .inl g_m0s))] 0 0 (fun (k_m0s : (Nat → Int32)) => Rg k_m0s 64 (-128) 127) (fun (k_m0s : (Nat → Int32)) => [(m0, .inr (4, [.ref m0r, .ref m0s, .ref k0, .int x_m0_3, .int x_m0_4, .int x_m0_5, .int x_m0_6, .int x_m0_7, .long x_m0_8, .int x_m0_9])), (m0s, .inl (ct 0, 64, .inl k_m0s))]) := by
  refine KVq_of (by decide) (Nat.le_of_ble_eq_true rfl) (fun p e s m below meth c A Q C0 hA H locs hS hP hD hQ ls hl => ?_)
  obtain ⟨hx, hb, hr, hown, hin, hml, hlocks, hn, hK, hZ, hSK⟩ := C0
  have hl : lv_has ls 7 [(0, .ref m0), (1, .long v0), (3, .int v1), (4, .long v2)] := hl
  refine lv_aload_n hx hb dX4_store_0 rfl (lv_at hl 0 rfl) ?_
  refine lv_lload_n hx hb dX4_store_1 rfl (lv_at hl 1 rfl) ?_
  refine lv_iload_n hx hb dX4_store_2 rfl (lv_at hl 2 rfl) ?_
  refine go_i (k1 := 0) (n1 := 0) (wr := [(m0s, .inl (ct 0, 64, .inl g_m0s))]) [0] [1] (rn_V (As := [.long v0, .int v1]) (rest := []) (c_X4_inStack l D ct m0 v0 v1 m0r m0s k0 x_m0_3 x_m0_4 x_m0_5 x_m0_6 x_m0_7 x_m0_8 x_m0_9 h_v1 h_x_m0_9 _) (cb_of (n := 2) hn mw_1252 mw_4 mw_1263 mhX4_inStack ⟨(Nat.le_of_ble_eq_true rfl), (Nat.le_of_ble_eq_true rfl)⟩) hx hb hml hown hn hK hSK hZ hS mw_1251 mw_s138 (ci := 4) (q0 := 0) rfl rfl rfl rfl hl.1 (Nat.le_of_ble_eq_true rfl) dX4_store_3 ⟨(Nat.le_of_ble_eq_true rfl), (Nat.le_of_ble_eq_true rfl)⟩) hP hD hS hA rfl rfl (by decide) (by decide) (by decide) (Nat.le_of_ble_eq_true rfl) (Nat.le_of_ble_eq_true rfl) (fun r3_1 u3_2 H locs hp3_3 hP hD hS => ?_)
  obtain ⟨hp3_4, hp3_5⟩ := hp3_3
  have hp3_4 : rg r3_1 0 1 := hp3_4
  have hp3_5 : r3_1.toInt = 1 → 131072 ≤ v0.toInt ∧ v0.toInt ≤ 131136 - v1.toInt := hp3_5
  have hP : va_P D vwCl [(m0s, .inl (ct 0, 64, .inl g_m0s)), (m0, .inr (4, [.ref m0r, .ref m0s, .ref k0, .int x_m0_3, .int x_m0_4, .int x_m0_5, .int x_m0_6, .int x_m0_7, .long x_m0_8, .int x_m0_9]))] _ := hP
  have hD : va_D A [(m0s, .inl (ct 0, 64, .inl g_m0s)), (m0, .inr (4, [.ref m0r, .ref m0s, .ref k0, .int x_m0_3, .int x_m0_4, .int x_m0_5, .int x_m0_6, .int x_m0_7, .long x_m0_8, .int x_m0_9]))] := hD
  refine lv_if_ne (tgt := 10) hx hb dX4_store_6 (by decide) (fun c6_1 => ?_) (fun c6_1 => ?_)
  · have t6_2 := (i_ne c6_1)
    have r6_3 : rg r3_1 1 1 := rg_neAl t6_2 hp3_4 (show rg (0 : Int32) 0 0 from rg_l (by decide)) (by decide)
    have r10_1 : rl v0 131072 131136 := (rl_of (show 131072 ≤ v0.toInt ∧ v0.toInt ≤ 131136 by have q0 := (rl_any v0).1; have q1 := (rl_any v0).2; have q2 := h_v1.1; have q3 := h_v1.2; have q4 := r6_3.1; have q5 := r6_3.2; have q6 := (show rg (0 : Int32) 0 0 from rg_l (by decide)).1; have q7 := (show rg (0 : Int32) 0 0 from rg_l (by decide)).2; have q8 := hp3_5; have q9 := t6_2; omega))
    refine lv_iconst (v := 0) hx hb dX4_store_10 (by decide) ?_
    refine lv_istore (lv' := [(6, .int 0), (0, .ref m0), (1, .long v0), (3, .int v1), (4, .long v2)]) hx hb dX4_store_11 hl (by decide) rfl (fun ls hl => ?_)
    have b13 : ∀ (n : Nat) (j13_l6 : Int32) (j13_cm0s : Nat → Int32) (H : Heap) (locs : List Loc) (ls : Array Slot), (rg j13_l6 0 8) → (Rg j13_cm0s 64 (-128) 127) → ((2147483647 : Int) - j13_l6.toInt).toNat < n → lv_has ls 7 [(0, .ref m0), (1, .long v0), (3, .int v1), (4, .long v2), (6, .int j13_l6)] → va_P D vwCl [(m0s, .inl (ct 0, 64, .inl j13_cm0s)), (m0, .inr (4, [.ref m0r, .ref m0s, .ref k0, .int x_m0_3, .int x_m0_4, .int x_m0_5, .int x_m0_6, .int x_m0_7, .long x_m0_8, .int x_m0_9]))] H → va_D A [(m0s, .inl (ct 0, 64, .inl j13_cm0s)), (m0, .inr (4, [.ref m0r, .ref m0s, .ref k0, .int x_m0_3, .int x_m0_4, .int x_m0_5, .int x_m0_6, .int x_m0_7, .long x_m0_8, .int x_m0_9]))] → va_S A s.heap H locs → W p l e ({ frames := 2, cells := 0, slots := 0, locals := 43 }) s m [.ref m0, .long v0, .int v1, .long v2].toArray below meth c H locs 0 0 Q (F0 m 13 ls []) := by
      intro n
      induction n with
      | zero => intros; rename_i hms _ _ _ _; exact absurd hms (Nat.not_lt_zero _)
      | succ n ih =>
        intro j13_l6 j13_cm0s H locs ls r13_1001 hc13_1002 hms hl hP hD hS
        refine lv_iload hx hb dX4_store_13 (lv_at hl 4 rfl) ?_
        refine lv_iload_n hx hb dX4_store_15 rfl (lv_at hl 2 rfl) ?_
        refine lv_icmp_ge (tgt := 48) hx hb dX4_store_16 (by decide) (fun c16_1 => ?_) (fun c16_1 => ?_)
        · have t16_2 := (i_le c16_1)
          exact endq_v hQ hx hb hr hlocks dX4_store_48 j13_cm0s hc13_1002 hP hD hS [1, 0] rfl (by decide) rfl (Nat.le_of_ble_eq_true rfl) (Nat.le_of_ble_eq_true rfl)
        · have t16_2 := (i_nle c16_1)
          have r16_3 : rg j13_l6 0 7 := rg_ltA t16_2 r13_1001 h_v1 (by decide)
          have r16_4 : rg v1 1 8 := rg_ltB t16_2 r13_1001 h_v1 (by decide)
          refine lv_aload_n hx hb dX4_store_19 rfl (lv_at hl 0 rfl) ?_
          refine va_get (D := D) (ci := 4) (v := .ref m0s) (C := RX4) (T := TX4) (N := 10) hx hb (htX4 hn) (fun _ h => h) hown hK hP 1 rfl rfl 1 (by decide) (hn.get mw_80 rfl) (fun _ h9 => h9) rfl dX4_store_20 ?_
          refine lv_lload_n hx hb dX4_store_23 rfl (lv_at hl 1 rfl) ?_
          refine lv_l2i hx hb dX4_store_24 rfl ?_
          refine lv_topi (fun z24_1 ez24_1 => ?_)
          have r24_2 : rg z24_1 131072 131136 := rg_l2i ez24_1 r10_1 (by decide)
          refine lv_ldc (v := 131072) hx hb hown (hn.get mw_1264 rfl) dX4_store_25 ?_
          refine lv_isub hx hb dX4_store_27 ?_
          refine lv_topi (fun z27_1 ez27_1 => ?_)
          have r27_2 : rg z27_1 0 64 := rg_sub ez27_1 r24_2 (show rg (131072 : Int32) 131072 131072 from rg_l (by decide)) (by decide)
          refine lv_iload hx hb dX4_store_28 (lv_at hl 4 rfl) ?_
          refine lv_iadd hx hb dX4_store_30 ?_
          refine lv_topi (fun z30_1 ez30_1 => ?_)
          have r30_2 : rg z30_1 0 71 := rg_add ez30_1 r27_2 r16_3 (by decide)
          refine lv_lload hx hb dX4_store_31 (lv_at hl 3 rfl) ?_
          refine lv_bipush (v := 8) hx hb dX4_store_33 (by decide) ?_
          refine lv_iload hx hb dX4_store_35 (lv_at hl 4 rfl) ?_
          refine lv_imul hx hb dX4_store_37 ?_
          refine lv_topi (fun z37_1 ez37_1 => ?_)
          have r37_2 : rg z37_1 0 56 := rg_mul ez37_1 (show rg (8 : Int32) 8 8 from rg_l (by decide)) r16_3 (by decide)
          refine lv_lushr hx hb dX4_store_38 rfl ?_
          refine lv_topl (fun z38_1 ez38_1 => ?_)
          refine lv_l2i hx hb dX4_store_39 rfl ?_
          refine lv_topi (fun z39_1 ez39_1 => ?_)
          refine lv_i2b hx hb dX4_store_40 rfl ?_
          refine lv_topi (fun z40_1 ez40_1 => ?_)
          have r40_2 : rg z40_1 (-128) 127 := rg_i2b ez40_1
          have hi41_1 : vp_in z30_1 64 := (in_of (show 0 ≤ z30_1.toInt ∧ z30_1.toInt < 64 by have q0 := r30_2.1; have q1 := r30_2.2; have q2 := (eq_add ez30_1 r27_2 r16_3 (by decide)); have q3 := r16_3.1; have q4 := r16_3.2; have q5 := r27_2.1; have q6 := r27_2.2; have q7 := (eq_sub ez27_1 r24_2 (show rg (131072 : Int32) 131072 131072 from rg_l (by decide)) (by decide)); have q8 := (show rg (131072 : Int32) 131072 131072 from rg_l (by decide)).1; have q9 := (show rg (131072 : Int32) 131072 131072 from rg_l (by decide)).2; have q10 := r24_2.1; have q11 := r24_2.2; have q12 := (eq_l2i ez24_1 r10_1 (by decide)); have q13 := r10_1.1; have q14 := r10_1.2; have q15 := r16_4.1; have q16 := r16_4.2; have q17 := r6_3.1; have q18 := r6_3.2; have q19 := (show rg (0 : Int32) 0 0 from rg_l (by decide)).1; have q20 := (show rg (0 : Int32) 0 0 from rg_l (by decide)).2; have q21 := hp3_5; have q22 := t6_2; have q23 := t16_2; omega))
          refine va_bast hx hb hK hP hD hS 0 0 rfl rfl hi41_1 dX4_store_41 (fun H locs hP hD hS => ?_)
          have hP : va_P D vwCl [(m0s, .inl (ct 0, 64, .inl (upd j13_cm0s z30_1.toNatClampNeg (vp_nar .byte z40_1)))), (m0, .inr (4, [.ref m0r, .ref m0s, .ref k0, .int x_m0_3, .int x_m0_4, .int x_m0_5, .int x_m0_6, .int x_m0_7, .long x_m0_8, .int x_m0_9]))] _ := hP
          have hD : va_D A [(m0s, .inl (ct 0, 64, .inl (upd j13_cm0s z30_1.toNatClampNeg (vp_nar .byte z40_1)))), (m0, .inr (4, [.ref m0r, .ref m0s, .ref k0, .int x_m0_3, .int x_m0_4, .int x_m0_5, .int x_m0_6, .int x_m0_7, .long x_m0_8, .int x_m0_9]))] := hD
          obtain ⟨f41_2, ef41_2⟩ : ∃ z, z = (upd j13_cm0s z30_1.toNatClampNeg (vp_nar .byte z40_1)) := ⟨_, rfl⟩
          rw [← ef41_2] at hP hD
          have hc41_3 : Rg f41_2 64 (-128) 127 := Rg_upd ef41_2 hc13_1002 (rg_narB z40_1)
          obtain ⟨x42_1, ex42_1⟩ : ∃ z : Int32, z = j13_l6 + 1 := ⟨_, rfl⟩
          have r42_2 : rg x42_1 1 8 := rg_add ex42_1 r16_3 (show rg (1 : Int32) 1 1 from rg_l (by decide)) (by decide)
          refine lv_iinc (v := x42_1) (lv' := [(6, .int x42_1), (0, .ref m0), (1, .long v0), (3, .int v1), (4, .long v2)]) hx hb dX4_store_42 hl (k := 4) rfl (by rw [ex42_1]; rfl) (by decide) rfl (fun ls hl => ?_)
          refine lv_goto (tgt := 13) hx hb dX4_store_45 (by decide) ?_
          exact ih x42_1 f41_2 H locs ls (rg_w r42_2 (by decide)) hc41_3 (show ((2147483647 : Int) - x42_1.toInt).toNat < n by have q0 := r16_3.1; have q1 := r16_3.2; have q2 := r42_2.1; have q3 := r42_2.2; have q4 := (eq_add ex42_1 r16_3 (show rg (1 : Int32) 1 1 from rg_l (by decide)) (by decide)); have q5 := (show rg (1 : Int32) 1 1 from rg_l (by decide)).1; have q6 := (show rg (1 : Int32) 1 1 from rg_l (by decide)).2; have q7 := r16_4.1; have q8 := r16_4.2; have q9 := r10_1.1; have q10 := r10_1.2; have q11 := r6_3.1; have q12 := r6_3.2; have q13 := (show rg (0 : Int32) 0 0 from rg_l (by decide)).1; have q14 := (show rg (0 : Int32) 0 0 from rg_l (by decide)).2; have q15 := hp3_5; have q16 := t6_2; have q17 := t16_2; have q18 := hms; omega) (lv_sub hl [1, 2, 3, 4, 0] rfl) hP hD hS
    exact b13 _ (0 : Int32) g_m0s H locs ls (rg_w (show rg (0 : Int32) 0 0 from rg_l (by decide)) (by decide)) h_g_m0s (Nat.lt_succ_self _) (lv_sub hl [1, 2, 3, 4, 0] rfl) hP hD hS
  · have t6_2 := (i_eq c6_1)
    have r6_3 : rg r3_1 0 0 := rg_eqA t6_2 hp3_4 (show rg (0 : Int32) 0 0 from rg_l (by decide)) (by decide)
    exact endq_v hQ hx hb hr hlocks dX4_store_9 g_m0s h_g_m0s hP hD hS [1, 0] rfl (by decide) rfl (Nat.le_of_ble_eq_true rfl) (Nat.le_of_ble_eq_true rfl)
set_option maxHeartbeats 2000000 in
theorem c_X7_codeOf (l : Launch) (D : va_G) (ct : Nat → ClassId) (v0 : Int64)  : KI (S := Unit) l yX7_codeOf cX7_codeOf 2 (some .int) 1 20 D ct [.long v0] [] 0 0 (fun (r : Int32) (_ : Unit) => rg r 0 255 ∧ (r.toInt = v0.toInt % 256)) (fun (_ : Unit) => []) := by
  refine KIq_of (by decide) (Nat.le_of_ble_eq_true rfl) (fun p e s m below meth c A Q C0 hA H locs hS hP hD hQ ls hl => ?_)
  obtain ⟨hx, hb, hr, hown, hin, hml, hlocks, hn, hK, hZ, hSK⟩ := C0
  have hl : lv_has ls 2 [(0, .long v0)] := hl
  refine lv_lload_n hx hb dX7_codeOf_0 rfl (lv_at hl 0 rfl) ?_
  refine lv_l2i hx hb dX7_codeOf_1 rfl ?_
  refine lv_topi (fun z1_1 ez1_1 => ?_)
  refine lv_sipush (v := 255) hx hb dX7_codeOf_2 (by decide) ?_
  refine lv_iand hx hb dX7_codeOf_5 ?_
  refine lv_topi (fun z5_1 ez5_1 => ?_)
  have r5_2 : rg z5_1 0 255 := rg_andr ez5_1 (show rg (255 : Int32) 255 255 from rg_l (by decide)) (by decide)
  exact endq_i hQ hx hb hr hlocks dX7_codeOf_6 rfl () ⟨r5_2, (show z5_1.toInt = v0.toInt % 256 by have q0 := (rl_any v0).1; have q1 := (rl_any v0).2; have q2 := r5_2.1; have q3 := r5_2.2; have q4 := (eq_and (c := 256) (k := 8) ez5_1 (by decide) (by decide)); have q5 := (rg_any z1_1).1; have q6 := (rg_any z1_1).2; have q7 := (em_l2i ez1_1); omega)⟩ hP hD hS [] rfl (by decide) rfl (Nat.le_of_ble_eq_true rfl) (Nat.le_of_ble_eq_true rfl)
set_option maxHeartbeats 2000000 in
theorem c_X7_dOf (l : Launch) (D : va_G) (ct : Nat → ClassId) (v0 : Int64)  : KI (S := Unit) l yX7_dOf cX7_dOf 2 (some .int) 1 20 D ct [.long v0] [] 0 0 (fun (r : Int32) (_ : Unit) => rg r 0 15 ∧ (r.toInt = (v0.toInt / 256) % 16)) (fun (_ : Unit) => []) := by
  refine KIq_of (by decide) (Nat.le_of_ble_eq_true rfl) (fun p e s m below meth c A Q C0 hA H locs hS hP hD hQ ls hl => ?_)
  obtain ⟨hx, hb, hr, hown, hin, hml, hlocks, hn, hK, hZ, hSK⟩ := C0
  have hl : lv_has ls 2 [(0, .long v0)] := hl
  refine lv_lload_n hx hb dX7_dOf_0 rfl (lv_at hl 0 rfl) ?_
  refine lv_l2i hx hb dX7_dOf_1 rfl ?_
  refine lv_topi (fun z1_1 ez1_1 => ?_)
  refine lv_bipush (v := 8) hx hb dX7_dOf_2 (by decide) ?_
  refine lv_ishr hx hb dX7_dOf_4 ?_
  refine lv_topi (fun z4_1 ez4_1 => ?_)
  have r4_2 : rg z4_1 (-8388608) 8388607 := rg_shr (k := 8) ez4_1 (by decide) (rg_any z1_1) (by decide)
  refine lv_bipush (v := 15) hx hb dX7_dOf_5 (by decide) ?_
  refine lv_iand hx hb dX7_dOf_7 ?_
  refine lv_topi (fun z7_1 ez7_1 => ?_)
  have r7_2 : rg z7_1 0 15 := rg_andr ez7_1 (show rg (15 : Int32) 15 15 from rg_l (by decide)) (by decide)
  exact endq_i hQ hx hb hr hlocks dX7_dOf_8 rfl () ⟨r7_2, (show z7_1.toInt = (v0.toInt / 256) % 16 by have q0 := (rl_any v0).1; have q1 := (rl_any v0).2; have q2 := r7_2.1; have q3 := r7_2.2; have q4 := (eq_and (c := 16) (k := 4) ez7_1 (by decide) (by decide)); have q5 := r4_2.1; have q6 := r4_2.2; have q7 := (eq_shr (c := 256) (k := 8) ez4_1 (by decide) (by decide)); have q8 := (rg_any z1_1).1; have q9 := (rg_any z1_1).2; have q10 := (em_l2i ez1_1); omega)⟩ hP hD hS [] rfl (by decide) rfl (Nat.le_of_ble_eq_true rfl) (Nat.le_of_ble_eq_true rfl)
set_option maxHeartbeats 2000000 in
theorem c_X7_sOf (l : Launch) (D : va_G) (ct : Nat → ClassId) (v0 : Int64)  : KI (S := Unit) l yX7_sOf cX7_sOf 2 (some .int) 1 20 D ct [.long v0] [] 0 0 (fun (r : Int32) (_ : Unit) => rg r 0 15 ∧ (r.toInt = (v0.toInt / 4096) % 16)) (fun (_ : Unit) => []) := by
  refine KIq_of (by decide) (Nat.le_of_ble_eq_true rfl) (fun p e s m below meth c A Q C0 hA H locs hS hP hD hQ ls hl => ?_)
  obtain ⟨hx, hb, hr, hown, hin, hml, hlocks, hn, hK, hZ, hSK⟩ := C0
  have hl : lv_has ls 2 [(0, .long v0)] := hl
  refine lv_lload_n hx hb dX7_sOf_0 rfl (lv_at hl 0 rfl) ?_
  refine lv_l2i hx hb dX7_sOf_1 rfl ?_
  refine lv_topi (fun z1_1 ez1_1 => ?_)
  refine lv_bipush (v := 12) hx hb dX7_sOf_2 (by decide) ?_
  refine lv_ishr hx hb dX7_sOf_4 ?_
  refine lv_topi (fun z4_1 ez4_1 => ?_)
  have r4_2 : rg z4_1 (-524288) 524287 := rg_shr (k := 12) ez4_1 (by decide) (rg_any z1_1) (by decide)
  refine lv_bipush (v := 15) hx hb dX7_sOf_5 (by decide) ?_
  refine lv_iand hx hb dX7_sOf_7 ?_
  refine lv_topi (fun z7_1 ez7_1 => ?_)
  have r7_2 : rg z7_1 0 15 := rg_andr ez7_1 (show rg (15 : Int32) 15 15 from rg_l (by decide)) (by decide)
  exact endq_i hQ hx hb hr hlocks dX7_sOf_8 rfl () ⟨r7_2, (show z7_1.toInt = (v0.toInt / 4096) % 16 by have q0 := (rl_any v0).1; have q1 := (rl_any v0).2; have q2 := r7_2.1; have q3 := r7_2.2; have q4 := (eq_and (c := 16) (k := 4) ez7_1 (by decide) (by decide)); have q5 := r4_2.1; have q6 := r4_2.2; have q7 := (eq_shr (c := 4096) (k := 12) ez4_1 (by decide) (by decide)); have q8 := (rg_any z1_1).1; have q9 := (rg_any z1_1).2; have q10 := (em_l2i ez1_1); omega)⟩ hP hD hS [] rfl (by decide) rfl (Nat.le_of_ble_eq_true rfl) (Nat.le_of_ble_eq_true rfl)
set_option maxHeartbeats 2000000 in
theorem c_X7_offOf (l : Launch) (D : va_G) (ct : Nat → ClassId) (v0 : Int64)  : KI (S := Unit) l yX7_offOf cX7_offOf 2 (some .int) 1 20 D ct [.long v0] [] 0 0 (fun (r : Int32) (_ : Unit) => rg r (-32768) 32767) (fun (_ : Unit) => []) := by
  refine KIq_of (by decide) (Nat.le_of_ble_eq_true rfl) (fun p e s m below meth c A Q C0 hA H locs hS hP hD hQ ls hl => ?_)
  obtain ⟨hx, hb, hr, hown, hin, hml, hlocks, hn, hK, hZ, hSK⟩ := C0
  have hl : lv_has ls 2 [(0, .long v0)] := hl
  refine lv_lload_n hx hb dX7_offOf_0 rfl (lv_at hl 0 rfl) ?_
  refine lv_bipush (v := 16) hx hb dX7_offOf_1 (by decide) ?_
  refine lv_lshr hx hb dX7_offOf_3 rfl ?_
  refine lv_topl (fun z3_1 ez3_1 => ?_)
  refine lv_l2i hx hb dX7_offOf_4 rfl ?_
  refine lv_topi (fun z4_1 ez4_1 => ?_)
  refine lv_i2s hx hb dX7_offOf_5 rfl ?_
  refine lv_topi (fun z5_1 ez5_1 => ?_)
  have r5_2 : rg z5_1 (-32768) 32767 := rg_i2s ez5_1
  exact endq_i hQ hx hb hr hlocks dX7_offOf_6 rfl () r5_2 hP hD hS [] rfl (by decide) rfl (Nat.le_of_ble_eq_true rfl) (Nat.le_of_ble_eq_true rfl)
set_option maxHeartbeats 2000000 in
theorem c_X7_kOf (l : Launch) (D : va_G) (ct : Nat → ClassId) (v0 : Int64)  : KI (S := Unit) l yX7_kOf cX7_kOf 2 (some .int) 1 20 D ct [.long v0] [] 0 0 (fun (r : Int32) (_ : Unit) => True) (fun (_ : Unit) => []) := by
  refine KIq_of (by decide) (Nat.le_of_ble_eq_true rfl) (fun p e s m below meth c A Q C0 hA H locs hS hP hD hQ ls hl => ?_)
  obtain ⟨hx, hb, hr, hown, hin, hml, hlocks, hn, hK, hZ, hSK⟩ := C0
  have hl : lv_has ls 2 [(0, .long v0)] := hl
  refine lv_lload_n hx hb dX7_kOf_0 rfl (lv_at hl 0 rfl) ?_
  refine lv_bipush (v := 32) hx hb dX7_kOf_1 (by decide) ?_
  refine lv_lshr hx hb dX7_kOf_3 rfl ?_
  refine lv_topl (fun z3_1 ez3_1 => ?_)
  refine lv_l2i hx hb dX7_kOf_4 rfl ?_
  refine lv_topi (fun z4_1 ez4_1 => ?_)
  exact endq_i hQ hx hb hr hlocks dX7_kOf_5 rfl () trivial hP hD hS [] rfl (by decide) rfl (Nat.le_of_ble_eq_true rfl) (Nat.le_of_ble_eq_true rfl)
set_option maxHeartbeats 2000000 in
theorem c_X7_isWide (l : Launch) (D : va_G) (ct : Nat → ClassId) (v0 : Int32)  : KI (S := Unit) l yX7_isWide cX7_isWide 1 (some .boolean) 1 20 D ct [.int v0] [] 0 0 (fun (r : Int32) (_ : Unit) => rg r 0 1) (fun (_ : Unit) => []) := by
  refine KIq_of (by decide) (Nat.le_of_ble_eq_true rfl) (fun p e s m below meth c A Q C0 hA H locs hS hP hD hQ ls hl => ?_)
  obtain ⟨hx, hb, hr, hown, hin, hml, hlocks, hn, hK, hZ, hSK⟩ := C0
  have hl : lv_has ls 1 [(0, .int v0)] := hl
  refine lv_iload_n hx hb dX7_isWide_0 rfl (lv_at hl 0 rfl) ?_
  refine lv_bipush (v := 7) hx hb dX7_isWide_1 (by decide) ?_
  refine lv_iand hx hb dX7_isWide_3 ?_
  refine lv_topi (fun z3_1 ez3_1 => ?_)
  have r3_2 : rg z3_1 0 7 := rg_andr ez3_1 (show rg (7 : Int32) 7 7 from rg_l (by decide)) (by decide)
  refine lv_bipush (v := 7) hx hb dX7_isWide_4 (by decide) ?_
  refine lv_icmp_eq (tgt := 17) hx hb dX7_isWide_6 (by decide) (fun c6_1 => ?_) (fun c6_1 => ?_)
  · have t6_2 := (i_eq c6_1)
    have r6_3 : rg z3_1 7 7 := rg_eqA t6_2 r3_2 (show rg (7 : Int32) 7 7 from rg_l (by decide)) (by decide)
    refine lv_iconst (v := 1) hx hb dX7_isWide_17 (by decide) ?_
    refine lv_goto (tgt := 22) hx hb dX7_isWide_18 (by decide) ?_
    exact endq_i hQ hx hb hr hlocks dX7_isWide_22 (by decide) () (rg_w (show rg (1 : Int32) 1 1 from rg_l (by decide)) (by decide)) hP hD hS [] rfl (by decide) rfl (Nat.le_of_ble_eq_true rfl) (Nat.le_of_ble_eq_true rfl)
  · have t6_2 := (i_ne c6_1)
    have r6_3 : rg z3_1 0 6 := rg_neAh t6_2 r3_2 (show rg (7 : Int32) 7 7 from rg_l (by decide)) (by decide)
    refine lv_iload_n hx hb dX7_isWide_9 rfl (lv_at hl 0 rfl) ?_
    refine lv_bipush (v := 7) hx hb dX7_isWide_10 (by decide) ?_
    refine lv_iand hx hb dX7_isWide_12 ?_
    refine lv_topi (fun z12_1 ez12_1 => ?_)
    have r12_2 : rg z12_1 0 7 := rg_andr ez12_1 (show rg (7 : Int32) 7 7 from rg_l (by decide)) (by decide)
    refine lv_iconst (v := 5) hx hb dX7_isWide_13 (by decide) ?_
    refine lv_icmp_ne (tgt := 21) hx hb dX7_isWide_14 (by decide) (fun c14_1 => ?_) (fun c14_1 => ?_)
    · have t14_2 := (i_ne c14_1)
      refine lv_iconst (v := 0) hx hb dX7_isWide_21 (by decide) ?_
      exact endq_i hQ hx hb hr hlocks dX7_isWide_22 (by decide) () (rg_w (show rg (0 : Int32) 0 0 from rg_l (by decide)) (by decide)) hP hD hS [] rfl (by decide) rfl (Nat.le_of_ble_eq_true rfl) (Nat.le_of_ble_eq_true rfl)
    · have t14_2 := (i_eq c14_1)
      have r14_3 : rg z12_1 5 5 := rg_eqA t14_2 r12_2 (show rg (5 : Int32) 5 5 from rg_l (by decide)) (by decide)
      refine lv_iconst (v := 1) hx hb dX7_isWide_17 (by decide) ?_
      refine lv_goto (tgt := 22) hx hb dX7_isWide_18 (by decide) ?_
      exact endq_i hQ hx hb hr hlocks dX7_isWide_22 (by decide) () (rg_w (show rg (1 : Int32) 1 1 from rg_l (by decide)) (by decide)) hP hD hS [] rfl (by decide) rfl (Nat.le_of_ble_eq_true rfl) (Nat.le_of_ble_eq_true rfl)
set_option maxHeartbeats 2000000 in
theorem c_X7_isOp (l : Launch) (D : va_G) (ct : Nat → ClassId) (v0 : Int32)  : KI (S := Unit) l yX7_isOp cX7_isOp 1 (some .boolean) 1 20 D ct [.int v0] [] 0 0 (fun (r : Int32) (_ : Unit) => rg r 0 1 ∧ (r.toInt = 1 → v0.toInt % 8 = 7 ∨ v0.toInt % 8 = 4) ∧ (r.toInt = 0 → ¬ (v0.toInt % 8 = 7 ∨ v0.toInt % 8 = 4))) (fun (_ : Unit) => []) := by
  refine KIq_of (by decide) (Nat.le_of_ble_eq_true rfl) (fun p e s m below meth c A Q C0 hA H locs hS hP hD hQ ls hl => ?_)
  obtain ⟨hx, hb, hr, hown, hin, hml, hlocks, hn, hK, hZ, hSK⟩ := C0
  have hl : lv_has ls 1 [(0, .int v0)] := hl
  refine lv_iload_n hx hb dX7_isOp_0 rfl (lv_at hl 0 rfl) ?_
  refine lv_bipush (v := 7) hx hb dX7_isOp_1 (by decide) ?_
  refine lv_iand hx hb dX7_isOp_3 ?_
  refine lv_topi (fun z3_1 ez3_1 => ?_)
  have r3_2 : rg z3_1 0 7 := rg_andr ez3_1 (show rg (7 : Int32) 7 7 from rg_l (by decide)) (by decide)
  refine lv_bipush (v := 7) hx hb dX7_isOp_4 (by decide) ?_
  refine lv_icmp_eq (tgt := 17) hx hb dX7_isOp_6 (by decide) (fun c6_1 => ?_) (fun c6_1 => ?_)
  · have t6_2 := (i_eq c6_1)
    have r6_3 : rg z3_1 7 7 := rg_eqA t6_2 r3_2 (show rg (7 : Int32) 7 7 from rg_l (by decide)) (by decide)
    refine lv_iconst (v := 1) hx hb dX7_isOp_17 (by decide) ?_
    refine lv_goto (tgt := 22) hx hb dX7_isOp_18 (by decide) ?_
    exact endq_i hQ hx hb hr hlocks dX7_isOp_22 (by decide) () ⟨(rg_w (show rg (1 : Int32) 1 1 from rg_l (by decide)) (by decide)), (show (1 : Int32).toInt = 1 → v0.toInt % 8 = 7 ∨ v0.toInt % 8 = 4 by have q0 := (rg_any v0).1; have q1 := (rg_any v0).2; have q2 := (show rg (1 : Int32) 1 1 from rg_l (by decide)).1; have q3 := (show rg (1 : Int32) 1 1 from rg_l (by decide)).2; have q4 := (show rg (7 : Int32) 7 7 from rg_l (by decide)).1; have q5 := (show rg (7 : Int32) 7 7 from rg_l (by decide)).2; have q6 := r6_3.1; have q7 := r6_3.2; have q8 := (eq_and (c := 8) (k := 3) ez3_1 (by decide) (by decide)); have q9 := t6_2; omega), (show (1 : Int32).toInt = 0 → ¬ (v0.toInt % 8 = 7 ∨ v0.toInt % 8 = 4) by have q0 := (rg_any v0).1; have q1 := (rg_any v0).2; have q2 := (show rg (1 : Int32) 1 1 from rg_l (by decide)).1; have q3 := (show rg (1 : Int32) 1 1 from rg_l (by decide)).2; have q4 := (show rg (7 : Int32) 7 7 from rg_l (by decide)).1; have q5 := (show rg (7 : Int32) 7 7 from rg_l (by decide)).2; have q6 := r6_3.1; have q7 := r6_3.2; have q8 := (eq_and (c := 8) (k := 3) ez3_1 (by decide) (by decide)); have q9 := t6_2; omega)⟩ hP hD hS [] rfl (by decide) rfl (Nat.le_of_ble_eq_true rfl) (Nat.le_of_ble_eq_true rfl)
  · have t6_2 := (i_ne c6_1)
    have r6_3 : rg z3_1 0 6 := rg_neAh t6_2 r3_2 (show rg (7 : Int32) 7 7 from rg_l (by decide)) (by decide)
    refine lv_iload_n hx hb dX7_isOp_9 rfl (lv_at hl 0 rfl) ?_
    refine lv_bipush (v := 7) hx hb dX7_isOp_10 (by decide) ?_
    refine lv_iand hx hb dX7_isOp_12 ?_
    refine lv_topi (fun z12_1 ez12_1 => ?_)
    have r12_2 : rg z12_1 0 7 := rg_andr ez12_1 (show rg (7 : Int32) 7 7 from rg_l (by decide)) (by decide)
    refine lv_iconst (v := 4) hx hb dX7_isOp_13 (by decide) ?_
    refine lv_icmp_ne (tgt := 21) hx hb dX7_isOp_14 (by decide) (fun c14_1 => ?_) (fun c14_1 => ?_)
    · have t14_2 := (i_ne c14_1)
      refine lv_iconst (v := 0) hx hb dX7_isOp_21 (by decide) ?_
      exact endq_i hQ hx hb hr hlocks dX7_isOp_22 (by decide) () ⟨(rg_w (show rg (0 : Int32) 0 0 from rg_l (by decide)) (by decide)), (show (0 : Int32).toInt = 1 → v0.toInt % 8 = 7 ∨ v0.toInt % 8 = 4 by have q0 := (rg_any v0).1; have q1 := (rg_any v0).2; have q2 := (show rg (0 : Int32) 0 0 from rg_l (by decide)).1; have q3 := (show rg (0 : Int32) 0 0 from rg_l (by decide)).2; have q4 := (show rg (7 : Int32) 7 7 from rg_l (by decide)).1; have q5 := (show rg (7 : Int32) 7 7 from rg_l (by decide)).2; have q6 := r6_3.1; have q7 := r6_3.2; have q8 := (eq_and (c := 8) (k := 3) ez3_1 (by decide) (by decide)); have q9 := (show rg (4 : Int32) 4 4 from rg_l (by decide)).1; have q10 := (show rg (4 : Int32) 4 4 from rg_l (by decide)).2; have q11 := r12_2.1; have q12 := r12_2.2; have q13 := (eq_and (c := 8) (k := 3) ez12_1 (by decide) (by decide)); have q14 := t6_2; have q15 := t14_2; omega), (show (0 : Int32).toInt = 0 → ¬ (v0.toInt % 8 = 7 ∨ v0.toInt % 8 = 4) by have q0 := (rg_any v0).1; have q1 := (rg_any v0).2; have q2 := (show rg (0 : Int32) 0 0 from rg_l (by decide)).1; have q3 := (show rg (0 : Int32) 0 0 from rg_l (by decide)).2; have q4 := (show rg (7 : Int32) 7 7 from rg_l (by decide)).1; have q5 := (show rg (7 : Int32) 7 7 from rg_l (by decide)).2; have q6 := r6_3.1; have q7 := r6_3.2; have q8 := (eq_and (c := 8) (k := 3) ez3_1 (by decide) (by decide)); have q9 := (show rg (4 : Int32) 4 4 from rg_l (by decide)).1; have q10 := (show rg (4 : Int32) 4 4 from rg_l (by decide)).2; have q11 := r12_2.1; have q12 := r12_2.2; have q13 := (eq_and (c := 8) (k := 3) ez12_1 (by decide) (by decide)); have q14 := t6_2; have q15 := t14_2; omega)⟩ hP hD hS [] rfl (by decide) rfl (Nat.le_of_ble_eq_true rfl) (Nat.le_of_ble_eq_true rfl)
    · have t14_2 := (i_eq c14_1)
      have r14_3 : rg z12_1 4 4 := rg_eqA t14_2 r12_2 (show rg (4 : Int32) 4 4 from rg_l (by decide)) (by decide)
      refine lv_iconst (v := 1) hx hb dX7_isOp_17 (by decide) ?_
      refine lv_goto (tgt := 22) hx hb dX7_isOp_18 (by decide) ?_
      exact endq_i hQ hx hb hr hlocks dX7_isOp_22 (by decide) () ⟨(rg_w (show rg (1 : Int32) 1 1 from rg_l (by decide)) (by decide)), (show (1 : Int32).toInt = 1 → v0.toInt % 8 = 7 ∨ v0.toInt % 8 = 4 by have q0 := (rg_any v0).1; have q1 := (rg_any v0).2; have q2 := (show rg (1 : Int32) 1 1 from rg_l (by decide)).1; have q3 := (show rg (1 : Int32) 1 1 from rg_l (by decide)).2; have q4 := (show rg (7 : Int32) 7 7 from rg_l (by decide)).1; have q5 := (show rg (7 : Int32) 7 7 from rg_l (by decide)).2; have q6 := r6_3.1; have q7 := r6_3.2; have q8 := (eq_and (c := 8) (k := 3) ez3_1 (by decide) (by decide)); have q9 := (show rg (4 : Int32) 4 4 from rg_l (by decide)).1; have q10 := (show rg (4 : Int32) 4 4 from rg_l (by decide)).2; have q11 := r14_3.1; have q12 := r14_3.2; have q13 := (eq_and (c := 8) (k := 3) ez12_1 (by decide) (by decide)); have q14 := t6_2; have q15 := t14_2; omega), (show (1 : Int32).toInt = 0 → ¬ (v0.toInt % 8 = 7 ∨ v0.toInt % 8 = 4) by have q0 := (rg_any v0).1; have q1 := (rg_any v0).2; have q2 := (show rg (1 : Int32) 1 1 from rg_l (by decide)).1; have q3 := (show rg (1 : Int32) 1 1 from rg_l (by decide)).2; have q4 := (show rg (7 : Int32) 7 7 from rg_l (by decide)).1; have q5 := (show rg (7 : Int32) 7 7 from rg_l (by decide)).2; have q6 := r6_3.1; have q7 := r6_3.2; have q8 := (eq_and (c := 8) (k := 3) ez3_1 (by decide) (by decide)); have q9 := (show rg (4 : Int32) 4 4 from rg_l (by decide)).1; have q10 := (show rg (4 : Int32) 4 4 from rg_l (by decide)).2; have q11 := r14_3.1; have q12 := r14_3.2; have q13 := (eq_and (c := 8) (k := 3) ez12_1 (by decide) (by decide)); have q14 := t6_2; have q15 := t14_2; omega)⟩ hP hD hS [] rfl (by decide) rfl (Nat.le_of_ble_eq_true rfl) (Nat.le_of_ble_eq_true rfl)
set_option maxHeartbeats 2000000 in
theorem c_X7_isJump (l : Launch) (D : va_G) (ct : Nat → ClassId) (v0 : Int32)  : KI (S := Unit) l yX7_isJump cX7_isJump 1 (some .boolean) 1 20 D ct [.int v0] [] 0 0 (fun (r : Int32) (_ : Unit) => rg r 0 1) (fun (_ : Unit) => []) := by
  refine KIq_of (by decide) (Nat.le_of_ble_eq_true rfl) (fun p e s m below meth c A Q C0 hA H locs hS hP hD hQ ls hl => ?_)
  obtain ⟨hx, hb, hr, hown, hin, hml, hlocks, hn, hK, hZ, hSK⟩ := C0
  have hl : lv_has ls 1 [(0, .int v0)] := hl
  refine lv_iload_n hx hb dX7_isJump_0 rfl (lv_at hl 0 rfl) ?_
  refine lv_bipush (v := 7) hx hb dX7_isJump_1 (by decide) ?_
  refine lv_iand hx hb dX7_isJump_3 ?_
  refine lv_topi (fun z3_1 ez3_1 => ?_)
  have r3_2 : rg z3_1 0 7 := rg_andr ez3_1 (show rg (7 : Int32) 7 7 from rg_l (by decide)) (by decide)
  refine lv_iconst (v := 5) hx hb dX7_isJump_4 (by decide) ?_
  refine lv_icmp_eq (tgt := 17) hx hb dX7_isJump_5 (by decide) (fun c5_1 => ?_) (fun c5_1 => ?_)
  · have t5_2 := (i_eq c5_1)
    have r5_3 : rg z3_1 5 5 := rg_eqA t5_2 r3_2 (show rg (5 : Int32) 5 5 from rg_l (by decide)) (by decide)
    refine lv_iconst (v := 1) hx hb dX7_isJump_17 (by decide) ?_
    refine lv_goto (tgt := 22) hx hb dX7_isJump_18 (by decide) ?_
    exact endq_i hQ hx hb hr hlocks dX7_isJump_22 (by decide) () (rg_w (show rg (1 : Int32) 1 1 from rg_l (by decide)) (by decide)) hP hD hS [] rfl (by decide) rfl (Nat.le_of_ble_eq_true rfl) (Nat.le_of_ble_eq_true rfl)
  · have t5_2 := (i_ne c5_1)
    refine lv_iload_n hx hb dX7_isJump_8 rfl (lv_at hl 0 rfl) ?_
    refine lv_bipush (v := 7) hx hb dX7_isJump_9 (by decide) ?_
    refine lv_iand hx hb dX7_isJump_11 ?_
    refine lv_topi (fun z11_1 ez11_1 => ?_)
    have r11_2 : rg z11_1 0 7 := rg_andr ez11_1 (show rg (7 : Int32) 7 7 from rg_l (by decide)) (by decide)
    refine lv_bipush (v := 6) hx hb dX7_isJump_12 (by decide) ?_
    refine lv_icmp_ne (tgt := 21) hx hb dX7_isJump_14 (by decide) (fun c14_1 => ?_) (fun c14_1 => ?_)
    · have t14_2 := (i_ne c14_1)
      refine lv_iconst (v := 0) hx hb dX7_isJump_21 (by decide) ?_
      exact endq_i hQ hx hb hr hlocks dX7_isJump_22 (by decide) () (rg_w (show rg (0 : Int32) 0 0 from rg_l (by decide)) (by decide)) hP hD hS [] rfl (by decide) rfl (Nat.le_of_ble_eq_true rfl) (Nat.le_of_ble_eq_true rfl)
    · have t14_2 := (i_eq c14_1)
      have r14_3 : rg z11_1 6 6 := rg_eqA t14_2 r11_2 (show rg (6 : Int32) 6 6 from rg_l (by decide)) (by decide)
      refine lv_iconst (v := 1) hx hb dX7_isJump_17 (by decide) ?_
      refine lv_goto (tgt := 22) hx hb dX7_isJump_18 (by decide) ?_
      exact endq_i hQ hx hb hr hlocks dX7_isJump_22 (by decide) () (rg_w (show rg (1 : Int32) 1 1 from rg_l (by decide)) (by decide)) hP hD hS [] rfl (by decide) rfl (Nat.le_of_ble_eq_true rfl) (Nat.le_of_ble_eq_true rfl)
set_option maxHeartbeats 2000000 in
theorem c_X7_hasS (l : Launch) (D : va_G) (ct : Nat → ClassId) (v0 : Int32)  : KI (S := Unit) l yX7_hasS cX7_hasS 1 (some .boolean) 1 20 D ct [.int v0] [] 0 0 (fun (r : Int32) (_ : Unit) => rg r 0 1) (fun (_ : Unit) => []) := by
  refine KIq_of (by decide) (Nat.le_of_ble_eq_true rfl) (fun p e s m below meth c A Q C0 hA H locs hS hP hD hQ ls hl => ?_)
  obtain ⟨hx, hb, hr, hown, hin, hml, hlocks, hn, hK, hZ, hSK⟩ := C0
  have hl : lv_has ls 1 [(0, .int v0)] := hl
  refine lv_iload_n hx hb dX7_hasS_0 rfl (lv_at hl 0 rfl) ?_
  refine lv_bipush (v := 8) hx hb dX7_hasS_1 (by decide) ?_
  refine lv_iand hx hb dX7_hasS_3 ?_
  refine lv_topi (fun z3_1 ez3_1 => ?_)
  have r3_2 : rg z3_1 0 8 := rg_andr ez3_1 (show rg (8 : Int32) 8 8 from rg_l (by decide)) (by decide)
  refine lv_if_eq (tgt := 11) hx hb dX7_hasS_4 (by decide) (fun c4_1 => ?_) (fun c4_1 => ?_)
  · have t4_2 := (i_eq c4_1)
    have r4_3 : rg z3_1 0 0 := rg_eqA t4_2 r3_2 (show rg (0 : Int32) 0 0 from rg_l (by decide)) (by decide)
    refine lv_iconst (v := 0) hx hb dX7_hasS_11 (by decide) ?_
    exact endq_i hQ hx hb hr hlocks dX7_hasS_12 (by decide) () (rg_w (show rg (0 : Int32) 0 0 from rg_l (by decide)) (by decide)) hP hD hS [] rfl (by decide) rfl (Nat.le_of_ble_eq_true rfl) (Nat.le_of_ble_eq_true rfl)
  · have t4_2 := (i_ne c4_1)
    have r4_3 : rg z3_1 1 8 := rg_neAl t4_2 r3_2 (show rg (0 : Int32) 0 0 from rg_l (by decide)) (by decide)
    refine lv_iconst (v := 1) hx hb dX7_hasS_7 (by decide) ?_
    refine lv_goto (tgt := 12) hx hb dX7_hasS_8 (by decide) ?_
    exact endq_i hQ hx hb hr hlocks dX7_hasS_12 (by decide) () (rg_w (show rg (1 : Int32) 1 1 from rg_l (by decide)) (by decide)) hP hD hS [] rfl (by decide) rfl (Nat.le_of_ble_eq_true rfl) (Nat.le_of_ble_eq_true rfl)
set_option maxHeartbeats 2000000 in
theorem c_X7_isLoad (l : Launch) (D : va_G) (ct : Nat → ClassId) (v0 : Int32)  : KI (S := Unit) l yX7_isLoad cX7_isLoad 1 (some .boolean) 1 20 D ct [.int v0] [] 0 0 (fun (r : Int32) (_ : Unit) => rg r 0 1) (fun (_ : Unit) => []) := by
  refine KIq_of (by decide) (Nat.le_of_ble_eq_true rfl) (fun p e s m below meth c A Q C0 hA H locs hS hP hD hQ ls hl => ?_)
  obtain ⟨hx, hb, hr, hown, hin, hml, hlocks, hn, hK, hZ, hSK⟩ := C0
  have hl : lv_has ls 1 [(0, .int v0)] := hl
  refine lv_iload_n hx hb dX7_isLoad_0 rfl (lv_at hl 0 rfl) ?_
  refine lv_bipush (v := 97) hx hb dX7_isLoad_1 (by decide) ?_
  refine lv_icmp_eq (tgt := 24) hx hb dX7_isLoad_3 (by decide) (fun c3_1 => ?_) (fun c3_1 => ?_)
  · have t3_2 := (i_eq c3_1)
    have r3_3 : rg v0 97 97 := rg_eqA t3_2 (rg_any v0) (show rg (97 : Int32) 97 97 from rg_l (by decide)) (by decide)
    refine lv_iconst (v := 1) hx hb dX7_isLoad_24 (by decide) ?_
    refine lv_goto (tgt := 29) hx hb dX7_isLoad_25 (by decide) ?_
    exact endq_i hQ hx hb hr hlocks dX7_isLoad_29 (by decide) () (rg_w (show rg (1 : Int32) 1 1 from rg_l (by decide)) (by decide)) hP hD hS [] rfl (by decide) rfl (Nat.le_of_ble_eq_true rfl) (Nat.le_of_ble_eq_true rfl)
  · have t3_2 := (i_ne c3_1)
    refine lv_iload_n hx hb dX7_isLoad_6 rfl (lv_at hl 0 rfl) ?_
    refine lv_bipush (v := 105) hx hb dX7_isLoad_7 (by decide) ?_
    refine lv_icmp_eq (tgt := 24) hx hb dX7_isLoad_9 (by decide) (fun c9_1 => ?_) (fun c9_1 => ?_)
    · have t9_2 := (i_eq c9_1)
      have r9_3 : rg v0 105 105 := rg_eqA t9_2 (rg_any v0) (show rg (105 : Int32) 105 105 from rg_l (by decide)) (by decide)
      refine lv_iconst (v := 1) hx hb dX7_isLoad_24 (by decide) ?_
      refine lv_goto (tgt := 29) hx hb dX7_isLoad_25 (by decide) ?_
      exact endq_i hQ hx hb hr hlocks dX7_isLoad_29 (by decide) () (rg_w (show rg (1 : Int32) 1 1 from rg_l (by decide)) (by decide)) hP hD hS [] rfl (by decide) rfl (Nat.le_of_ble_eq_true rfl) (Nat.le_of_ble_eq_true rfl)
    · have t9_2 := (i_ne c9_1)
      refine lv_iload_n hx hb dX7_isLoad_12 rfl (lv_at hl 0 rfl) ?_
      refine lv_bipush (v := 113) hx hb dX7_isLoad_13 (by decide) ?_
      refine lv_icmp_eq (tgt := 24) hx hb dX7_isLoad_15 (by decide) (fun c15_1 => ?_) (fun c15_1 => ?_)
      · have t15_2 := (i_eq c15_1)
        have r15_3 : rg v0 113 113 := rg_eqA t15_2 (rg_any v0) (show rg (113 : Int32) 113 113 from rg_l (by decide)) (by decide)
        refine lv_iconst (v := 1) hx hb dX7_isLoad_24 (by decide) ?_
        refine lv_goto (tgt := 29) hx hb dX7_isLoad_25 (by decide) ?_
        exact endq_i hQ hx hb hr hlocks dX7_isLoad_29 (by decide) () (rg_w (show rg (1 : Int32) 1 1 from rg_l (by decide)) (by decide)) hP hD hS [] rfl (by decide) rfl (Nat.le_of_ble_eq_true rfl) (Nat.le_of_ble_eq_true rfl)
      · have t15_2 := (i_ne c15_1)
        refine lv_iload_n hx hb dX7_isLoad_18 rfl (lv_at hl 0 rfl) ?_
        refine lv_bipush (v := 121) hx hb dX7_isLoad_19 (by decide) ?_
        refine lv_icmp_ne (tgt := 28) hx hb dX7_isLoad_21 (by decide) (fun c21_1 => ?_) (fun c21_1 => ?_)
        · have t21_2 := (i_ne c21_1)
          refine lv_iconst (v := 0) hx hb dX7_isLoad_28 (by decide) ?_
          exact endq_i hQ hx hb hr hlocks dX7_isLoad_29 (by decide) () (rg_w (show rg (0 : Int32) 0 0 from rg_l (by decide)) (by decide)) hP hD hS [] rfl (by decide) rfl (Nat.le_of_ble_eq_true rfl) (Nat.le_of_ble_eq_true rfl)
        · have t21_2 := (i_eq c21_1)
          have r21_3 : rg v0 121 121 := rg_eqA t21_2 (rg_any v0) (show rg (121 : Int32) 121 121 from rg_l (by decide)) (by decide)
          refine lv_iconst (v := 1) hx hb dX7_isLoad_24 (by decide) ?_
          refine lv_goto (tgt := 29) hx hb dX7_isLoad_25 (by decide) ?_
          exact endq_i hQ hx hb hr hlocks dX7_isLoad_29 (by decide) () (rg_w (show rg (1 : Int32) 1 1 from rg_l (by decide)) (by decide)) hP hD hS [] rfl (by decide) rfl (Nat.le_of_ble_eq_true rfl) (Nat.le_of_ble_eq_true rfl)
set_option maxHeartbeats 2000000 in
theorem c_X7_isStore (l : Launch) (D : va_G) (ct : Nat → ClassId) (v0 : Int32)  : KI (S := Unit) l yX7_isStore cX7_isStore 1 (some .boolean) 1 20 D ct [.int v0] [] 0 0 (fun (r : Int32) (_ : Unit) => rg r 0 1) (fun (_ : Unit) => []) := by
  refine KIq_of (by decide) (Nat.le_of_ble_eq_true rfl) (fun p e s m below meth c A Q C0 hA H locs hS hP hD hQ ls hl => ?_)
  obtain ⟨hx, hb, hr, hown, hin, hml, hlocks, hn, hK, hZ, hSK⟩ := C0
  have hl : lv_has ls 1 [(0, .int v0)] := hl
  refine lv_iload_n hx hb dX7_isStore_0 rfl (lv_at hl 0 rfl) ?_
  refine lv_bipush (v := 98) hx hb dX7_isStore_1 (by decide) ?_
  refine lv_icmp_eq (tgt := 48) hx hb dX7_isStore_3 (by decide) (fun c3_1 => ?_) (fun c3_1 => ?_)
  · have t3_2 := (i_eq c3_1)
    have r3_3 : rg v0 98 98 := rg_eqA t3_2 (rg_any v0) (show rg (98 : Int32) 98 98 from rg_l (by decide)) (by decide)
    refine lv_iconst (v := 1) hx hb dX7_isStore_48 (by decide) ?_
    refine lv_goto (tgt := 53) hx hb dX7_isStore_49 (by decide) ?_
    exact endq_i hQ hx hb hr hlocks dX7_isStore_53 (by decide) () (rg_w (show rg (1 : Int32) 1 1 from rg_l (by decide)) (by decide)) hP hD hS [] rfl (by decide) rfl (Nat.le_of_ble_eq_true rfl) (Nat.le_of_ble_eq_true rfl)
  · have t3_2 := (i_ne c3_1)
    refine lv_iload_n hx hb dX7_isStore_6 rfl (lv_at hl 0 rfl) ?_
    refine lv_bipush (v := 99) hx hb dX7_isStore_7 (by decide) ?_
    refine lv_icmp_eq (tgt := 48) hx hb dX7_isStore_9 (by decide) (fun c9_1 => ?_) (fun c9_1 => ?_)
    · have t9_2 := (i_eq c9_1)
      have r9_3 : rg v0 99 99 := rg_eqA t9_2 (rg_any v0) (show rg (99 : Int32) 99 99 from rg_l (by decide)) (by decide)
      refine lv_iconst (v := 1) hx hb dX7_isStore_48 (by decide) ?_
      refine lv_goto (tgt := 53) hx hb dX7_isStore_49 (by decide) ?_
      exact endq_i hQ hx hb hr hlocks dX7_isStore_53 (by decide) () (rg_w (show rg (1 : Int32) 1 1 from rg_l (by decide)) (by decide)) hP hD hS [] rfl (by decide) rfl (Nat.le_of_ble_eq_true rfl) (Nat.le_of_ble_eq_true rfl)
    · have t9_2 := (i_ne c9_1)
      refine lv_iload_n hx hb dX7_isStore_12 rfl (lv_at hl 0 rfl) ?_
      refine lv_bipush (v := 106) hx hb dX7_isStore_13 (by decide) ?_
      refine lv_icmp_eq (tgt := 48) hx hb dX7_isStore_15 (by decide) (fun c15_1 => ?_) (fun c15_1 => ?_)
      · have t15_2 := (i_eq c15_1)
        have r15_3 : rg v0 106 106 := rg_eqA t15_2 (rg_any v0) (show rg (106 : Int32) 106 106 from rg_l (by decide)) (by decide)
        refine lv_iconst (v := 1) hx hb dX7_isStore_48 (by decide) ?_
        refine lv_goto (tgt := 53) hx hb dX7_isStore_49 (by decide) ?_
        exact endq_i hQ hx hb hr hlocks dX7_isStore_53 (by decide) () (rg_w (show rg (1 : Int32) 1 1 from rg_l (by decide)) (by decide)) hP hD hS [] rfl (by decide) rfl (Nat.le_of_ble_eq_true rfl) (Nat.le_of_ble_eq_true rfl)
      · have t15_2 := (i_ne c15_1)
        refine lv_iload_n hx hb dX7_isStore_18 rfl (lv_at hl 0 rfl) ?_
        refine lv_bipush (v := 107) hx hb dX7_isStore_19 (by decide) ?_
        refine lv_icmp_eq (tgt := 48) hx hb dX7_isStore_21 (by decide) (fun c21_1 => ?_) (fun c21_1 => ?_)
        · have t21_2 := (i_eq c21_1)
          have r21_3 : rg v0 107 107 := rg_eqA t21_2 (rg_any v0) (show rg (107 : Int32) 107 107 from rg_l (by decide)) (by decide)
          refine lv_iconst (v := 1) hx hb dX7_isStore_48 (by decide) ?_
          refine lv_goto (tgt := 53) hx hb dX7_isStore_49 (by decide) ?_
          exact endq_i hQ hx hb hr hlocks dX7_isStore_53 (by decide) () (rg_w (show rg (1 : Int32) 1 1 from rg_l (by decide)) (by decide)) hP hD hS [] rfl (by decide) rfl (Nat.le_of_ble_eq_true rfl) (Nat.le_of_ble_eq_true rfl)
        · have t21_2 := (i_ne c21_1)
          refine lv_iload_n hx hb dX7_isStore_24 rfl (lv_at hl 0 rfl) ?_
          refine lv_bipush (v := 114) hx hb dX7_isStore_25 (by decide) ?_
          refine lv_icmp_eq (tgt := 48) hx hb dX7_isStore_27 (by decide) (fun c27_1 => ?_) (fun c27_1 => ?_)
          · have t27_2 := (i_eq c27_1)
            have r27_3 : rg v0 114 114 := rg_eqA t27_2 (rg_any v0) (show rg (114 : Int32) 114 114 from rg_l (by decide)) (by decide)
            refine lv_iconst (v := 1) hx hb dX7_isStore_48 (by decide) ?_
            refine lv_goto (tgt := 53) hx hb dX7_isStore_49 (by decide) ?_
            exact endq_i hQ hx hb hr hlocks dX7_isStore_53 (by decide) () (rg_w (show rg (1 : Int32) 1 1 from rg_l (by decide)) (by decide)) hP hD hS [] rfl (by decide) rfl (Nat.le_of_ble_eq_true rfl) (Nat.le_of_ble_eq_true rfl)
          · have t27_2 := (i_ne c27_1)
            refine lv_iload_n hx hb dX7_isStore_30 rfl (lv_at hl 0 rfl) ?_
            refine lv_bipush (v := 115) hx hb dX7_isStore_31 (by decide) ?_
            refine lv_icmp_eq (tgt := 48) hx hb dX7_isStore_33 (by decide) (fun c33_1 => ?_) (fun c33_1 => ?_)
            · have t33_2 := (i_eq c33_1)
              have r33_3 : rg v0 115 115 := rg_eqA t33_2 (rg_any v0) (show rg (115 : Int32) 115 115 from rg_l (by decide)) (by decide)
              refine lv_iconst (v := 1) hx hb dX7_isStore_48 (by decide) ?_
              refine lv_goto (tgt := 53) hx hb dX7_isStore_49 (by decide) ?_
              exact endq_i hQ hx hb hr hlocks dX7_isStore_53 (by decide) () (rg_w (show rg (1 : Int32) 1 1 from rg_l (by decide)) (by decide)) hP hD hS [] rfl (by decide) rfl (Nat.le_of_ble_eq_true rfl) (Nat.le_of_ble_eq_true rfl)
            · have t33_2 := (i_ne c33_1)
              refine lv_iload_n hx hb dX7_isStore_36 rfl (lv_at hl 0 rfl) ?_
              refine lv_bipush (v := 122) hx hb dX7_isStore_37 (by decide) ?_
              refine lv_icmp_eq (tgt := 48) hx hb dX7_isStore_39 (by decide) (fun c39_1 => ?_) (fun c39_1 => ?_)
              · have t39_2 := (i_eq c39_1)
                have r39_3 : rg v0 122 122 := rg_eqA t39_2 (rg_any v0) (show rg (122 : Int32) 122 122 from rg_l (by decide)) (by decide)
                refine lv_iconst (v := 1) hx hb dX7_isStore_48 (by decide) ?_
                refine lv_goto (tgt := 53) hx hb dX7_isStore_49 (by decide) ?_
                exact endq_i hQ hx hb hr hlocks dX7_isStore_53 (by decide) () (rg_w (show rg (1 : Int32) 1 1 from rg_l (by decide)) (by decide)) hP hD hS [] rfl (by decide) rfl (Nat.le_of_ble_eq_true rfl) (Nat.le_of_ble_eq_true rfl)
              · have t39_2 := (i_ne c39_1)
                refine lv_iload_n hx hb dX7_isStore_42 rfl (lv_at hl 0 rfl) ?_
                refine lv_bipush (v := 123) hx hb dX7_isStore_43 (by decide) ?_
                refine lv_icmp_ne (tgt := 52) hx hb dX7_isStore_45 (by decide) (fun c45_1 => ?_) (fun c45_1 => ?_)
                · have t45_2 := (i_ne c45_1)
                  refine lv_iconst (v := 0) hx hb dX7_isStore_52 (by decide) ?_
                  exact endq_i hQ hx hb hr hlocks dX7_isStore_53 (by decide) () (rg_w (show rg (0 : Int32) 0 0 from rg_l (by decide)) (by decide)) hP hD hS [] rfl (by decide) rfl (Nat.le_of_ble_eq_true rfl) (Nat.le_of_ble_eq_true rfl)
                · have t45_2 := (i_eq c45_1)
                  have r45_3 : rg v0 123 123 := rg_eqA t45_2 (rg_any v0) (show rg (123 : Int32) 123 123 from rg_l (by decide)) (by decide)
                  refine lv_iconst (v := 1) hx hb dX7_isStore_48 (by decide) ?_
                  refine lv_goto (tgt := 53) hx hb dX7_isStore_49 (by decide) ?_
                  exact endq_i hQ hx hb hr hlocks dX7_isStore_53 (by decide) () (rg_w (show rg (1 : Int32) 1 1 from rg_l (by decide)) (by decide)) hP hD hS [] rfl (by decide) rfl (Nat.le_of_ble_eq_true rfl) (Nat.le_of_ble_eq_true rfl)
set_option maxHeartbeats 2000000 in
theorem c_X7_isRead (l : Launch) (D : va_G) (ct : Nat → ClassId) (v0 : Int32)  : KI (S := Unit) l yX7_isRead cX7_isRead 1 (some .boolean) 1 20 D ct [.int v0] [] 0 0 (fun (r : Int32) (_ : Unit) => rg r 0 1) (fun (_ : Unit) => []) := by
  refine KIq_of (by decide) (Nat.le_of_ble_eq_true rfl) (fun p e s m below meth c A Q C0 hA H locs hS hP hD hQ ls hl => ?_)
  obtain ⟨hx, hb, hr, hown, hin, hml, hlocks, hn, hK, hZ, hSK⟩ := C0
  have hl : lv_has ls 1 [(0, .int v0)] := hl
  refine lv_iload_n hx hb dX7_isRead_0 rfl (lv_at hl 0 rfl) ?_
  refine lv_bipush (v := 32) hx hb dX7_isRead_1 (by decide) ?_
  refine lv_icmp_eq (tgt := 36) hx hb dX7_isRead_3 (by decide) (fun c3_1 => ?_) (fun c3_1 => ?_)
  · have t3_2 := (i_eq c3_1)
    have r3_3 : rg v0 32 32 := rg_eqA t3_2 (rg_any v0) (show rg (32 : Int32) 32 32 from rg_l (by decide)) (by decide)
    refine lv_iconst (v := 1) hx hb dX7_isRead_36 (by decide) ?_
    refine lv_goto (tgt := 41) hx hb dX7_isRead_37 (by decide) ?_
    exact endq_i hQ hx hb hr hlocks dX7_isRead_41 (by decide) () (rg_w (show rg (1 : Int32) 1 1 from rg_l (by decide)) (by decide)) hP hD hS [] rfl (by decide) rfl (Nat.le_of_ble_eq_true rfl) (Nat.le_of_ble_eq_true rfl)
  · have t3_2 := (i_ne c3_1)
    refine lv_iload_n hx hb dX7_isRead_6 rfl (lv_at hl 0 rfl) ?_
    refine lv_bipush (v := 40) hx hb dX7_isRead_7 (by decide) ?_
    refine lv_icmp_eq (tgt := 36) hx hb dX7_isRead_9 (by decide) (fun c9_1 => ?_) (fun c9_1 => ?_)
    · have t9_2 := (i_eq c9_1)
      have r9_3 : rg v0 40 40 := rg_eqA t9_2 (rg_any v0) (show rg (40 : Int32) 40 40 from rg_l (by decide)) (by decide)
      refine lv_iconst (v := 1) hx hb dX7_isRead_36 (by decide) ?_
      refine lv_goto (tgt := 41) hx hb dX7_isRead_37 (by decide) ?_
      exact endq_i hQ hx hb hr hlocks dX7_isRead_41 (by decide) () (rg_w (show rg (1 : Int32) 1 1 from rg_l (by decide)) (by decide)) hP hD hS [] rfl (by decide) rfl (Nat.le_of_ble_eq_true rfl) (Nat.le_of_ble_eq_true rfl)
    · have t9_2 := (i_ne c9_1)
      refine lv_iload_n hx hb dX7_isRead_12 rfl (lv_at hl 0 rfl) ?_
      refine lv_bipush (v := 48) hx hb dX7_isRead_13 (by decide) ?_
      refine lv_icmp_eq (tgt := 36) hx hb dX7_isRead_15 (by decide) (fun c15_1 => ?_) (fun c15_1 => ?_)
      · have t15_2 := (i_eq c15_1)
        have r15_3 : rg v0 48 48 := rg_eqA t15_2 (rg_any v0) (show rg (48 : Int32) 48 48 from rg_l (by decide)) (by decide)
        refine lv_iconst (v := 1) hx hb dX7_isRead_36 (by decide) ?_
        refine lv_goto (tgt := 41) hx hb dX7_isRead_37 (by decide) ?_
        exact endq_i hQ hx hb hr hlocks dX7_isRead_41 (by decide) () (rg_w (show rg (1 : Int32) 1 1 from rg_l (by decide)) (by decide)) hP hD hS [] rfl (by decide) rfl (Nat.le_of_ble_eq_true rfl) (Nat.le_of_ble_eq_true rfl)
      · have t15_2 := (i_ne c15_1)
        refine lv_iload_n hx hb dX7_isRead_18 rfl (lv_at hl 0 rfl) ?_
        refine lv_bipush (v := 64) hx hb dX7_isRead_19 (by decide) ?_
        refine lv_icmp_eq (tgt := 36) hx hb dX7_isRead_21 (by decide) (fun c21_1 => ?_) (fun c21_1 => ?_)
        · have t21_2 := (i_eq c21_1)
          have r21_3 : rg v0 64 64 := rg_eqA t21_2 (rg_any v0) (show rg (64 : Int32) 64 64 from rg_l (by decide)) (by decide)
          refine lv_iconst (v := 1) hx hb dX7_isRead_36 (by decide) ?_
          refine lv_goto (tgt := 41) hx hb dX7_isRead_37 (by decide) ?_
          exact endq_i hQ hx hb hr hlocks dX7_isRead_41 (by decide) () (rg_w (show rg (1 : Int32) 1 1 from rg_l (by decide)) (by decide)) hP hD hS [] rfl (by decide) rfl (Nat.le_of_ble_eq_true rfl) (Nat.le_of_ble_eq_true rfl)
        · have t21_2 := (i_ne c21_1)
          refine lv_iload_n hx hb dX7_isRead_24 rfl (lv_at hl 0 rfl) ?_
          refine lv_bipush (v := 72) hx hb dX7_isRead_25 (by decide) ?_
          refine lv_icmp_eq (tgt := 36) hx hb dX7_isRead_27 (by decide) (fun c27_1 => ?_) (fun c27_1 => ?_)
          · have t27_2 := (i_eq c27_1)
            have r27_3 : rg v0 72 72 := rg_eqA t27_2 (rg_any v0) (show rg (72 : Int32) 72 72 from rg_l (by decide)) (by decide)
            refine lv_iconst (v := 1) hx hb dX7_isRead_36 (by decide) ?_
            refine lv_goto (tgt := 41) hx hb dX7_isRead_37 (by decide) ?_
            exact endq_i hQ hx hb hr hlocks dX7_isRead_41 (by decide) () (rg_w (show rg (1 : Int32) 1 1 from rg_l (by decide)) (by decide)) hP hD hS [] rfl (by decide) rfl (Nat.le_of_ble_eq_true rfl) (Nat.le_of_ble_eq_true rfl)
          · have t27_2 := (i_ne c27_1)
            refine lv_iload_n hx hb dX7_isRead_30 rfl (lv_at hl 0 rfl) ?_
            refine lv_bipush (v := 80) hx hb dX7_isRead_31 (by decide) ?_
            refine lv_icmp_ne (tgt := 40) hx hb dX7_isRead_33 (by decide) (fun c33_1 => ?_) (fun c33_1 => ?_)
            · have t33_2 := (i_ne c33_1)
              refine lv_iconst (v := 0) hx hb dX7_isRead_40 (by decide) ?_
              exact endq_i hQ hx hb hr hlocks dX7_isRead_41 (by decide) () (rg_w (show rg (0 : Int32) 0 0 from rg_l (by decide)) (by decide)) hP hD hS [] rfl (by decide) rfl (Nat.le_of_ble_eq_true rfl) (Nat.le_of_ble_eq_true rfl)
            · have t33_2 := (i_eq c33_1)
              have r33_3 : rg v0 80 80 := rg_eqA t33_2 (rg_any v0) (show rg (80 : Int32) 80 80 from rg_l (by decide)) (by decide)
              refine lv_iconst (v := 1) hx hb dX7_isRead_36 (by decide) ?_
              refine lv_goto (tgt := 41) hx hb dX7_isRead_37 (by decide) ?_
              exact endq_i hQ hx hb hr hlocks dX7_isRead_41 (by decide) () (rg_w (show rg (1 : Int32) 1 1 from rg_l (by decide)) (by decide)) hP hD hS [] rfl (by decide) rfl (Nat.le_of_ble_eq_true rfl) (Nat.le_of_ble_eq_true rfl)
set_option maxHeartbeats 2000000 in
theorem c_X7_sizeOf (l : Launch) (D : va_G) (ct : Nat → ClassId) (v0 : Int32)  : KI (S := Unit) l yX7_sizeOf cX7_sizeOf 1 (some .int) 1 20 D ct [.int v0] [] 0 0 (fun (r : Int32) (_ : Unit) => rg r 1 8) (fun (_ : Unit) => []) := by
  refine KIq_of (by decide) (Nat.le_of_ble_eq_true rfl) (fun p e s m below meth c A Q C0 hA H locs hS hP hD hQ ls hl => ?_)
  obtain ⟨hx, hb, hr, hown, hin, hml, hlocks, hn, hK, hZ, hSK⟩ := C0
  have hl : lv_has ls 1 [(0, .int v0)] := hl
  refine lv_iload_n hx hb dX7_sizeOf_0 rfl (lv_at hl 0 rfl) ?_
  refine lv_iconst (v := 3) hx hb dX7_sizeOf_1 (by decide) ?_
  refine lv_ishr hx hb dX7_sizeOf_2 ?_
  refine lv_topi (fun z2_1 ez2_1 => ?_)
  have r2_2 : rg z2_1 (-268435456) 268435455 := rg_shr (k := 3) ez2_1 (by decide) (rg_any v0) (by decide)
  refine lv_iconst (v := 3) hx hb dX7_sizeOf_3 (by decide) ?_
  refine lv_iand hx hb dX7_sizeOf_4 ?_
  refine lv_topi (fun z4_1 ez4_1 => ?_)
  have r4_2 : rg z4_1 0 3 := rg_andr ez4_1 (show rg (3 : Int32) 3 3 from rg_l (by decide)) (by decide)
  by_cases h5_101 : z4_1.toInt = 0
  · have r5_102 : rg z4_1 0 0 := rg_at h5_101
    refine lv_tableIn (off := 27) (tgt := 32) hx hb dX7_sizeOf_5 (by rw [h5_101]; decide) (by rw [h5_101]; decide) (by rw [h5_101]; rfl) (by decide) ?_
    refine lv_iconst (v := 4) hx hb dX7_sizeOf_32 (by decide) ?_
    exact endq_i hQ hx hb hr hlocks dX7_sizeOf_33 rfl () (rg_w (show rg (4 : Int32) 4 4 from rg_l (by decide)) (by decide)) hP hD hS [] rfl (by decide) rfl (Nat.le_of_ble_eq_true rfl) (Nat.le_of_ble_eq_true rfl)
  by_cases h5_111 : z4_1.toInt = 1
  · have r5_112 : rg z4_1 1 1 := rg_at h5_111
    refine lv_tableIn (off := 29) (tgt := 34) hx hb dX7_sizeOf_5 (by rw [h5_111]; decide) (by rw [h5_111]; decide) (by rw [h5_111]; rfl) (by decide) ?_
    refine lv_iconst (v := 2) hx hb dX7_sizeOf_34 (by decide) ?_
    exact endq_i hQ hx hb hr hlocks dX7_sizeOf_35 rfl () (rg_w (show rg (2 : Int32) 2 2 from rg_l (by decide)) (by decide)) hP hD hS [] rfl (by decide) rfl (Nat.le_of_ble_eq_true rfl) (Nat.le_of_ble_eq_true rfl)
  by_cases h5_121 : z4_1.toInt = 2
  · have r5_122 : rg z4_1 2 2 := rg_at h5_121
    refine lv_tableIn (off := 31) (tgt := 36) hx hb dX7_sizeOf_5 (by rw [h5_121]; decide) (by rw [h5_121]; decide) (by rw [h5_121]; rfl) (by decide) ?_
    refine lv_iconst (v := 1) hx hb dX7_sizeOf_36 (by decide) ?_
    exact endq_i hQ hx hb hr hlocks dX7_sizeOf_37 rfl () (rg_w (show rg (1 : Int32) 1 1 from rg_l (by decide)) (by decide)) hP hD hS [] rfl (by decide) rfl (Nat.le_of_ble_eq_true rfl) (Nat.le_of_ble_eq_true rfl)
  refine lv_tableOut (tgt := 38) hx hb dX7_sizeOf_5 (by have q0 := r4_2; have q1 := q0.1; have q2 := q0.2; omega) (by decide) ?_
  refine lv_bipush (v := 8) hx hb dX7_sizeOf_38 (by decide) ?_
  exact endq_i hQ hx hb hr hlocks dX7_sizeOf_40 rfl () (rg_w (show rg (8 : Int32) 8 8 from rg_l (by decide)) (by decide)) hP hD hS [] rfl (by decide) rfl (Nat.le_of_ble_eq_true rfl) (Nat.le_of_ble_eq_true rfl)
set_option maxHeartbeats 2000000 in
theorem c_X7_partsOfOp (l : Launch) (D : va_G) (ct : Nat → ClassId) (v0 : Int32) (h_v0 : rg v0 0 255) : KI (S := Unit) l yX7_partsOfOp cX7_partsOfOp 2 (some .int) 2 40 D ct [.int v0] [] 0 0 (fun (r : Int32) (_ : Unit) => rg r (-1) 9 ∧ (0 ≤ r.toInt → v0.toInt ≤ 207)) (fun (_ : Unit) => []) := by
  refine KIq_of (by decide) (Nat.le_of_ble_eq_true rfl) (fun p e s m below meth c A Q C0 hA H locs hS hP hD hQ ls hl => ?_)
  obtain ⟨hx, hb, hr, hown, hin, hml, hlocks, hn, hK, hZ, hSK⟩ := C0
  have hl : lv_has ls 2 [(0, .int v0)] := hl
  refine lv_iload_n hx hb dX7_partsOfOp_0 rfl (lv_at hl 0 rfl) ?_
  refine lv_iconst (v := 4) hx hb dX7_partsOfOp_1 (by decide) ?_
  refine lv_ishr hx hb dX7_partsOfOp_2 ?_
  refine lv_topi (fun z2_1 ez2_1 => ?_)
  have r2_2 : rg z2_1 0 15 := rg_shr (k := 4) ez2_1 (by decide) h_v0 (by decide)
  refine lv_istore_n (lv' := [(1, .int z2_1), (0, .int v0)]) hx hb dX7_partsOfOp_3 rfl hl (by decide) rfl (fun ls hl => ?_)
  refine lv_iload_n hx hb dX7_partsOfOp_4 rfl (lv_at hl 0 rfl) ?_
  refine lv_bipush (v := 12) hx hb dX7_partsOfOp_5 (by decide) ?_
  refine lv_icmp_gt (tgt := 23) hx hb dX7_partsOfOp_7 (by decide) (fun c7_1 => ?_) (fun c7_1 => ?_)
  · have t7_2 := (i_lt c7_1)
    have r7_3 : rg z2_1 13 15 := rg_ltB t7_2 (show rg (12 : Int32) 12 12 from rg_l (by decide)) r2_2 (by decide)
    refine lv_iconst (v := (-1)) hx hb dX7_partsOfOp_23 (by decide) ?_
    exact endq_i hQ hx hb hr hlocks dX7_partsOfOp_24 rfl () ⟨(rg_w (show rg ((-1) : Int32) (-1) (-1) from rg_l (by decide)) (by decide)), (show 0 ≤ (-1 : Int32).toInt → v0.toInt ≤ 207 by have q0 := h_v0.1; have q1 := h_v0.2; have q2 := (show rg ((-1) : Int32) (-1) (-1) from rg_l (by decide)).1; have q3 := (show rg ((-1) : Int32) (-1) (-1) from rg_l (by decide)).2; have q4 := r7_3.1; have q5 := r7_3.2; have q6 := (eq_shr (c := 16) (k := 4) ez2_1 (by decide) (by decide)); have q7 := (show rg (12 : Int32) 12 12 from rg_l (by decide)).1; have q8 := (show rg (12 : Int32) 12 12 from rg_l (by decide)).2; have q9 := t7_2; omega)⟩ hP hD hS [] rfl (by decide) rfl (Nat.le_of_ble_eq_true rfl) (Nat.le_of_ble_eq_true rfl)
  · have t7_2 := (i_nlt c7_1)
    have r7_3 : rg z2_1 0 12 := rg_leA t7_2 r2_2 (show rg (12 : Int32) 12 12 from rg_l (by decide)) (by decide)
    refine lv_iload_n hx hb dX7_partsOfOp_10 rfl (lv_at hl 0 rfl) ?_
    refine lv_bipush (v := 8) hx hb dX7_partsOfOp_11 (by decide) ?_
    have b25 : ∀  (H : Heap) (locs : List Loc) (ls : Array Slot), lv_has ls 2 [(0, .int v0), (1, .int z2_1)] → va_P D vwCl [] H → va_D A [] → va_S A s.heap H locs → W p l e ({ frames := 2, cells := 0, slots := 0, locals := 40 }) s m [.int v0].toArray below meth c H locs 0 0 Q (F0 m 25 ls []) := by
      intro  H locs ls  hl hP hD hS
      refine lv_iload_n hx hb dX7_partsOfOp_25 rfl (lv_at hl 1 rfl) ?_
      refine lv_bipush (v := 8) hx hb dX7_partsOfOp_26 (by decide) ?_
      refine lv_icmp_ne (tgt := 35) hx hb dX7_partsOfOp_28 (by decide) (fun c28_1 => ?_) (fun c28_1 => ?_)
      · have t28_2 := (i_ne c28_1)
        refine lv_iload_n hx hb dX7_partsOfOp_35 rfl (lv_at hl 0 rfl) ?_
        refine go_i (k1 := 0) (n1 := 0) (wr := []) [] [] (rn_S (As := [.int v0]) (rest := []) (c_X7_hasS l D ct v0  _) (cb_of (n := 1) hn mw_968 mw_7 mw_966 mhX7_hasS ⟨(Nat.le_of_ble_eq_true rfl), (Nat.le_of_ble_eq_true rfl)⟩) hx hb hml hown hn hK hSK hZ hS mw_967 rfl hl.1 (Nat.le_of_ble_eq_true rfl) dX7_partsOfOp_36 ⟨(Nat.le_of_ble_eq_true rfl), (Nat.le_of_ble_eq_true rfl)⟩) hP hD hS hA rfl rfl (by decide) (by decide) (by decide) (Nat.le_of_ble_eq_true rfl) (Nat.le_of_ble_eq_true rfl) (fun r36_1 u36_2 H locs hp36_3 hP hD hS => ?_)
        have hp36_4 := hp36_3
        have hp36_4 : rg r36_1 0 1 := hp36_4
        have hP : va_P D vwCl [] _ := hP
        have hD : va_D A [] := hD
        refine lv_if_eq (tgt := 46) hx hb dX7_partsOfOp_39 (by decide) (fun c39_1 => ?_) (fun c39_1 => ?_)
        · have t39_2 := (i_eq c39_1)
          have r39_3 : rg r36_1 0 0 := rg_eqA t39_2 hp36_4 (show rg (0 : Int32) 0 0 from rg_l (by decide)) (by decide)
          refine lv_bipush (v := 9) hx hb dX7_partsOfOp_46 (by decide) ?_
          exact endq_i hQ hx hb hr hlocks dX7_partsOfOp_48 rfl () ⟨(rg_w (show rg (9 : Int32) 9 9 from rg_l (by decide)) (by decide)), (show 0 ≤ (9 : Int32).toInt → v0.toInt ≤ 207 by have q0 := h_v0.1; have q1 := h_v0.2; have q2 := (show rg (9 : Int32) 9 9 from rg_l (by decide)).1; have q3 := (show rg (9 : Int32) 9 9 from rg_l (by decide)).2; have q4 := (show rg (12 : Int32) 12 12 from rg_l (by decide)).1; have q5 := (show rg (12 : Int32) 12 12 from rg_l (by decide)).2; have q6 := r7_3.1; have q7 := r7_3.2; have q8 := (eq_shr (c := 16) (k := 4) ez2_1 (by decide) (by decide)); have q9 := (show rg (8 : Int32) 8 8 from rg_l (by decide)).1; have q10 := (show rg (8 : Int32) 8 8 from rg_l (by decide)).2; have q11 := t7_2; have q12 := t28_2; omega)⟩ hP hD hS [] rfl (by decide) rfl (Nat.le_of_ble_eq_true rfl) (Nat.le_of_ble_eq_true rfl)
        · have t39_2 := (i_ne c39_1)
          have r39_3 : rg r36_1 1 1 := rg_neAl t39_2 hp36_4 (show rg (0 : Int32) 0 0 from rg_l (by decide)) (by decide)
          refine lv_iconst (v := 3) hx hb dX7_partsOfOp_42 (by decide) ?_
          refine lv_goto (tgt := 48) hx hb dX7_partsOfOp_43 (by decide) ?_
          exact endq_i hQ hx hb hr hlocks dX7_partsOfOp_48 rfl () ⟨(rg_w (show rg (3 : Int32) 3 3 from rg_l (by decide)) (by decide)), (show 0 ≤ (3 : Int32).toInt → v0.toInt ≤ 207 by have q0 := h_v0.1; have q1 := h_v0.2; have q2 := (show rg (3 : Int32) 3 3 from rg_l (by decide)).1; have q3 := (show rg (3 : Int32) 3 3 from rg_l (by decide)).2; have q4 := (show rg (12 : Int32) 12 12 from rg_l (by decide)).1; have q5 := (show rg (12 : Int32) 12 12 from rg_l (by decide)).2; have q6 := r7_3.1; have q7 := r7_3.2; have q8 := (eq_shr (c := 16) (k := 4) ez2_1 (by decide) (by decide)); have q9 := (show rg (8 : Int32) 8 8 from rg_l (by decide)).1; have q10 := (show rg (8 : Int32) 8 8 from rg_l (by decide)).2; have q11 := t7_2; have q12 := t28_2; omega)⟩ hP hD hS [] rfl (by decide) rfl (Nat.le_of_ble_eq_true rfl) (Nat.le_of_ble_eq_true rfl)
      · have t28_2 := (i_eq c28_1)
        have r28_3 : rg z2_1 8 8 := rg_eqA t28_2 r7_3 (show rg (8 : Int32) 8 8 from rg_l (by decide)) (by decide)
        refine lv_iconst (v := 1) hx hb dX7_partsOfOp_31 (by decide) ?_
        refine lv_goto (tgt := 48) hx hb dX7_partsOfOp_32 (by decide) ?_
        exact endq_i hQ hx hb hr hlocks dX7_partsOfOp_48 rfl () ⟨(rg_w (show rg (1 : Int32) 1 1 from rg_l (by decide)) (by decide)), (show 0 ≤ (1 : Int32).toInt → v0.toInt ≤ 207 by have q0 := h_v0.1; have q1 := h_v0.2; have q2 := (show rg (1 : Int32) 1 1 from rg_l (by decide)).1; have q3 := (show rg (1 : Int32) 1 1 from rg_l (by decide)).2; have q4 := (show rg (12 : Int32) 12 12 from rg_l (by decide)).1; have q5 := (show rg (12 : Int32) 12 12 from rg_l (by decide)).2; have q6 := r28_3.1; have q7 := r28_3.2; have q8 := (eq_shr (c := 16) (k := 4) ez2_1 (by decide) (by decide)); have q9 := (show rg (8 : Int32) 8 8 from rg_l (by decide)).1; have q10 := (show rg (8 : Int32) 8 8 from rg_l (by decide)).2; have q11 := t7_2; have q12 := t28_2; omega)⟩ hP hD hS [] rfl (by decide) rfl (Nat.le_of_ble_eq_true rfl) (Nat.le_of_ble_eq_true rfl)
    refine lv_icmp_ne (tgt := 25) hx hb dX7_partsOfOp_13 (by decide) (fun c13_1 => ?_) (fun c13_1 => ?_)
    · have t13_2 := (i_ne c13_1)
      exact b25  H locs ls  (lv_sub hl [1, 0] rfl) hP hD hS
    · have t13_2 := (i_eq c13_1)
      have r13_3 : rg z2_1 8 8 := rg_eqA t13_2 r7_3 (show rg (8 : Int32) 8 8 from rg_l (by decide)) (by decide)
      refine lv_iload_n hx hb dX7_partsOfOp_16 rfl (lv_at hl 1 rfl) ?_
      refine go_i (k1 := 0) (n1 := 0) (wr := []) [] [] (rn_S (As := [.int v0]) (rest := []) (c_X7_hasS l D ct v0  _) (cb_of (n := 1) hn mw_968 mw_7 mw_966 mhX7_hasS ⟨(Nat.le_of_ble_eq_true rfl), (Nat.le_of_ble_eq_true rfl)⟩) hx hb hml hown hn hK hSK hZ hS mw_967 rfl hl.1 (Nat.le_of_ble_eq_true rfl) dX7_partsOfOp_17 ⟨(Nat.le_of_ble_eq_true rfl), (Nat.le_of_ble_eq_true rfl)⟩) hP hD hS hA rfl rfl (by decide) (by decide) (by decide) (Nat.le_of_ble_eq_true rfl) (Nat.le_of_ble_eq_true rfl) (fun r17_1 u17_2 H locs hp17_3 hP hD hS => ?_)
      have hp17_4 := hp17_3
      have hp17_4 : rg r17_1 0 1 := hp17_4
      have hP : va_P D vwCl [] _ := hP
      have hD : va_D A [] := hD
      refine lv_if_eq (tgt := 25) hx hb dX7_partsOfOp_20 (by decide) (fun c20_1 => ?_) (fun c20_1 => ?_)
      · have t20_2 := (i_eq c20_1)
        have r20_3 : rg r17_1 0 0 := rg_eqA t20_2 hp17_4 (show rg (0 : Int32) 0 0 from rg_l (by decide)) (by decide)
        exact b25  H locs ls  (lv_sub hl [1, 0] rfl) hP hD hS
      · have t20_2 := (i_ne c20_1)
        have r20_3 : rg r17_1 1 1 := rg_neAl t20_2 hp17_4 (show rg (0 : Int32) 0 0 from rg_l (by decide)) (by decide)
        refine lv_iconst (v := (-1)) hx hb dX7_partsOfOp_23 (by decide) ?_
        exact endq_i hQ hx hb hr hlocks dX7_partsOfOp_24 rfl () ⟨(rg_w (show rg ((-1) : Int32) (-1) (-1) from rg_l (by decide)) (by decide)), (show 0 ≤ (-1 : Int32).toInt → v0.toInt ≤ 207 by have q0 := h_v0.1; have q1 := h_v0.2; have q2 := (show rg ((-1) : Int32) (-1) (-1) from rg_l (by decide)).1; have q3 := (show rg ((-1) : Int32) (-1) (-1) from rg_l (by decide)).2; have q4 := (show rg (12 : Int32) 12 12 from rg_l (by decide)).1; have q5 := (show rg (12 : Int32) 12 12 from rg_l (by decide)).2; have q6 := r13_3.1; have q7 := r13_3.2; have q8 := (eq_shr (c := 16) (k := 4) ez2_1 (by decide) (by decide)); have q9 := (show rg (8 : Int32) 8 8 from rg_l (by decide)).1; have q10 := (show rg (8 : Int32) 8 8 from rg_l (by decide)).2; have q11 := t7_2; have q12 := t13_2; omega)⟩ hP hD hS [] rfl (by decide) rfl (Nat.le_of_ble_eq_true rfl) (Nat.le_of_ble_eq_true rfl)
set_option maxHeartbeats 2000000 in
theorem c_X7_partsOfJump (l : Launch) (D : va_G) (ct : Nat → ClassId) (v0 : Int32)  : KI (S := Unit) l yX7_partsOfJump cX7_partsOfJump 2 (some .int) 2 40 D ct [.int v0] [] 0 0 (fun (r : Int32) (_ : Unit) => rg r (-1) 15) (fun (_ : Unit) => []) := by
  refine KIq_of (by decide) (Nat.le_of_ble_eq_true rfl) (fun p e s m below meth c A Q C0 hA H locs hS hP hD hQ ls hl => ?_)
  obtain ⟨hx, hb, hr, hown, hin, hml, hlocks, hn, hK, hZ, hSK⟩ := C0
  have hl : lv_has ls 2 [(0, .int v0)] := hl
  refine lv_iload_n hx hb dX7_partsOfJump_0 rfl (lv_at hl 0 rfl) ?_
  refine lv_iconst (v := 4) hx hb dX7_partsOfJump_1 (by decide) ?_
  refine lv_ishr hx hb dX7_partsOfJump_2 ?_
  refine lv_topi (fun z2_1 ez2_1 => ?_)
  have r2_2 : rg z2_1 (-134217728) 134217727 := rg_shr (k := 4) ez2_1 (by decide) (rg_any v0) (by decide)
  refine lv_istore_n (lv' := [(1, .int z2_1), (0, .int v0)]) hx hb dX7_partsOfJump_3 rfl hl (by decide) rfl (fun ls hl => ?_)
  refine lv_iload_n hx hb dX7_partsOfJump_4 rfl (lv_at hl 1 rfl) ?_
  refine lv_sipush (v := 149) hx hb dX7_partsOfJump_5 (by decide) ?_
  refine lv_icmp_ne (tgt := 13) hx hb dX7_partsOfJump_8 (by decide) (fun c8_1 => ?_) (fun c8_1 => ?_)
  · have t8_2 := (i_ne c8_1)
    refine lv_iload_n hx hb dX7_partsOfJump_13 rfl (lv_at hl 0 rfl) ?_
    refine lv_if_ne (tgt := 28) hx hb dX7_partsOfJump_14 (by decide) (fun c14_1 => ?_) (fun c14_1 => ?_)
    · have t14_2 := (i_ne c14_1)
      refine lv_iload_n hx hb dX7_partsOfJump_28 rfl (lv_at hl 0 rfl) ?_
      refine lv_bipush (v := 8) hx hb dX7_partsOfJump_29 (by decide) ?_
      refine lv_icmp_eq (tgt := 46) hx hb dX7_partsOfJump_31 (by decide) (fun c31_1 => ?_) (fun c31_1 => ?_)
      · have t31_2 := (i_eq c31_1)
        have r31_3 : rg z2_1 8 8 := rg_eqA t31_2 r2_2 (show rg (8 : Int32) 8 8 from rg_l (by decide)) (by decide)
        refine lv_iconst (v := (-1)) hx hb dX7_partsOfJump_46 (by decide) ?_
        exact endq_i hQ hx hb hr hlocks dX7_partsOfJump_47 rfl () (rg_w (show rg ((-1) : Int32) (-1) (-1) from rg_l (by decide)) (by decide)) hP hD hS [] rfl (by decide) rfl (Nat.le_of_ble_eq_true rfl) (Nat.le_of_ble_eq_true rfl)
      · have t31_2 := (i_ne c31_1)
        refine lv_iload_n hx hb dX7_partsOfJump_34 rfl (lv_at hl 0 rfl) ?_
        refine lv_bipush (v := 9) hx hb dX7_partsOfJump_35 (by decide) ?_
        refine lv_icmp_eq (tgt := 46) hx hb dX7_partsOfJump_37 (by decide) (fun c37_1 => ?_) (fun c37_1 => ?_)
        · have t37_2 := (i_eq c37_1)
          have r37_3 : rg z2_1 9 9 := rg_eqA t37_2 r2_2 (show rg (9 : Int32) 9 9 from rg_l (by decide)) (by decide)
          refine lv_iconst (v := (-1)) hx hb dX7_partsOfJump_46 (by decide) ?_
          exact endq_i hQ hx hb hr hlocks dX7_partsOfJump_47 rfl () (rg_w (show rg ((-1) : Int32) (-1) (-1) from rg_l (by decide)) (by decide)) hP hD hS [] rfl (by decide) rfl (Nat.le_of_ble_eq_true rfl) (Nat.le_of_ble_eq_true rfl)
        · have t37_2 := (i_ne c37_1)
          refine lv_iload_n hx hb dX7_partsOfJump_40 rfl (lv_at hl 0 rfl) ?_
          refine lv_bipush (v := 13) hx hb dX7_partsOfJump_41 (by decide) ?_
          refine lv_icmp_le (tgt := 48) hx hb dX7_partsOfJump_43 (by decide) (fun c43_1 => ?_) (fun c43_1 => ?_)
          · have t43_2 := (i_le c43_1)
            have r43_3 : rg z2_1 (-134217728) 13 := rg_leA t43_2 r2_2 (show rg (13 : Int32) 13 13 from rg_l (by decide)) (by decide)
            refine lv_iconst (v := 5) hx hb dX7_partsOfJump_48 (by decide) ?_
            refine lv_iload_n hx hb dX7_partsOfJump_49 rfl (lv_at hl 1 rfl) ?_
            refine go_i (k1 := 0) (n1 := 0) (wr := []) [] [] (rn_S (As := [.int v0]) (rest := [.int 5]) (c_X7_hasS l D ct v0  _) (cb_of (n := 1) hn mw_968 mw_7 mw_966 mhX7_hasS ⟨(Nat.le_of_ble_eq_true rfl), (Nat.le_of_ble_eq_true rfl)⟩) hx hb hml hown hn hK hSK hZ hS mw_967 rfl hl.1 (Nat.le_of_ble_eq_true rfl) dX7_partsOfJump_50 ⟨(Nat.le_of_ble_eq_true rfl), (Nat.le_of_ble_eq_true rfl)⟩) hP hD hS hA rfl rfl (by decide) (by decide) (by decide) (Nat.le_of_ble_eq_true rfl) (Nat.le_of_ble_eq_true rfl) (fun r50_1 u50_2 H locs hp50_3 hP hD hS => ?_)
            have hp50_4 := hp50_3
            have hp50_4 : rg r50_1 0 1 := hp50_4
            have hP : va_P D vwCl [] _ := hP
            have hD : va_D A [] := hD
            have b62 : ∀ (j62_s0 : Int32) (H : Heap) (locs : List Loc) (ls : Array Slot), (rg j62_s0 2 8) → lv_has ls 2 [] → va_P D vwCl [] H → va_D A [] → va_S A s.heap H locs → W p l e ({ frames := 2, cells := 0, slots := 0, locals := 40 }) s m [.int v0].toArray below meth c H locs 0 0 Q (F0 m 62 ls [.int j62_s0, .int 5]) := by
              intro j62_s0 H locs ls r62_1001 hl hP hD hS
              refine lv_ior hx hb dX7_partsOfJump_62 ?_
              refine lv_topi (fun z62_1 ez62_1 => ?_)
              have r62_2 : rg z62_1 0 15 := rg_or (k := 4) ez62_1 (show rg (5 : Int32) 5 5 from rg_l (by decide)) r62_1001 (by decide)
              exact endq_i hQ hx hb hr hlocks dX7_partsOfJump_63 rfl () (rg_w r62_2 (by decide)) hP hD hS [] rfl (by decide) rfl (Nat.le_of_ble_eq_true rfl) (Nat.le_of_ble_eq_true rfl)
            refine lv_if_eq (tgt := 60) hx hb dX7_partsOfJump_53 (by decide) (fun c53_1 => ?_) (fun c53_1 => ?_)
            · have t53_2 := (i_eq c53_1)
              have r53_3 : rg r50_1 0 0 := rg_eqA t53_2 hp50_4 (show rg (0 : Int32) 0 0 from rg_l (by decide)) (by decide)
              refine lv_bipush (v := 8) hx hb dX7_partsOfJump_60 (by decide) ?_
              exact b62 (8 : Int32) H locs ls (rg_w (show rg (8 : Int32) 8 8 from rg_l (by decide)) (by decide)) (lv_sub hl [] rfl) hP hD hS
            · have t53_2 := (i_ne c53_1)
              have r53_3 : rg r50_1 1 1 := rg_neAl t53_2 hp50_4 (show rg (0 : Int32) 0 0 from rg_l (by decide)) (by decide)
              refine lv_iconst (v := 2) hx hb dX7_partsOfJump_56 (by decide) ?_
              refine lv_goto (tgt := 62) hx hb dX7_partsOfJump_57 (by decide) ?_
              exact b62 (2 : Int32) H locs ls (rg_w (show rg (2 : Int32) 2 2 from rg_l (by decide)) (by decide)) (lv_sub hl [] rfl) hP hD hS
          · have t43_2 := (i_nle c43_1)
            have r43_3 : rg z2_1 14 134217727 := rg_ltB t43_2 (show rg (13 : Int32) 13 13 from rg_l (by decide)) r2_2 (by decide)
            refine lv_iconst (v := (-1)) hx hb dX7_partsOfJump_46 (by decide) ?_
            exact endq_i hQ hx hb hr hlocks dX7_partsOfJump_47 rfl () (rg_w (show rg ((-1) : Int32) (-1) (-1) from rg_l (by decide)) (by decide)) hP hD hS [] rfl (by decide) rfl (Nat.le_of_ble_eq_true rfl) (Nat.le_of_ble_eq_true rfl)
    · have t14_2 := (i_eq c14_1)
      have r14_3 : rg z2_1 0 0 := rg_eqA t14_2 r2_2 (show rg (0 : Int32) 0 0 from rg_l (by decide)) (by decide)
      refine lv_iload_n hx hb dX7_partsOfJump_17 rfl (lv_at hl 1 rfl) ?_
      refine lv_iconst (v := 5) hx hb dX7_partsOfJump_18 (by decide) ?_
      refine lv_icmp_ne (tgt := 26) hx hb dX7_partsOfJump_19 (by decide) (fun c19_1 => ?_) (fun c19_1 => ?_)
      · have t19_2 := (i_ne c19_1)
        refine lv_iconst (v := (-1)) hx hb dX7_partsOfJump_26 (by decide) ?_
        exact endq_i hQ hx hb hr hlocks dX7_partsOfJump_27 rfl () (rg_w (show rg ((-1) : Int32) (-1) (-1) from rg_l (by decide)) (by decide)) hP hD hS [] rfl (by decide) rfl (Nat.le_of_ble_eq_true rfl) (Nat.le_of_ble_eq_true rfl)
      · have t19_2 := (i_eq c19_1)
        have r19_3 : rg v0 5 5 := rg_eqA t19_2 (rg_any v0) (show rg (5 : Int32) 5 5 from rg_l (by decide)) (by decide)
        refine lv_iconst (v := 4) hx hb dX7_partsOfJump_22 (by decide) ?_
        refine lv_goto (tgt := 27) hx hb dX7_partsOfJump_23 (by decide) ?_
        exact endq_i hQ hx hb hr hlocks dX7_partsOfJump_27 rfl () (rg_w (show rg (4 : Int32) 4 4 from rg_l (by decide)) (by decide)) hP hD hS [] rfl (by decide) rfl (Nat.le_of_ble_eq_true rfl) (Nat.le_of_ble_eq_true rfl)
  · have t8_2 := (i_eq c8_1)
    have r8_3 : rg v0 149 149 := rg_eqA t8_2 (rg_any v0) (show rg (149 : Int32) 149 149 from rg_l (by decide)) (by decide)
    refine lv_iconst (v := 0) hx hb dX7_partsOfJump_11 (by decide) ?_
    exact endq_i hQ hx hb hr hlocks dX7_partsOfJump_12 rfl () (rg_w (show rg (0 : Int32) 0 0 from rg_l (by decide)) (by decide)) hP hD hS [] rfl (by decide) rfl (Nat.le_of_ble_eq_true rfl) (Nat.le_of_ble_eq_true rfl)
set_option maxHeartbeats 2000000 in
theorem c_X7_partsOf (l : Launch) (D : va_G) (ct : Nat → ClassId) (v0 : Int32) (h_v0 : rg v0 0 255) : KI (S := Unit) l yX7_partsOf cX7_partsOf 1 (some .int) 3 61 D ct [.int v0] [] 0 0 (fun (r : Int32) (_ : Unit) => rg r (-1) 15 ∧ (0 ≤ r.toInt → (v0.toInt % 8 = 7 ∨ v0.toInt % 8 = 4) → v0.toInt % 256 ≤ 207)) (fun (_ : Unit) => []) := by
  refine KIq_of (by decide) (Nat.le_of_ble_eq_true rfl) (fun p e s m below meth c A Q C0 hA H locs hS hP hD hQ ls hl => ?_)
  obtain ⟨hx, hb, hr, hown, hin, hml, hlocks, hn, hK, hZ, hSK⟩ := C0
  have hl : lv_has ls 1 [(0, .int v0)] := hl
  refine lv_iload_n hx hb dX7_partsOf_0 rfl (lv_at hl 0 rfl) ?_
  refine go_i (k1 := 0) (n1 := 0) (wr := []) [] [] (rn_S (As := [.int v0]) (rest := []) (c_X7_isOp l D ct v0  _) (cb_of (n := 1) hn mw_962 mw_7 mw_960 mhX7_isOp ⟨(Nat.le_of_ble_eq_true rfl), (Nat.le_of_ble_eq_true rfl)⟩) hx hb hml hown hn hK hSK hZ hS mw_961 rfl hl.1 (Nat.le_of_ble_eq_true rfl) dX7_partsOf_1 ⟨(Nat.le_of_ble_eq_true rfl), (Nat.le_of_ble_eq_true rfl)⟩) hP hD hS hA rfl rfl (by decide) (by decide) (by decide) (Nat.le_of_ble_eq_true rfl) (Nat.le_of_ble_eq_true rfl) (fun r1_1 u1_2 H locs hp1_3 hP hD hS => ?_)
  obtain ⟨hp1_4, hp1_5, hp1_6⟩ := hp1_3
  have hp1_4 : rg r1_1 0 1 := hp1_4
  have hp1_5 : r1_1.toInt = 1 → v0.toInt % 8 = 7 ∨ v0.toInt % 8 = 4 := hp1_5
  have hp1_6 : r1_1.toInt = 0 → ¬ (v0.toInt % 8 = 7 ∨ v0.toInt % 8 = 4) := hp1_6
  have hP : va_P D vwCl [] _ := hP
  have hD : va_D A [] := hD
  refine lv_if_eq (tgt := 12) hx hb dX7_partsOf_4 (by decide) (fun c4_1 => ?_) (fun c4_1 => ?_)
  · have t4_2 := (i_eq c4_1)
    have r4_3 : rg r1_1 0 0 := rg_eqA t4_2 hp1_4 (show rg (0 : Int32) 0 0 from rg_l (by decide)) (by decide)
    refine lv_iload_n hx hb dX7_partsOf_12 rfl (lv_at hl 0 rfl) ?_
    refine go_i (k1 := 0) (n1 := 0) (wr := []) [] [] (rn_S (As := [.int v0]) (rest := []) (c_X7_isJump l D ct v0  _) (cb_of (n := 1) hn mw_971 mw_7 mw_969 mhX7_isJump ⟨(Nat.le_of_ble_eq_true rfl), (Nat.le_of_ble_eq_true rfl)⟩) hx hb hml hown hn hK hSK hZ hS mw_970 rfl hl.1 (Nat.le_of_ble_eq_true rfl) dX7_partsOf_13 ⟨(Nat.le_of_ble_eq_true rfl), (Nat.le_of_ble_eq_true rfl)⟩) hP hD hS hA rfl rfl (by decide) (by decide) (by decide) (Nat.le_of_ble_eq_true rfl) (Nat.le_of_ble_eq_true rfl) (fun r13_1 u13_2 H locs hp13_3 hP hD hS => ?_)
    have hp13_4 := hp13_3
    have hp13_4 : rg r13_1 0 1 := hp13_4
    have hP : va_P D vwCl [] _ := hP
    have hD : va_D A [] := hD
    refine lv_if_eq (tgt := 24) hx hb dX7_partsOf_16 (by decide) (fun c16_1 => ?_) (fun c16_1 => ?_)
    · have t16_2 := (i_eq c16_1)
      have r16_3 : rg r13_1 0 0 := rg_eqA t16_2 hp13_4 (show rg (0 : Int32) 0 0 from rg_l (by decide)) (by decide)
      refine lv_iload_n hx hb dX7_partsOf_24 rfl (lv_at hl 0 rfl) ?_
      refine go_i (k1 := 0) (n1 := 0) (wr := []) [] [] (rn_S (As := [.int v0]) (rest := []) (c_X7_isLoad l D ct v0  _) (cb_of (n := 1) hn mw_977 mw_7 mw_975 mhX7_isLoad ⟨(Nat.le_of_ble_eq_true rfl), (Nat.le_of_ble_eq_true rfl)⟩) hx hb hml hown hn hK hSK hZ hS mw_976 rfl hl.1 (Nat.le_of_ble_eq_true rfl) dX7_partsOf_25 ⟨(Nat.le_of_ble_eq_true rfl), (Nat.le_of_ble_eq_true rfl)⟩) hP hD hS hA rfl rfl (by decide) (by decide) (by decide) (Nat.le_of_ble_eq_true rfl) (Nat.le_of_ble_eq_true rfl) (fun r25_1 u25_2 H locs hp25_3 hP hD hS => ?_)
      have hp25_4 := hp25_3
      have hp25_4 : rg r25_1 0 1 := hp25_4
      have hP : va_P D vwCl [] _ := hP
      have hD : va_D A [] := hD
      refine lv_if_eq (tgt := 34) hx hb dX7_partsOf_28 (by decide) (fun c28_1 => ?_) (fun c28_1 => ?_)
      · have t28_2 := (i_eq c28_1)
        have r28_3 : rg r25_1 0 0 := rg_eqA t28_2 hp25_4 (show rg (0 : Int32) 0 0 from rg_l (by decide)) (by decide)
        refine lv_iload_n hx hb dX7_partsOf_34 rfl (lv_at hl 0 rfl) ?_
        refine go_i (k1 := 0) (n1 := 0) (wr := []) [] [] (rn_S (As := [.int v0]) (rest := []) (c_X7_isStore l D ct v0  _) (cb_of (n := 1) hn mw_980 mw_7 mw_978 mhX7_isStore ⟨(Nat.le_of_ble_eq_true rfl), (Nat.le_of_ble_eq_true rfl)⟩) hx hb hml hown hn hK hSK hZ hS mw_979 rfl hl.1 (Nat.le_of_ble_eq_true rfl) dX7_partsOf_35 ⟨(Nat.le_of_ble_eq_true rfl), (Nat.le_of_ble_eq_true rfl)⟩) hP hD hS hA rfl rfl (by decide) (by decide) (by decide) (Nat.le_of_ble_eq_true rfl) (Nat.le_of_ble_eq_true rfl) (fun r35_1 u35_2 H locs hp35_3 hP hD hS => ?_)
        have hp35_4 := hp35_3
        have hp35_4 : rg r35_1 0 1 := hp35_4
        have hP : va_P D vwCl [] _ := hP
        have hD : va_D A [] := hD
        refine lv_if_eq (tgt := 56) hx hb dX7_partsOf_38 (by decide) (fun c38_1 => ?_) (fun c38_1 => ?_)
        · have t38_2 := (i_eq c38_1)
          have r38_3 : rg r35_1 0 0 := rg_eqA t38_2 hp35_4 (show rg (0 : Int32) 0 0 from rg_l (by decide)) (by decide)
          refine lv_iload_n hx hb dX7_partsOf_56 rfl (lv_at hl 0 rfl) ?_
          refine go_i (k1 := 0) (n1 := 0) (wr := []) [] [] (rn_S (As := [.int v0]) (rest := []) (c_X7_isRead l D ct v0  _) (cb_of (n := 1) hn mw_983 mw_7 mw_981 mhX7_isRead ⟨(Nat.le_of_ble_eq_true rfl), (Nat.le_of_ble_eq_true rfl)⟩) hx hb hml hown hn hK hSK hZ hS mw_982 rfl hl.1 (Nat.le_of_ble_eq_true rfl) dX7_partsOf_57 ⟨(Nat.le_of_ble_eq_true rfl), (Nat.le_of_ble_eq_true rfl)⟩) hP hD hS hA rfl rfl (by decide) (by decide) (by decide) (Nat.le_of_ble_eq_true rfl) (Nat.le_of_ble_eq_true rfl) (fun r57_1 u57_2 H locs hp57_3 hP hD hS => ?_)
          have hp57_4 := hp57_3
          have hp57_4 : rg r57_1 0 1 := hp57_4
          have hP : va_P D vwCl [] _ := hP
          have hD : va_D A [] := hD
          refine lv_if_eq (tgt := 77) hx hb dX7_partsOf_60 (by decide) (fun c60_1 => ?_) (fun c60_1 => ?_)
          · have t60_2 := (i_eq c60_1)
            have r60_3 : rg r57_1 0 0 := rg_eqA t60_2 hp57_4 (show rg (0 : Int32) 0 0 from rg_l (by decide)) (by decide)
            refine lv_iconst (v := (-1)) hx hb dX7_partsOf_77 (by decide) ?_
            exact endq_i hQ hx hb hr hlocks dX7_partsOf_78 rfl () ⟨(rg_w (show rg ((-1) : Int32) (-1) (-1) from rg_l (by decide)) (by decide)), (show 0 ≤ (-1 : Int32).toInt → (v0.toInt % 8 = 7 ∨ v0.toInt % 8 = 4) → v0.toInt % 256 ≤ 207 by have q0 := h_v0.1; have q1 := h_v0.2; have q2 := (show rg ((-1) : Int32) (-1) (-1) from rg_l (by decide)).1; have q3 := (show rg ((-1) : Int32) (-1) (-1) from rg_l (by decide)).2; have q4 := r4_3.1; have q5 := r4_3.2; have q6 := (show rg (0 : Int32) 0 0 from rg_l (by decide)).1; have q7 := (show rg (0 : Int32) 0 0 from rg_l (by decide)).2; have q8 := hp1_5; have q9 := hp1_6; have q10 := t4_2; omega)⟩ hP hD hS [] rfl (by decide) rfl (Nat.le_of_ble_eq_true rfl) (Nat.le_of_ble_eq_true rfl)
          · have t60_2 := (i_ne c60_1)
            have r60_3 : rg r57_1 1 1 := rg_neAl t60_2 hp57_4 (show rg (0 : Int32) 0 0 from rg_l (by decide)) (by decide)
            refine lv_iload_n hx hb dX7_partsOf_63 rfl (lv_at hl 0 rfl) ?_
            refine lv_bipush (v := 64) hx hb dX7_partsOf_64 (by decide) ?_
            refine lv_icmp_ge (tgt := 74) hx hb dX7_partsOf_66 (by decide) (fun c66_1 => ?_) (fun c66_1 => ?_)
            · have t66_2 := (i_le c66_1)
              have r66_3 : rg v0 64 255 := rg_leB t66_2 (show rg (64 : Int32) 64 64 from rg_l (by decide)) h_v0 (by decide)
              refine lv_bipush (v := 10) hx hb dX7_partsOf_74 (by decide) ?_
              exact endq_i hQ hx hb hr hlocks dX7_partsOf_76 rfl () ⟨(rg_w (show rg (10 : Int32) 10 10 from rg_l (by decide)) (by decide)), (show 0 ≤ (10 : Int32).toInt → (v0.toInt % 8 = 7 ∨ v0.toInt % 8 = 4) → v0.toInt % 256 ≤ 207 by have q0 := r66_3.1; have q1 := r66_3.2; have q2 := (show rg (10 : Int32) 10 10 from rg_l (by decide)).1; have q3 := (show rg (10 : Int32) 10 10 from rg_l (by decide)).2; have q4 := r4_3.1; have q5 := r4_3.2; have q6 := (show rg (64 : Int32) 64 64 from rg_l (by decide)).1; have q7 := (show rg (64 : Int32) 64 64 from rg_l (by decide)).2; have q8 := (show rg (0 : Int32) 0 0 from rg_l (by decide)).1; have q9 := (show rg (0 : Int32) 0 0 from rg_l (by decide)).2; have q10 := hp1_5; have q11 := hp1_6; have q12 := t4_2; have q13 := t66_2; omega)⟩ hP hD hS [] rfl (by decide) rfl (Nat.le_of_ble_eq_true rfl) (Nat.le_of_ble_eq_true rfl)
            · have t66_2 := (i_nle c66_1)
              have r66_3 : rg v0 0 63 := rg_ltA t66_2 h_v0 (show rg (64 : Int32) 64 64 from rg_l (by decide)) (by decide)
              refine lv_bipush (v := 8) hx hb dX7_partsOf_69 (by decide) ?_
              refine lv_goto (tgt := 76) hx hb dX7_partsOf_71 (by decide) ?_
              exact endq_i hQ hx hb hr hlocks dX7_partsOf_76 rfl () ⟨(rg_w (show rg (8 : Int32) 8 8 from rg_l (by decide)) (by decide)), (show 0 ≤ (8 : Int32).toInt → (v0.toInt % 8 = 7 ∨ v0.toInt % 8 = 4) → v0.toInt % 256 ≤ 207 by have q0 := r66_3.1; have q1 := r66_3.2; have q2 := (show rg (8 : Int32) 8 8 from rg_l (by decide)).1; have q3 := (show rg (8 : Int32) 8 8 from rg_l (by decide)).2; have q4 := r4_3.1; have q5 := r4_3.2; have q6 := (show rg (64 : Int32) 64 64 from rg_l (by decide)).1; have q7 := (show rg (64 : Int32) 64 64 from rg_l (by decide)).2; have q8 := (show rg (0 : Int32) 0 0 from rg_l (by decide)).1; have q9 := (show rg (0 : Int32) 0 0 from rg_l (by decide)).2; have q10 := hp1_5; have q11 := hp1_6; have q12 := t4_2; have q13 := t66_2; omega)⟩ hP hD hS [] rfl (by decide) rfl (Nat.le_of_ble_eq_true rfl) (Nat.le_of_ble_eq_true rfl)
        · have t38_2 := (i_ne c38_1)
          have r38_3 : rg r35_1 1 1 := rg_neAl t38_2 hp35_4 (show rg (0 : Int32) 0 0 from rg_l (by decide)) (by decide)
          refine lv_iconst (v := 5) hx hb dX7_partsOf_41 (by decide) ?_
          refine lv_iload_n hx hb dX7_partsOf_42 rfl (lv_at hl 0 rfl) ?_
          refine lv_iconst (v := 1) hx hb dX7_partsOf_43 (by decide) ?_
          refine lv_iand hx hb dX7_partsOf_44 ?_
          refine lv_topi (fun z44_1 ez44_1 => ?_)
          have r44_2 : rg z44_1 0 1 := rg_andr ez44_1 (show rg (1 : Int32) 1 1 from rg_l (by decide)) (by decide)
          have b54 : ∀ (j54_s0 : Int32) (H : Heap) (locs : List Loc) (ls : Array Slot), (rg j54_s0 2 8) → lv_has ls 1 [] → va_P D vwCl [] H → va_D A [] → va_S A s.heap H locs → W p l e ({ frames := 3, cells := 0, slots := 0, locals := 61 }) s m [.int v0].toArray below meth c H locs 0 0 Q (F0 m 54 ls [.int j54_s0, .int 5]) := by
            intro j54_s0 H locs ls r54_1001 hl hP hD hS
            refine lv_ior hx hb dX7_partsOf_54 ?_
            refine lv_topi (fun z54_1 ez54_1 => ?_)
            have r54_2 : rg z54_1 0 15 := rg_or (k := 4) ez54_1 (show rg (5 : Int32) 5 5 from rg_l (by decide)) r54_1001 (by decide)
            exact endq_i hQ hx hb hr hlocks dX7_partsOf_55 rfl () ⟨(rg_w r54_2 (by decide)), (show 0 ≤ z54_1.toInt → (v0.toInt % 8 = 7 ∨ v0.toInt % 8 = 4) → v0.toInt % 256 ≤ 207 by have q0 := h_v0.1; have q1 := h_v0.2; have q2 := r54_2.1; have q3 := r54_2.2; have q4 := r4_3.1; have q5 := r4_3.2; have q6 := (show rg (0 : Int32) 0 0 from rg_l (by decide)).1; have q7 := (show rg (0 : Int32) 0 0 from rg_l (by decide)).2; have q8 := hp1_5; have q9 := hp1_6; have q10 := t4_2; omega)⟩ hP hD hS [] rfl (by decide) rfl (Nat.le_of_ble_eq_true rfl) (Nat.le_of_ble_eq_true rfl)
          refine lv_if_eq (tgt := 52) hx hb dX7_partsOf_45 (by decide) (fun c45_1 => ?_) (fun c45_1 => ?_)
          · have t45_2 := (i_eq c45_1)
            have r45_3 : rg z44_1 0 0 := rg_eqA t45_2 r44_2 (show rg (0 : Int32) 0 0 from rg_l (by decide)) (by decide)
            refine lv_bipush (v := 8) hx hb dX7_partsOf_52 (by decide) ?_
            exact b54 (8 : Int32) H locs ls (rg_w (show rg (8 : Int32) 8 8 from rg_l (by decide)) (by decide)) (lv_sub hl [] rfl) hP hD hS
          · have t45_2 := (i_ne c45_1)
            have r45_3 : rg z44_1 1 1 := rg_neAl t45_2 r44_2 (show rg (0 : Int32) 0 0 from rg_l (by decide)) (by decide)
            refine lv_iconst (v := 2) hx hb dX7_partsOf_48 (by decide) ?_
            refine lv_goto (tgt := 54) hx hb dX7_partsOf_49 (by decide) ?_
            exact b54 (2 : Int32) H locs ls (rg_w (show rg (2 : Int32) 2 2 from rg_l (by decide)) (by decide)) (lv_sub hl [] rfl) hP hD hS
      · have t28_2 := (i_ne c28_1)
        have r28_3 : rg r25_1 1 1 := rg_neAl t28_2 hp25_4 (show rg (0 : Int32) 0 0 from rg_l (by decide)) (by decide)
        refine lv_bipush (v := 7) hx hb dX7_partsOf_31 (by decide) ?_
        exact endq_i hQ hx hb hr hlocks dX7_partsOf_33 rfl () ⟨(rg_w (show rg (7 : Int32) 7 7 from rg_l (by decide)) (by decide)), (show 0 ≤ (7 : Int32).toInt → (v0.toInt % 8 = 7 ∨ v0.toInt % 8 = 4) → v0.toInt % 256 ≤ 207 by have q0 := h_v0.1; have q1 := h_v0.2; have q2 := (show rg (7 : Int32) 7 7 from rg_l (by decide)).1; have q3 := (show rg (7 : Int32) 7 7 from rg_l (by decide)).2; have q4 := r4_3.1; have q5 := r4_3.2; have q6 := (show rg (0 : Int32) 0 0 from rg_l (by decide)).1; have q7 := (show rg (0 : Int32) 0 0 from rg_l (by decide)).2; have q8 := hp1_5; have q9 := hp1_6; have q10 := t4_2; omega)⟩ hP hD hS [] rfl (by decide) rfl (Nat.le_of_ble_eq_true rfl) (Nat.le_of_ble_eq_true rfl)
    · have t16_2 := (i_ne c16_1)
      have r16_3 : rg r13_1 1 1 := rg_neAl t16_2 hp13_4 (show rg (0 : Int32) 0 0 from rg_l (by decide)) (by decide)
      refine lv_iload_n hx hb dX7_partsOf_19 rfl (lv_at hl 0 rfl) ?_
      refine go_i (k1 := 0) (n1 := 0) (wr := []) [] [] (rn_S (As := [.int v0]) (rest := []) (c_X7_partsOfJump l D ct v0  _) (cb_of (n := 1) hn mw_974 mw_7 mw_972 mhX7_partsOfJump ⟨(Nat.le_of_ble_eq_true rfl), (Nat.le_of_ble_eq_true rfl)⟩) hx hb hml hown hn hK hSK hZ hS mw_973 rfl hl.1 (Nat.le_of_ble_eq_true rfl) dX7_partsOf_20 ⟨(Nat.le_of_ble_eq_true rfl), (Nat.le_of_ble_eq_true rfl)⟩) hP hD hS hA rfl rfl (by decide) (by decide) (by decide) (Nat.le_of_ble_eq_true rfl) (Nat.le_of_ble_eq_true rfl) (fun r20_1 u20_2 H locs hp20_3 hP hD hS => ?_)
      have hp20_4 := hp20_3
      have hp20_4 : rg r20_1 (-1) 15 := hp20_4
      have hP : va_P D vwCl [] _ := hP
      have hD : va_D A [] := hD
      exact endq_i hQ hx hb hr hlocks dX7_partsOf_23 rfl () ⟨hp20_4, (show 0 ≤ r20_1.toInt → (v0.toInt % 8 = 7 ∨ v0.toInt % 8 = 4) → v0.toInt % 256 ≤ 207 by have q0 := h_v0.1; have q1 := h_v0.2; have q2 := hp20_4.1; have q3 := hp20_4.2; have q4 := r4_3.1; have q5 := r4_3.2; have q6 := (show rg (0 : Int32) 0 0 from rg_l (by decide)).1; have q7 := (show rg (0 : Int32) 0 0 from rg_l (by decide)).2; have q8 := hp1_5; have q9 := hp1_6; have q10 := t4_2; omega)⟩ hP hD hS [] rfl (by decide) rfl (Nat.le_of_ble_eq_true rfl) (Nat.le_of_ble_eq_true rfl)
  · have t4_2 := (i_ne c4_1)
    have r4_3 : rg r1_1 1 1 := rg_neAl t4_2 hp1_4 (show rg (0 : Int32) 0 0 from rg_l (by decide)) (by decide)
    refine lv_iload_n hx hb dX7_partsOf_7 rfl (lv_at hl 0 rfl) ?_
    refine go_i (k1 := 0) (n1 := 0) (wr := []) [] [] (rn_S (As := [.int v0]) (rest := []) (c_X7_partsOfOp l D ct v0 h_v0 _) (cb_of (n := 1) hn mw_965 mw_7 mw_963 mhX7_partsOfOp ⟨(Nat.le_of_ble_eq_true rfl), (Nat.le_of_ble_eq_true rfl)⟩) hx hb hml hown hn hK hSK hZ hS mw_964 rfl hl.1 (Nat.le_of_ble_eq_true rfl) dX7_partsOf_8 ⟨(Nat.le_of_ble_eq_true rfl), (Nat.le_of_ble_eq_true rfl)⟩) hP hD hS hA rfl rfl (by decide) (by decide) (by decide) (Nat.le_of_ble_eq_true rfl) (Nat.le_of_ble_eq_true rfl) (fun r8_1 u8_2 H locs hp8_3 hP hD hS => ?_)
    obtain ⟨hp8_4, hp8_5⟩ := hp8_3
    have hp8_4 : rg r8_1 (-1) 9 := hp8_4
    have hp8_5 : 0 ≤ r8_1.toInt → v0.toInt ≤ 207 := hp8_5
    have hP : va_P D vwCl [] _ := hP
    have hD : va_D A [] := hD
    exact endq_i hQ hx hb hr hlocks dX7_partsOf_11 rfl () ⟨(rg_w hp8_4 (by decide)), (show 0 ≤ r8_1.toInt → (v0.toInt % 8 = 7 ∨ v0.toInt % 8 = 4) → v0.toInt % 256 ≤ 207 by have q0 := h_v0.1; have q1 := h_v0.2; have q2 := hp8_4.1; have q3 := hp8_4.2; have q4 := r4_3.1; have q5 := r4_3.2; have q6 := (show rg (0 : Int32) 0 0 from rg_l (by decide)).1; have q7 := (show rg (0 : Int32) 0 0 from rg_l (by decide)).2; have q8 := hp1_5; have q9 := hp1_6; have q10 := t4_2; have q11 := hp8_5; omega)⟩ hP hD hS [] rfl (by decide) rfl (Nat.le_of_ble_eq_true rfl) (Nat.le_of_ble_eq_true rfl)
set_option maxHeartbeats 2000000 in
theorem c_X7_exists (l : Launch) (D : va_G) (ct : Nat → ClassId) (v0 : Int64)  : KI (S := Unit) l yX7_exists cX7_exists 5 (some .boolean) 4 81 D ct [.long v0] [] 0 0 (fun (r : Int32) (_ : Unit) => rg r 0 1 ∧ (r.toInt = 1 → (v0.toInt % 8 = 7 ∨ v0.toInt % 8 = 4) → v0.toInt % 256 ≤ 207) ∧ (r.toInt = 1 → (v0.toInt / 256) % 16 ≤ 10 ∧ (v0.toInt / 4096) % 16 ≤ 10)) (fun (_ : Unit) => []) := by
  refine KIq_of (by decide) (Nat.le_of_ble_eq_true rfl) (fun p e s m below meth c A Q C0 hA H locs hS hP hD hQ ls hl => ?_)
  obtain ⟨hx, hb, hr, hown, hin, hml, hlocks, hn, hK, hZ, hSK⟩ := C0
  have hl : lv_has ls 5 [(0, .long v0)] := hl
  refine lv_lload_n hx hb dX7_exists_0 rfl (lv_at hl 0 rfl) ?_
  refine go_i (k1 := 0) (n1 := 0) (wr := []) [] [] (rn_S (As := [.long v0]) (rest := []) (c_X7_codeOf l D ct v0  _) (cb_of (n := 1) hn mw_956 mw_7 mw_954 mhX7_codeOf ⟨(Nat.le_of_ble_eq_true rfl), (Nat.le_of_ble_eq_true rfl)⟩) hx hb hml hown hn hK hSK hZ hS mw_955 rfl hl.1 (Nat.le_of_ble_eq_true rfl) dX7_exists_1 ⟨(Nat.le_of_ble_eq_true rfl), (Nat.le_of_ble_eq_true rfl)⟩) hP hD hS hA rfl rfl (by decide) (by decide) (by decide) (Nat.le_of_ble_eq_true rfl) (Nat.le_of_ble_eq_true rfl) (fun r1_1 u1_2 H locs hp1_3 hP hD hS => ?_)
  obtain ⟨hp1_4, hp1_5⟩ := hp1_3
  have hp1_4 : rg r1_1 0 255 := hp1_4
  have hp1_5 : r1_1.toInt = v0.toInt % 256 := hp1_5
  have hP : va_P D vwCl [] _ := hP
  have hD : va_D A [] := hD
  refine go_i (k1 := 0) (n1 := 0) (wr := []) [] [] (rn_S (As := [.int r1_1]) (rest := []) (c_X7_partsOf l D ct r1_1 hp1_4 _) (cb_of (n := 1) hn mw_959 mw_7 mw_957 mhX7_partsOf ⟨(Nat.le_of_ble_eq_true rfl), (Nat.le_of_ble_eq_true rfl)⟩) hx hb hml hown hn hK hSK hZ hS mw_958 rfl hl.1 (Nat.le_of_ble_eq_true rfl) dX7_exists_4 ⟨(Nat.le_of_ble_eq_true rfl), (Nat.le_of_ble_eq_true rfl)⟩) hP hD hS hA rfl rfl (by decide) (by decide) (by decide) (Nat.le_of_ble_eq_true rfl) (Nat.le_of_ble_eq_true rfl) (fun r4_1 u4_2 H locs hp4_3 hP hD hS => ?_)
  obtain ⟨hp4_4, hp4_5⟩ := hp4_3
  have hp4_4 : rg r4_1 (-1) 15 := hp4_4
  have hp4_5 : 0 ≤ r4_1.toInt → (r1_1.toInt % 8 = 7 ∨ r1_1.toInt % 8 = 4) → r1_1.toInt % 256 ≤ 207 := hp4_5
  have hP : va_P D vwCl [] _ := hP
  have hD : va_D A [] := hD
  refine lv_istore_n (lv' := [(2, .int r4_1), (0, .long v0)]) hx hb dX7_exists_7 rfl hl (by decide) rfl (fun ls hl => ?_)
  refine lv_lload_n hx hb dX7_exists_8 rfl (lv_at hl 1 rfl) ?_
  refine go_i (k1 := 0) (n1 := 0) (wr := []) [] [] (rn_S (As := [.long v0]) (rest := []) (c_X7_dOf l D ct v0  _) (cb_of (n := 1) hn mw_986 mw_7 mw_984 mhX7_dOf ⟨(Nat.le_of_ble_eq_true rfl), (Nat.le_of_ble_eq_true rfl)⟩) hx hb hml hown hn hK hSK hZ hS mw_985 rfl hl.1 (Nat.le_of_ble_eq_true rfl) dX7_exists_9 ⟨(Nat.le_of_ble_eq_true rfl), (Nat.le_of_ble_eq_true rfl)⟩) hP hD hS hA rfl rfl (by decide) (by decide) (by decide) (Nat.le_of_ble_eq_true rfl) (Nat.le_of_ble_eq_true rfl) (fun r9_1 u9_2 H locs hp9_3 hP hD hS => ?_)
  obtain ⟨hp9_4, hp9_5⟩ := hp9_3
  have hp9_4 : rg r9_1 0 15 := hp9_4
  have hp9_5 : r9_1.toInt = (v0.toInt / 256) % 16 := hp9_5
  have hP : va_P D vwCl [] _ := hP
  have hD : va_D A [] := hD
  refine lv_istore_n (lv' := [(3, .int r9_1), (2, .int r4_1), (0, .long v0)]) hx hb dX7_exists_12 rfl hl (by decide) rfl (fun ls hl => ?_)
  refine lv_lload_n hx hb dX7_exists_13 rfl (lv_at hl 2 rfl) ?_
  refine go_i (k1 := 0) (n1 := 0) (wr := []) [] [] (rn_S (As := [.long v0]) (rest := []) (c_X7_sOf l D ct v0  _) (cb_of (n := 1) hn mw_989 mw_7 mw_987 mhX7_sOf ⟨(Nat.le_of_ble_eq_true rfl), (Nat.le_of_ble_eq_true rfl)⟩) hx hb hml hown hn hK hSK hZ hS mw_988 rfl hl.1 (Nat.le_of_ble_eq_true rfl) dX7_exists_14 ⟨(Nat.le_of_ble_eq_true rfl), (Nat.le_of_ble_eq_true rfl)⟩) hP hD hS hA rfl rfl (by decide) (by decide) (by decide) (Nat.le_of_ble_eq_true rfl) (Nat.le_of_ble_eq_true rfl) (fun r14_1 u14_2 H locs hp14_3 hP hD hS => ?_)
  obtain ⟨hp14_4, hp14_5⟩ := hp14_3
  have hp14_4 : rg r14_1 0 15 := hp14_4
  have hp14_5 : r14_1.toInt = (v0.toInt / 4096) % 16 := hp14_5
  have hP : va_P D vwCl [] _ := hP
  have hD : va_D A [] := hD
  refine lv_istore (lv' := [(4, .int r14_1), (3, .int r9_1), (2, .int r4_1), (0, .long v0)]) hx hb dX7_exists_17 hl (by decide) rfl (fun ls hl => ?_)
  refine lv_iload_n hx hb dX7_exists_19 rfl (lv_at hl 2 rfl) ?_
  refine lv_if_lt (tgt := 88) hx hb dX7_exists_20 (by decide) (fun c20_1 => ?_) (fun c20_1 => ?_)
  · have t20_2 := (i_lt c20_1)
    have r20_3 : rg r4_1 (-1) (-1) := rg_ltA t20_2 hp4_4 (show rg (0 : Int32) 0 0 from rg_l (by decide)) (by decide)
    refine lv_iconst (v := 0) hx hb dX7_exists_88 (by decide) ?_
    exact endq_i hQ hx hb hr hlocks dX7_exists_89 (by decide) () ⟨(rg_w (show rg (0 : Int32) 0 0 from rg_l (by decide)) (by decide)), (show (0 : Int32).toInt = 1 → (v0.toInt % 8 = 7 ∨ v0.toInt % 8 = 4) → v0.toInt % 256 ≤ 207 by have q0 := (rl_any v0).1; have q1 := (rl_any v0).2; have q2 := (show rg (0 : Int32) 0 0 from rg_l (by decide)).1; have q3 := (show rg (0 : Int32) 0 0 from rg_l (by decide)).2; have q4 := hp1_4.1; have q5 := hp1_4.2; have q6 := hp9_4.1; have q7 := hp9_4.2; have q8 := hp14_4.1; have q9 := hp14_4.2; have q10 := r20_3.1; have q11 := r20_3.2; have q12 := hp1_5; have q13 := hp4_5; have q14 := hp9_5; have q15 := hp14_5; have q16 := t20_2; omega), (show (0 : Int32).toInt = 1 → (v0.toInt / 256) % 16 ≤ 10 ∧ (v0.toInt / 4096) % 16 ≤ 10 by have q0 := (rl_any v0).1; have q1 := (rl_any v0).2; have q2 := (show rg (0 : Int32) 0 0 from rg_l (by decide)).1; have q3 := (show rg (0 : Int32) 0 0 from rg_l (by decide)).2; have q4 := hp1_4.1; have q5 := hp1_4.2; have q6 := hp9_4.1; have q7 := hp9_4.2; have q8 := hp14_4.1; have q9 := hp14_4.2; have q10 := r20_3.1; have q11 := r20_3.2; have q12 := hp1_5; have q13 := hp4_5; have q14 := hp9_5; have q15 := hp14_5; have q16 := t20_2; omega)⟩ hP hD hS [] rfl (by decide) rfl (Nat.le_of_ble_eq_true rfl) (Nat.le_of_ble_eq_true rfl)
  · have t20_2 := (i_nlt c20_1)
    have r20_3 : rg r4_1 0 15 := rg_leB t20_2 (show rg (0 : Int32) 0 0 from rg_l (by decide)) hp4_4 (by decide)
    refine lv_iload_n hx hb dX7_exists_23 rfl (lv_at hl 1 rfl) ?_
    refine lv_bipush (v := 10) hx hb dX7_exists_24 (by decide) ?_
    refine lv_icmp_gt (tgt := 88) hx hb dX7_exists_26 (by decide) (fun c26_1 => ?_) (fun c26_1 => ?_)
    · have t26_2 := (i_lt c26_1)
      have r26_3 : rg r9_1 11 15 := rg_ltB t26_2 (show rg (10 : Int32) 10 10 from rg_l (by decide)) hp9_4 (by decide)
      refine lv_iconst (v := 0) hx hb dX7_exists_88 (by decide) ?_
      exact endq_i hQ hx hb hr hlocks dX7_exists_89 (by decide) () ⟨(rg_w (show rg (0 : Int32) 0 0 from rg_l (by decide)) (by decide)), (show (0 : Int32).toInt = 1 → (v0.toInt % 8 = 7 ∨ v0.toInt % 8 = 4) → v0.toInt % 256 ≤ 207 by have q0 := (rl_any v0).1; have q1 := (rl_any v0).2; have q2 := (show rg (0 : Int32) 0 0 from rg_l (by decide)).1; have q3 := (show rg (0 : Int32) 0 0 from rg_l (by decide)).2; have q4 := hp1_4.1; have q5 := hp1_4.2; have q6 := r26_3.1; have q7 := r26_3.2; have q8 := hp14_4.1; have q9 := hp14_4.2; have q10 := r20_3.1; have q11 := r20_3.2; have q12 := (show rg (10 : Int32) 10 10 from rg_l (by decide)).1; have q13 := (show rg (10 : Int32) 10 10 from rg_l (by decide)).2; have q14 := hp1_5; have q15 := hp4_5; have q16 := hp9_5; have q17 := hp14_5; have q18 := t20_2; have q19 := t26_2; omega), (show (0 : Int32).toInt = 1 → (v0.toInt / 256) % 16 ≤ 10 ∧ (v0.toInt / 4096) % 16 ≤ 10 by have q0 := (rl_any v0).1; have q1 := (rl_any v0).2; have q2 := (show rg (0 : Int32) 0 0 from rg_l (by decide)).1; have q3 := (show rg (0 : Int32) 0 0 from rg_l (by decide)).2; have q4 := hp1_4.1; have q5 := hp1_4.2; have q6 := r26_3.1; have q7 := r26_3.2; have q8 := hp14_4.1; have q9 := hp14_4.2; have q10 := r20_3.1; have q11 := r20_3.2; have q12 := (show rg (10 : Int32) 10 10 from rg_l (by decide)).1; have q13 := (show rg (10 : Int32) 10 10 from rg_l (by decide)).2; have q14 := hp1_5; have q15 := hp4_5; have q16 := hp9_5; have q17 := hp14_5; have q18 := t20_2; have q19 := t26_2; omega)⟩ hP hD hS [] rfl (by decide) rfl (Nat.le_of_ble_eq_true rfl) (Nat.le_of_ble_eq_true rfl)
    · have t26_2 := (i_nlt c26_1)
      have r26_3 : rg r9_1 0 10 := rg_leA t26_2 hp9_4 (show rg (10 : Int32) 10 10 from rg_l (by decide)) (by decide)
      refine lv_iload hx hb dX7_exists_29 (lv_at hl 0 rfl) ?_
      refine lv_bipush (v := 10) hx hb dX7_exists_31 (by decide) ?_
      refine lv_icmp_gt (tgt := 88) hx hb dX7_exists_33 (by decide) (fun c33_1 => ?_) (fun c33_1 => ?_)
      · have t33_2 := (i_lt c33_1)
        have r33_3 : rg r14_1 11 15 := rg_ltB t33_2 (show rg (10 : Int32) 10 10 from rg_l (by decide)) hp14_4 (by decide)
        refine lv_iconst (v := 0) hx hb dX7_exists_88 (by decide) ?_
        exact endq_i hQ hx hb hr hlocks dX7_exists_89 (by decide) () ⟨(rg_w (show rg (0 : Int32) 0 0 from rg_l (by decide)) (by decide)), (show (0 : Int32).toInt = 1 → (v0.toInt % 8 = 7 ∨ v0.toInt % 8 = 4) → v0.toInt % 256 ≤ 207 by have q0 := (rl_any v0).1; have q1 := (rl_any v0).2; have q2 := (show rg (0 : Int32) 0 0 from rg_l (by decide)).1; have q3 := (show rg (0 : Int32) 0 0 from rg_l (by decide)).2; have q4 := hp1_4.1; have q5 := hp1_4.2; have q6 := r26_3.1; have q7 := r26_3.2; have q8 := r33_3.1; have q9 := r33_3.2; have q10 := r20_3.1; have q11 := r20_3.2; have q12 := (show rg (10 : Int32) 10 10 from rg_l (by decide)).1; have q13 := (show rg (10 : Int32) 10 10 from rg_l (by decide)).2; have q14 := hp1_5; have q15 := hp4_5; have q16 := hp9_5; have q17 := hp14_5; have q18 := t20_2; have q19 := t26_2; have q20 := t33_2; omega), (show (0 : Int32).toInt = 1 → (v0.toInt / 256) % 16 ≤ 10 ∧ (v0.toInt / 4096) % 16 ≤ 10 by have q0 := (rl_any v0).1; have q1 := (rl_any v0).2; have q2 := (show rg (0 : Int32) 0 0 from rg_l (by decide)).1; have q3 := (show rg (0 : Int32) 0 0 from rg_l (by decide)).2; have q4 := hp1_4.1; have q5 := hp1_4.2; have q6 := r26_3.1; have q7 := r26_3.2; have q8 := r33_3.1; have q9 := r33_3.2; have q10 := r20_3.1; have q11 := r20_3.2; have q12 := (show rg (10 : Int32) 10 10 from rg_l (by decide)).1; have q13 := (show rg (10 : Int32) 10 10 from rg_l (by decide)).2; have q14 := hp1_5; have q15 := hp4_5; have q16 := hp9_5; have q17 := hp14_5; have q18 := t20_2; have q19 := t26_2; have q20 := t33_2; omega)⟩ hP hD hS [] rfl (by decide) rfl (Nat.le_of_ble_eq_true rfl) (Nat.le_of_ble_eq_true rfl)
      · have t33_2 := (i_nlt c33_1)
        have r33_3 : rg r14_1 0 10 := rg_leA t33_2 hp14_4 (show rg (10 : Int32) 10 10 from rg_l (by decide)) (by decide)
        refine lv_iload_n hx hb dX7_exists_36 rfl (lv_at hl 2 rfl) ?_
        refine lv_iconst (v := 1) hx hb dX7_exists_37 (by decide) ?_
        refine lv_iand hx hb dX7_exists_38 ?_
        refine lv_topi (fun z38_1 ez38_1 => ?_)
        have r38_2 : rg z38_1 0 1 := rg_andr ez38_1 (show rg (1 : Int32) 1 1 from rg_l (by decide)) (by decide)
        have b46 : ∀  (H : Heap) (locs : List Loc) (ls : Array Slot), lv_has ls 5 [(0, .long v0), (2, .int r4_1), (4, .int r14_1)] → va_P D vwCl [] H → va_D A [] → va_S A s.heap H locs → W p l e ({ frames := 4, cells := 0, slots := 0, locals := 81 }) s m [.long v0].toArray below meth c H locs 0 0 Q (F0 m 46 ls []) := by
          intro  H locs ls  hl hP hD hS
          refine lv_iload_n hx hb dX7_exists_46 rfl (lv_at hl 1 rfl) ?_
          refine lv_iconst (v := 2) hx hb dX7_exists_47 (by decide) ?_
          refine lv_iand hx hb dX7_exists_48 ?_
          refine lv_topi (fun z48_1 ez48_1 => ?_)
          have r48_2 : rg z48_1 0 2 := rg_andr ez48_1 (show rg (2 : Int32) 2 2 from rg_l (by decide)) (by decide)
          have b57 : ∀  (H : Heap) (locs : List Loc) (ls : Array Slot), lv_has ls 5 [(0, .long v0), (2, .int r4_1)] → va_P D vwCl [] H → va_D A [] → va_S A s.heap H locs → W p l e ({ frames := 4, cells := 0, slots := 0, locals := 81 }) s m [.long v0].toArray below meth c H locs 0 0 Q (F0 m 57 ls []) := by
            intro  H locs ls  hl hP hD hS
            refine lv_iload_n hx hb dX7_exists_57 rfl (lv_at hl 1 rfl) ?_
            refine lv_iconst (v := 4) hx hb dX7_exists_58 (by decide) ?_
            refine lv_iand hx hb dX7_exists_59 ?_
            refine lv_topi (fun z59_1 ez59_1 => ?_)
            have r59_2 : rg z59_1 0 4 := rg_andr ez59_1 (show rg (4 : Int32) 4 4 from rg_l (by decide)) (by decide)
            have b70 : ∀  (H : Heap) (locs : List Loc) (ls : Array Slot), lv_has ls 5 [(0, .long v0), (2, .int r4_1)] → va_P D vwCl [] H → va_D A [] → va_S A s.heap H locs → W p l e ({ frames := 4, cells := 0, slots := 0, locals := 81 }) s m [.long v0].toArray below meth c H locs 0 0 Q (F0 m 70 ls []) := by
              intro  H locs ls  hl hP hD hS
              refine lv_iload_n hx hb dX7_exists_70 rfl (lv_at hl 1 rfl) ?_
              refine lv_bipush (v := 8) hx hb dX7_exists_71 (by decide) ?_
              refine lv_iand hx hb dX7_exists_73 ?_
              refine lv_topi (fun z73_1 ez73_1 => ?_)
              have r73_2 : rg z73_1 0 8 := rg_andr ez73_1 (show rg (8 : Int32) 8 8 from rg_l (by decide)) (by decide)
              refine lv_if_ne (tgt := 84) hx hb dX7_exists_74 (by decide) (fun c74_1 => ?_) (fun c74_1 => ?_)
              · have t74_2 := (i_ne c74_1)
                have r74_3 : rg z73_1 1 8 := rg_neAl t74_2 r73_2 (show rg (0 : Int32) 0 0 from rg_l (by decide)) (by decide)
                refine lv_iconst (v := 1) hx hb dX7_exists_84 (by decide) ?_
                refine lv_goto (tgt := 89) hx hb dX7_exists_85 (by decide) ?_
                exact endq_i hQ hx hb hr hlocks dX7_exists_89 (by decide) () ⟨(rg_w (show rg (1 : Int32) 1 1 from rg_l (by decide)) (by decide)), (show (1 : Int32).toInt = 1 → (v0.toInt % 8 = 7 ∨ v0.toInt % 8 = 4) → v0.toInt % 256 ≤ 207 by have q0 := (rl_any v0).1; have q1 := (rl_any v0).2; have q2 := (show rg (1 : Int32) 1 1 from rg_l (by decide)).1; have q3 := (show rg (1 : Int32) 1 1 from rg_l (by decide)).2; have q4 := hp1_4.1; have q5 := hp1_4.2; have q6 := r26_3.1; have q7 := r26_3.2; have q8 := r33_3.1; have q9 := r33_3.2; have q10 := r20_3.1; have q11 := r20_3.2; have q12 := (show rg (10 : Int32) 10 10 from rg_l (by decide)).1; have q13 := (show rg (10 : Int32) 10 10 from rg_l (by decide)).2; have q14 := (show rg (0 : Int32) 0 0 from rg_l (by decide)).1; have q15 := (show rg (0 : Int32) 0 0 from rg_l (by decide)).2; have q16 := hp1_5; have q17 := hp4_5; have q18 := hp9_5; have q19 := hp14_5; have q20 := t20_2; have q21 := t26_2; have q22 := t33_2; omega), (show (1 : Int32).toInt = 1 → (v0.toInt / 256) % 16 ≤ 10 ∧ (v0.toInt / 4096) % 16 ≤ 10 by have q0 := (rl_any v0).1; have q1 := (rl_any v0).2; have q2 := (show rg (1 : Int32) 1 1 from rg_l (by decide)).1; have q3 := (show rg (1 : Int32) 1 1 from rg_l (by decide)).2; have q4 := hp1_4.1; have q5 := hp1_4.2; have q6 := r26_3.1; have q7 := r26_3.2; have q8 := r33_3.1; have q9 := r33_3.2; have q10 := r20_3.1; have q11 := r20_3.2; have q12 := (show rg (10 : Int32) 10 10 from rg_l (by decide)).1; have q13 := (show rg (10 : Int32) 10 10 from rg_l (by decide)).2; have q14 := (show rg (0 : Int32) 0 0 from rg_l (by decide)).1; have q15 := (show rg (0 : Int32) 0 0 from rg_l (by decide)).2; have q16 := hp1_5; have q17 := hp4_5; have q18 := hp9_5; have q19 := hp14_5; have q20 := t20_2; have q21 := t26_2; have q22 := t33_2; omega)⟩ hP hD hS [] rfl (by decide) rfl (Nat.le_of_ble_eq_true rfl) (Nat.le_of_ble_eq_true rfl)
              · have t74_2 := (i_eq c74_1)
                have r74_3 : rg z73_1 0 0 := rg_eqA t74_2 r73_2 (show rg (0 : Int32) 0 0 from rg_l (by decide)) (by decide)
                refine lv_lload_n hx hb dX7_exists_77 rfl (lv_at hl 0 rfl) ?_
                refine go_i (k1 := 0) (n1 := 0) (wr := []) [] [] (rn_S (As := [.long v0]) (rest := []) (c_X7_kOf l D ct v0  _) (cb_of (n := 1) hn mw_995 mw_7 mw_993 mhX7_kOf ⟨(Nat.le_of_ble_eq_true rfl), (Nat.le_of_ble_eq_true rfl)⟩) hx hb hml hown hn hK hSK hZ hS mw_994 rfl hl.1 (Nat.le_of_ble_eq_true rfl) dX7_exists_78 ⟨(Nat.le_of_ble_eq_true rfl), (Nat.le_of_ble_eq_true rfl)⟩) hP hD hS hA rfl rfl (by decide) (by decide) (by decide) (Nat.le_of_ble_eq_true rfl) (Nat.le_of_ble_eq_true rfl) (fun r78_1 u78_2 H locs hp78_3 hP hD hS => ?_)
                have hP : va_P D vwCl [] _ := hP
                have hD : va_D A [] := hD
                refine lv_if_ne (tgt := 88) hx hb dX7_exists_81 (by decide) (fun c81_1 => ?_) (fun c81_1 => ?_)
                · have t81_2 := (i_ne c81_1)
                  refine lv_iconst (v := 0) hx hb dX7_exists_88 (by decide) ?_
                  exact endq_i hQ hx hb hr hlocks dX7_exists_89 (by decide) () ⟨(rg_w (show rg (0 : Int32) 0 0 from rg_l (by decide)) (by decide)), (show (0 : Int32).toInt = 1 → (v0.toInt % 8 = 7 ∨ v0.toInt % 8 = 4) → v0.toInt % 256 ≤ 207 by have q0 := (rl_any v0).1; have q1 := (rl_any v0).2; have q2 := (show rg (0 : Int32) 0 0 from rg_l (by decide)).1; have q3 := (show rg (0 : Int32) 0 0 from rg_l (by decide)).2; have q4 := hp1_4.1; have q5 := hp1_4.2; have q6 := r26_3.1; have q7 := r26_3.2; have q8 := r33_3.1; have q9 := r33_3.2; have q10 := r20_3.1; have q11 := r20_3.2; have q12 := (show rg (10 : Int32) 10 10 from rg_l (by decide)).1; have q13 := (show rg (10 : Int32) 10 10 from rg_l (by decide)).2; have q14 := hp1_5; have q15 := hp4_5; have q16 := hp9_5; have q17 := hp14_5; have q18 := t20_2; have q19 := t26_2; have q20 := t33_2; omega), (show (0 : Int32).toInt = 1 → (v0.toInt / 256) % 16 ≤ 10 ∧ (v0.toInt / 4096) % 16 ≤ 10 by have q0 := (rl_any v0).1; have q1 := (rl_any v0).2; have q2 := (show rg (0 : Int32) 0 0 from rg_l (by decide)).1; have q3 := (show rg (0 : Int32) 0 0 from rg_l (by decide)).2; have q4 := hp1_4.1; have q5 := hp1_4.2; have q6 := r26_3.1; have q7 := r26_3.2; have q8 := r33_3.1; have q9 := r33_3.2; have q10 := r20_3.1; have q11 := r20_3.2; have q12 := (show rg (10 : Int32) 10 10 from rg_l (by decide)).1; have q13 := (show rg (10 : Int32) 10 10 from rg_l (by decide)).2; have q14 := hp1_5; have q15 := hp4_5; have q16 := hp9_5; have q17 := hp14_5; have q18 := t20_2; have q19 := t26_2; have q20 := t33_2; omega)⟩ hP hD hS [] rfl (by decide) rfl (Nat.le_of_ble_eq_true rfl) (Nat.le_of_ble_eq_true rfl)
                · have t81_2 := (i_eq c81_1)
                  have r81_3 : rg r78_1 0 0 := rg_eqA t81_2 (rg_any r78_1) (show rg (0 : Int32) 0 0 from rg_l (by decide)) (by decide)
                  refine lv_iconst (v := 1) hx hb dX7_exists_84 (by decide) ?_
                  refine lv_goto (tgt := 89) hx hb dX7_exists_85 (by decide) ?_
                  exact endq_i hQ hx hb hr hlocks dX7_exists_89 (by decide) () ⟨(rg_w (show rg (1 : Int32) 1 1 from rg_l (by decide)) (by decide)), (show (1 : Int32).toInt = 1 → (v0.toInt % 8 = 7 ∨ v0.toInt % 8 = 4) → v0.toInt % 256 ≤ 207 by have q0 := (rl_any v0).1; have q1 := (rl_any v0).2; have q2 := (show rg (1 : Int32) 1 1 from rg_l (by decide)).1; have q3 := (show rg (1 : Int32) 1 1 from rg_l (by decide)).2; have q4 := hp1_4.1; have q5 := hp1_4.2; have q6 := r26_3.1; have q7 := r26_3.2; have q8 := r33_3.1; have q9 := r33_3.2; have q10 := r20_3.1; have q11 := r20_3.2; have q12 := (show rg (10 : Int32) 10 10 from rg_l (by decide)).1; have q13 := (show rg (10 : Int32) 10 10 from rg_l (by decide)).2; have q14 := (show rg (0 : Int32) 0 0 from rg_l (by decide)).1; have q15 := (show rg (0 : Int32) 0 0 from rg_l (by decide)).2; have q16 := hp1_5; have q17 := hp4_5; have q18 := hp9_5; have q19 := hp14_5; have q20 := t20_2; have q21 := t26_2; have q22 := t33_2; omega), (show (1 : Int32).toInt = 1 → (v0.toInt / 256) % 16 ≤ 10 ∧ (v0.toInt / 4096) % 16 ≤ 10 by have q0 := (rl_any v0).1; have q1 := (rl_any v0).2; have q2 := (show rg (1 : Int32) 1 1 from rg_l (by decide)).1; have q3 := (show rg (1 : Int32) 1 1 from rg_l (by decide)).2; have q4 := hp1_4.1; have q5 := hp1_4.2; have q6 := r26_3.1; have q7 := r26_3.2; have q8 := r33_3.1; have q9 := r33_3.2; have q10 := r20_3.1; have q11 := r20_3.2; have q12 := (show rg (10 : Int32) 10 10 from rg_l (by decide)).1; have q13 := (show rg (10 : Int32) 10 10 from rg_l (by decide)).2; have q14 := (show rg (0 : Int32) 0 0 from rg_l (by decide)).1; have q15 := (show rg (0 : Int32) 0 0 from rg_l (by decide)).2; have q16 := hp1_5; have q17 := hp4_5; have q18 := hp9_5; have q19 := hp14_5; have q20 := t20_2; have q21 := t26_2; have q22 := t33_2; omega)⟩ hP hD hS [] rfl (by decide) rfl (Nat.le_of_ble_eq_true rfl) (Nat.le_of_ble_eq_true rfl)
            refine lv_if_ne (tgt := 70) hx hb dX7_exists_60 (by decide) (fun c60_1 => ?_) (fun c60_1 => ?_)
            · have t60_2 := (i_ne c60_1)
              have r60_3 : rg z59_1 1 4 := rg_neAl t60_2 r59_2 (show rg (0 : Int32) 0 0 from rg_l (by decide)) (by decide)
              exact b70  H locs ls  (lv_sub hl [0, 1] rfl) hP hD hS
            · have t60_2 := (i_eq c60_1)
              have r60_3 : rg z59_1 0 0 := rg_eqA t60_2 r59_2 (show rg (0 : Int32) 0 0 from rg_l (by decide)) (by decide)
              refine lv_lload_n hx hb dX7_exists_63 rfl (lv_at hl 0 rfl) ?_
              refine go_i (k1 := 0) (n1 := 0) (wr := []) [] [] (rn_S (As := [.long v0]) (rest := []) (c_X7_offOf l D ct v0  _) (cb_of (n := 1) hn mw_992 mw_7 mw_990 mhX7_offOf ⟨(Nat.le_of_ble_eq_true rfl), (Nat.le_of_ble_eq_true rfl)⟩) hx hb hml hown hn hK hSK hZ hS mw_991 rfl hl.1 (Nat.le_of_ble_eq_true rfl) dX7_exists_64 ⟨(Nat.le_of_ble_eq_true rfl), (Nat.le_of_ble_eq_true rfl)⟩) hP hD hS hA rfl rfl (by decide) (by decide) (by decide) (Nat.le_of_ble_eq_true rfl) (Nat.le_of_ble_eq_true rfl) (fun r64_1 u64_2 H locs hp64_3 hP hD hS => ?_)
              have hp64_4 := hp64_3
              have hp64_4 : rg r64_1 (-32768) 32767 := hp64_4
              have hP : va_P D vwCl [] _ := hP
              have hD : va_D A [] := hD
              refine lv_if_ne (tgt := 88) hx hb dX7_exists_67 (by decide) (fun c67_1 => ?_) (fun c67_1 => ?_)
              · have t67_2 := (i_ne c67_1)
                refine lv_iconst (v := 0) hx hb dX7_exists_88 (by decide) ?_
                exact endq_i hQ hx hb hr hlocks dX7_exists_89 (by decide) () ⟨(rg_w (show rg (0 : Int32) 0 0 from rg_l (by decide)) (by decide)), (show (0 : Int32).toInt = 1 → (v0.toInt % 8 = 7 ∨ v0.toInt % 8 = 4) → v0.toInt % 256 ≤ 207 by have q0 := (rl_any v0).1; have q1 := (rl_any v0).2; have q2 := (show rg (0 : Int32) 0 0 from rg_l (by decide)).1; have q3 := (show rg (0 : Int32) 0 0 from rg_l (by decide)).2; have q4 := hp1_4.1; have q5 := hp1_4.2; have q6 := r26_3.1; have q7 := r26_3.2; have q8 := r33_3.1; have q9 := r33_3.2; have q10 := r20_3.1; have q11 := r20_3.2; have q12 := (show rg (10 : Int32) 10 10 from rg_l (by decide)).1; have q13 := (show rg (10 : Int32) 10 10 from rg_l (by decide)).2; have q14 := hp1_5; have q15 := hp4_5; have q16 := hp9_5; have q17 := hp14_5; have q18 := t20_2; have q19 := t26_2; have q20 := t33_2; omega), (show (0 : Int32).toInt = 1 → (v0.toInt / 256) % 16 ≤ 10 ∧ (v0.toInt / 4096) % 16 ≤ 10 by have q0 := (rl_any v0).1; have q1 := (rl_any v0).2; have q2 := (show rg (0 : Int32) 0 0 from rg_l (by decide)).1; have q3 := (show rg (0 : Int32) 0 0 from rg_l (by decide)).2; have q4 := hp1_4.1; have q5 := hp1_4.2; have q6 := r26_3.1; have q7 := r26_3.2; have q8 := r33_3.1; have q9 := r33_3.2; have q10 := r20_3.1; have q11 := r20_3.2; have q12 := (show rg (10 : Int32) 10 10 from rg_l (by decide)).1; have q13 := (show rg (10 : Int32) 10 10 from rg_l (by decide)).2; have q14 := hp1_5; have q15 := hp4_5; have q16 := hp9_5; have q17 := hp14_5; have q18 := t20_2; have q19 := t26_2; have q20 := t33_2; omega)⟩ hP hD hS [] rfl (by decide) rfl (Nat.le_of_ble_eq_true rfl) (Nat.le_of_ble_eq_true rfl)
              · have t67_2 := (i_eq c67_1)
                have r67_3 : rg r64_1 0 0 := rg_eqA t67_2 hp64_4 (show rg (0 : Int32) 0 0 from rg_l (by decide)) (by decide)
                exact b70  H locs ls  (lv_sub hl [0, 1] rfl) hP hD hS
          refine lv_if_ne (tgt := 57) hx hb dX7_exists_49 (by decide) (fun c49_1 => ?_) (fun c49_1 => ?_)
          · have t49_2 := (i_ne c49_1)
            have r49_3 : rg z48_1 1 2 := rg_neAl t49_2 r48_2 (show rg (0 : Int32) 0 0 from rg_l (by decide)) (by decide)
            exact b57  H locs ls  (lv_sub hl [0, 1] rfl) hP hD hS
          · have t49_2 := (i_eq c49_1)
            have r49_3 : rg z48_1 0 0 := rg_eqA t49_2 r48_2 (show rg (0 : Int32) 0 0 from rg_l (by decide)) (by decide)
            refine lv_iload hx hb dX7_exists_52 (lv_at hl 2 rfl) ?_
            refine lv_if_ne (tgt := 88) hx hb dX7_exists_54 (by decide) (fun c54_1 => ?_) (fun c54_1 => ?_)
            · have t54_2 := (i_ne c54_1)
              have r54_3 : rg r14_1 1 10 := rg_neAl t54_2 r33_3 (show rg (0 : Int32) 0 0 from rg_l (by decide)) (by decide)
              refine lv_iconst (v := 0) hx hb dX7_exists_88 (by decide) ?_
              exact endq_i hQ hx hb hr hlocks dX7_exists_89 (by decide) () ⟨(rg_w (show rg (0 : Int32) 0 0 from rg_l (by decide)) (by decide)), (show (0 : Int32).toInt = 1 → (v0.toInt % 8 = 7 ∨ v0.toInt % 8 = 4) → v0.toInt % 256 ≤ 207 by have q0 := (rl_any v0).1; have q1 := (rl_any v0).2; have q2 := (show rg (0 : Int32) 0 0 from rg_l (by decide)).1; have q3 := (show rg (0 : Int32) 0 0 from rg_l (by decide)).2; have q4 := hp1_4.1; have q5 := hp1_4.2; have q6 := r26_3.1; have q7 := r26_3.2; have q8 := r54_3.1; have q9 := r54_3.2; have q10 := r20_3.1; have q11 := r20_3.2; have q12 := (show rg (10 : Int32) 10 10 from rg_l (by decide)).1; have q13 := (show rg (10 : Int32) 10 10 from rg_l (by decide)).2; have q14 := hp1_5; have q15 := hp4_5; have q16 := hp9_5; have q17 := hp14_5; have q18 := t20_2; have q19 := t26_2; have q20 := t33_2; have q21 := t54_2; omega), (show (0 : Int32).toInt = 1 → (v0.toInt / 256) % 16 ≤ 10 ∧ (v0.toInt / 4096) % 16 ≤ 10 by have q0 := (rl_any v0).1; have q1 := (rl_any v0).2; have q2 := (show rg (0 : Int32) 0 0 from rg_l (by decide)).1; have q3 := (show rg (0 : Int32) 0 0 from rg_l (by decide)).2; have q4 := hp1_4.1; have q5 := hp1_4.2; have q6 := r26_3.1; have q7 := r26_3.2; have q8 := r54_3.1; have q9 := r54_3.2; have q10 := r20_3.1; have q11 := r20_3.2; have q12 := (show rg (10 : Int32) 10 10 from rg_l (by decide)).1; have q13 := (show rg (10 : Int32) 10 10 from rg_l (by decide)).2; have q14 := hp1_5; have q15 := hp4_5; have q16 := hp9_5; have q17 := hp14_5; have q18 := t20_2; have q19 := t26_2; have q20 := t33_2; have q21 := t54_2; omega)⟩ hP hD hS [] rfl (by decide) rfl (Nat.le_of_ble_eq_true rfl) (Nat.le_of_ble_eq_true rfl)
            · have t54_2 := (i_eq c54_1)
              have r54_3 : rg r14_1 0 0 := rg_eqA t54_2 r33_3 (show rg (0 : Int32) 0 0 from rg_l (by decide)) (by decide)
              exact b57  H locs ls  (lv_sub hl [0, 1] rfl) hP hD hS
        refine lv_if_ne (tgt := 46) hx hb dX7_exists_39 (by decide) (fun c39_1 => ?_) (fun c39_1 => ?_)
        · have t39_2 := (i_ne c39_1)
          have r39_3 : rg z38_1 1 1 := rg_neAl t39_2 r38_2 (show rg (0 : Int32) 0 0 from rg_l (by decide)) (by decide)
          exact b46  H locs ls  (lv_sub hl [3, 2, 0] rfl) hP hD hS
        · have t39_2 := (i_eq c39_1)
          have r39_3 : rg z38_1 0 0 := rg_eqA t39_2 r38_2 (show rg (0 : Int32) 0 0 from rg_l (by decide)) (by decide)
          refine lv_iload_n hx hb dX7_exists_42 rfl (lv_at hl 1 rfl) ?_
          refine lv_if_ne (tgt := 88) hx hb dX7_exists_43 (by decide) (fun c43_1 => ?_) (fun c43_1 => ?_)
          · have t43_2 := (i_ne c43_1)
            have r43_3 : rg r9_1 1 10 := rg_neAl t43_2 r26_3 (show rg (0 : Int32) 0 0 from rg_l (by decide)) (by decide)
            refine lv_iconst (v := 0) hx hb dX7_exists_88 (by decide) ?_
            exact endq_i hQ hx hb hr hlocks dX7_exists_89 (by decide) () ⟨(rg_w (show rg (0 : Int32) 0 0 from rg_l (by decide)) (by decide)), (show (0 : Int32).toInt = 1 → (v0.toInt % 8 = 7 ∨ v0.toInt % 8 = 4) → v0.toInt % 256 ≤ 207 by have q0 := (rl_any v0).1; have q1 := (rl_any v0).2; have q2 := (show rg (0 : Int32) 0 0 from rg_l (by decide)).1; have q3 := (show rg (0 : Int32) 0 0 from rg_l (by decide)).2; have q4 := hp1_4.1; have q5 := hp1_4.2; have q6 := r43_3.1; have q7 := r43_3.2; have q8 := r33_3.1; have q9 := r33_3.2; have q10 := r20_3.1; have q11 := r20_3.2; have q12 := (show rg (10 : Int32) 10 10 from rg_l (by decide)).1; have q13 := (show rg (10 : Int32) 10 10 from rg_l (by decide)).2; have q14 := r39_3.1; have q15 := r39_3.2; have q16 := (eq_and (c := 2) (k := 1) ez38_1 (by decide) (by decide)); have q17 := hp1_5; have q18 := hp4_5; have q19 := hp9_5; have q20 := hp14_5; have q21 := t20_2; have q22 := t26_2; have q23 := t33_2; have q24 := t39_2; have q25 := t43_2; omega), (show (0 : Int32).toInt = 1 → (v0.toInt / 256) % 16 ≤ 10 ∧ (v0.toInt / 4096) % 16 ≤ 10 by have q0 := (rl_any v0).1; have q1 := (rl_any v0).2; have q2 := (show rg (0 : Int32) 0 0 from rg_l (by decide)).1; have q3 := (show rg (0 : Int32) 0 0 from rg_l (by decide)).2; have q4 := hp1_4.1; have q5 := hp1_4.2; have q6 := r43_3.1; have q7 := r43_3.2; have q8 := r33_3.1; have q9 := r33_3.2; have q10 := r20_3.1; have q11 := r20_3.2; have q12 := (show rg (10 : Int32) 10 10 from rg_l (by decide)).1; have q13 := (show rg (10 : Int32) 10 10 from rg_l (by decide)).2; have q14 := r39_3.1; have q15 := r39_3.2; have q16 := (eq_and (c := 2) (k := 1) ez38_1 (by decide) (by decide)); have q17 := hp1_5; have q18 := hp4_5; have q19 := hp9_5; have q20 := hp14_5; have q21 := t20_2; have q22 := t26_2; have q23 := t33_2; have q24 := t39_2; have q25 := t43_2; omega)⟩ hP hD hS [] rfl (by decide) rfl (Nat.le_of_ble_eq_true rfl) (Nat.le_of_ble_eq_true rfl)
          · have t43_2 := (i_eq c43_1)
            have r43_3 : rg r9_1 0 0 := rg_eqA t43_2 r26_3 (show rg (0 : Int32) 0 0 from rg_l (by decide)) (by decide)
            exact b46  H locs ls  (lv_sub hl [3, 2, 0] rfl) hP hD hS
set_option maxHeartbeats 2000000 in
theorem c_X7_takeTape (l : Launch) (D : va_G) (ct : Nat → ClassId) (p0 : Nat) (t0 : Nat) (p0r : Nat) (x_p0_1 : Int32) (t0r : Nat) (x_t0_1 : Int32) (g_t0r : Nat → Int32) (g_p0r : Nat → Int64) (h_x_p0_1 : rg x_p0_1 0 4000) (h_x_t0_1 : rg x_t0_1 0 2000) (h_g_t0r : Rg g_t0r 2000 (-128) 127) : KI (S := Int32 × (Nat → Int64)) l yX7_takeTape cX7_takeTape 3 (some .int) 3 66 D ct [.ref p0, .ref t0] [(p0, .inr (7, [.ref p0r, .int x_p0_1])), (t0, .inr (9, [.ref t0r, .int x_t0_1])), (t0r, .inl (ct 0, 2000, .inl g_t0r)), (p0r, .inl (ct 2, 4000, .inr (.inl g_p0r)))] 0 0 (fun (r : Int32) (u : Int32 × (Nat → Int64)) => match u with | (y_p0_1, k_p0r) => rg r (-1) 250 ∧ rg y_p0_1 0 4000) (fun (u : Int32 × (Nat → Int64)) => match u with | (y_p0_1, k_p0r) => [(p0, .inr (7, [.ref p0r, .int y_p0_1])), (t0, .inr (9, [.ref t0r, .int x_t0_1])), (t0r, .inl (ct 0, 2000, .inl g_t0r)), (p0r, .inl (ct 2, 4000, .inr (.inl k_p0r)))]) := by
  refine KIq_of (by decide) (Nat.le_of_ble_eq_true rfl) (fun p e s m below meth c A Q C0 hA H locs hS hP hD hQ ls hl => ?_)
  obtain ⟨hx, hb, hr, hown, hin, hml, hlocks, hn, hK, hZ, hSK⟩ := C0
  have hl : lv_has ls 3 [(0, .ref p0), (1, .ref t0)] := hl
  refine lv_aload_n hx hb dX7_takeTape_0 rfl (lv_at hl 1 rfl) ?_
  refine va_getN (D := D) (ci := 9) (v := .int x_t0_1) (C := RX9) (T := TX9) (N := 2) hx hb (htX9 hn) (fun _ h => h) hown hK hP 1 rfl rfl 1 (by decide) (hn.get mw_44 rfl) (fun _ h9 => h9) rfl dX7_takeTape_1 ?_
  refine lv_if_eq (tgt := 17) hx hb dX7_takeTape_4 (by decide) (fun c4_1 => ?_) (fun c4_1 => ?_)
  · have t4_2 := (i_eq c4_1)
    have r4_3 : rg x_t0_1 0 0 := rg_eqA t4_2 h_x_t0_1 (show rg (0 : Int32) 0 0 from rg_l (by decide)) (by decide)
    refine lv_iconst (v := (-1)) hx hb dX7_takeTape_17 (by decide) ?_
    exact endq_i hQ hx hb hr hlocks dX7_takeTape_18 rfl (x_p0_1, g_p0r) ⟨(rg_w (show rg ((-1) : Int32) (-1) (-1) from rg_l (by decide)) (by decide)), h_x_p0_1⟩ hP hD hS [0, 1, 2, 3] rfl (by decide) rfl (Nat.le_of_ble_eq_true rfl) (Nat.le_of_ble_eq_true rfl)
  · have t4_2 := (i_ne c4_1)
    have r4_3 : rg x_t0_1 1 2000 := rg_neAl t4_2 h_x_t0_1 (show rg (0 : Int32) 0 0 from rg_l (by decide)) (by decide)
    refine lv_aload_n hx hb dX7_takeTape_7 rfl (lv_at hl 1 rfl) ?_
    refine va_getN (D := D) (ci := 9) (v := .int x_t0_1) (C := RX9) (T := TX9) (N := 2) hx hb (htX9 hn) (fun _ h => h) hown hK hP 1 rfl rfl 1 (by decide) (hn.get mw_44 rfl) (fun _ h9 => h9) rfl dX7_takeTape_8 ?_
    refine lv_bipush (v := 8) hx hb dX7_takeTape_11 (by decide) ?_
    refine lv_irem hx hb dX7_takeTape_13 (by decide) ?_
    refine lv_topi (fun z13_1 ez13_1 => ?_)
    have r13_2 : rg z13_1 0 7 := rg_rem (k := 8) ez13_1 (by decide) r4_3 (by decide)
    refine lv_if_eq (tgt := 19) hx hb dX7_takeTape_14 (by decide) (fun c14_1 => ?_) (fun c14_1 => ?_)
    · have t14_2 := (i_eq c14_1)
      have r14_3 : rg z13_1 0 0 := rg_eqA t14_2 r13_2 (show rg (0 : Int32) 0 0 from rg_l (by decide)) (by decide)
      refine lv_aload_n hx hb dX7_takeTape_19 rfl (lv_at hl 0 rfl) ?_
      refine lv_aload_n hx hb dX7_takeTape_20 rfl (lv_at hl 1 rfl) ?_
      refine va_getN (D := D) (ci := 9) (v := .int x_t0_1) (C := RX9) (T := TX9) (N := 2) hx hb (htX9 hn) (fun _ h => h) hown hK hP 1 rfl rfl 1 (by decide) (hn.get mw_44 rfl) (fun _ h9 => h9) rfl dX7_takeTape_21 ?_
      refine lv_bipush (v := 8) hx hb dX7_takeTape_24 (by decide) ?_
      refine lv_idiv hx hb dX7_takeTape_26 (by decide) ?_
      refine lv_topi (fun z26_1 ez26_1 => ?_)
      have r26_2 : rg z26_1 0 250 := rg_div (k := 8) ez26_1 (by decide) r4_3 (by decide)
      refine va_put (D := D) (ci := 7) (v := .int z26_1) (ty := .int) (C := RX7) (T := TX7) (N := 2) hx hb (htX7 hn) (fun _ h => h) tyX7 tyX7_ok nmX7 hown hK hP hD hS 0 rfl rfl 1 (by decide) (hn.get mw_226 rfl) (fun _ h9 => h9) rfl (by decide +kernel) rfl rfl (Nat.le_of_ble_eq_true rfl) dX7_takeTape_27 (fun H locs hP hD hS => ?_)
      have hP : va_P D vwCl [(p0, .inr (7, [.ref p0r, .int z26_1])), (t0, .inr (9, [.ref t0r, .int x_t0_1])), (t0r, .inl (ct 0, 2000, .inl g_t0r)), (p0r, .inl (ct 2, 4000, .inr (.inl g_p0r)))] _ := hP
      have hD : va_D A [(p0, .inr (7, [.ref p0r, .int z26_1])), (t0, .inr (9, [.ref t0r, .int x_t0_1])), (t0r, .inl (ct 0, 2000, .inl g_t0r)), (p0r, .inl (ct 2, 4000, .inr (.inl g_p0r)))] := hD
      refine lv_iconst (v := 0) hx hb dX7_takeTape_30 (by decide) ?_
      refine lv_istore_n (lv' := [(2, .int 0), (0, .ref p0), (1, .ref t0)]) hx hb dX7_takeTape_31 rfl hl (by decide) rfl (fun ls hl => ?_)
      have b32 : ∀ (n : Nat) (j32_l2 : Int32) (j32_cp0r : Nat → Int64) (H : Heap) (locs : List Loc) (ls : Array Slot), (rg j32_l2 0 2147483647) → ((2147483647 : Int) - j32_l2.toInt).toNat < n → lv_has ls 3 [(0, .ref p0), (1, .ref t0), (2, .int j32_l2)] → va_P D vwCl [(p0, .inr (7, [.ref p0r, .int z26_1])), (t0, .inr (9, [.ref t0r, .int x_t0_1])), (t0r, .inl (ct 0, 2000, .inl g_t0r)), (p0r, .inl (ct 2, 4000, .inr (.inl j32_cp0r)))] H → va_D A [(p0, .inr (7, [.ref p0r, .int z26_1])), (t0, .inr (9, [.ref t0r, .int x_t0_1])), (t0r, .inl (ct 0, 2000, .inl g_t0r)), (p0r, .inl (ct 2, 4000, .inr (.inl j32_cp0r)))] → va_S A s.heap H locs → W p l e ({ frames := 3, cells := 0, slots := 0, locals := 66 }) s m [.ref p0, .ref t0].toArray below meth c H locs 0 0 Q (F0 m 32 ls []) := by
        intro n
        induction n with
        | zero => intros; rename_i hms _ _ _ _; exact absurd hms (Nat.not_lt_zero _)
        | succ n ih =>
          intro j32_l2 j32_cp0r H locs ls r32_1001 hms hl hP hD hS
          refine lv_iload_n hx hb dX7_takeTape_32 rfl (lv_at hl 2 rfl) ?_
          refine lv_aload_n hx hb dX7_takeTape_33 rfl (lv_at hl 0 rfl) ?_
          refine va_get (D := D) (ci := 7) (v := .int z26_1) (C := RX7) (T := TX7) (N := 2) hx hb (htX7 hn) (fun _ h => h) hown hK hP 0 rfl rfl 1 (by decide) (hn.get mw_226 rfl) (fun _ h9 => h9) rfl dX7_takeTape_34 ?_
          refine lv_icmp_ge (tgt := 62) hx hb dX7_takeTape_37 (by decide) (fun c37_1 => ?_) (fun c37_1 => ?_)
          · have t37_2 := (i_le c37_1)
            refine lv_aload_n hx hb dX7_takeTape_62 rfl (lv_at hl 0 rfl) ?_
            refine va_get (D := D) (ci := 7) (v := .int z26_1) (C := RX7) (T := TX7) (N := 2) hx hb (htX7 hn) (fun _ h => h) hown hK hP 0 rfl rfl 1 (by decide) (hn.get mw_226 rfl) (fun _ h9 => h9) rfl dX7_takeTape_63 ?_
            exact endq_i hQ hx hb hr hlocks dX7_takeTape_66 rfl (z26_1, j32_cp0r) ⟨(rg_w r26_2 (by decide)), (rg_w r26_2 (by decide))⟩ hP hD hS [0, 1, 2, 3] rfl (by decide) rfl (Nat.le_of_ble_eq_true rfl) (Nat.le_of_ble_eq_true rfl)
          · have t37_2 := (i_nle c37_1)
            have r37_3 : rg j32_l2 0 249 := rg_ltA t37_2 r32_1001 r26_2 (by decide)
            have r37_4 : rg z26_1 1 250 := rg_ltB t37_2 r32_1001 r26_2 (by decide)
            refine lv_aload_n hx hb dX7_takeTape_40 rfl (lv_at hl 0 rfl) ?_
            refine va_get (D := D) (ci := 7) (v := .ref p0r) (C := RX7) (T := TX7) (N := 2) hx hb (htX7 hn) (fun _ h => h) hown hK hP 0 rfl rfl 0 (by decide) (hn.get mw_223 rfl) (fun _ h9 => h9) rfl dX7_takeTape_41 ?_
            refine lv_iload_n hx hb dX7_takeTape_44 rfl (lv_at hl 2 rfl) ?_
            refine lv_aload_n hx hb dX7_takeTape_45 rfl (lv_at hl 1 rfl) ?_
            refine lv_bipush (v := 8) hx hb dX7_takeTape_46 (by decide) ?_
            refine lv_iload_n hx hb dX7_takeTape_48 rfl (lv_at hl 2 rfl) ?_
            refine lv_imul hx hb dX7_takeTape_49 ?_
            refine lv_topi (fun z49_1 ez49_1 => ?_)
            have r49_2 : rg z49_1 0 1992 := rg_mul ez49_1 (show rg (8 : Int32) 8 8 from rg_l (by decide)) r37_3 (by decide)
            refine lv_bipush (v := 8) hx hb dX7_takeTape_50 (by decide) ?_
            refine go_l (k1 := 0) (n1 := 0) (wr := [(p0, .inr (7, [.ref p0r, .int z26_1])), (p0r, .inl (ct 2, 4000, .inr (.inl j32_cp0r)))]) [1, 2] [0, 3] (rn_VN (As := [.int z49_1, .int 8]) (rest := [.int j32_l2, .ref p0r]) (c_X9_lowestFirst l D ct t0 z49_1 (8 : Int32) t0r x_t0_1 g_t0r (rg_w r49_2 (by decide)) (rg_w (show rg (8 : Int32) 8 8 from rg_l (by decide)) (by decide)) (rg_w r4_3 (by decide)) h_g_t0r _) (cn_of (n := 2) hn mw_928 mw_2 mw_925 mhX9_lowestFirst ⟨(Nat.le_of_ble_eq_true rfl), (Nat.le_of_ble_eq_true rfl)⟩) hx hb hml hown hn hK hSK hZ hS mw_927 mw_s91 (ci := 9) (q0 := 0) rfl rfl rfl rfl hl.1 (Nat.le_of_ble_eq_true rfl) dX7_takeTape_52 ⟨(Nat.le_of_ble_eq_true rfl), (Nat.le_of_ble_eq_true rfl)⟩) hP hD hS hA rfl rfl (by decide) (by decide) (by decide) (Nat.le_of_ble_eq_true rfl) (Nat.le_of_ble_eq_true rfl) (fun r52_1 u52_2 H locs hp52_3 hP hD hS => ?_)
            have hP : va_P D vwCl [(p0, .inr (7, [.ref p0r, .int z26_1])), (p0r, .inl (ct 2, 4000, .inr (.inl j32_cp0r))), (t0, .inr (9, [.ref t0r, .int x_t0_1])), (t0r, .inl (ct 0, 2000, .inl g_t0r))] _ := hP
            have hD : va_D A [(p0, .inr (7, [.ref p0r, .int z26_1])), (p0r, .inl (ct 2, 4000, .inr (.inl j32_cp0r))), (t0, .inr (9, [.ref t0r, .int x_t0_1])), (t0r, .inl (ct 0, 2000, .inl g_t0r))] := hD
            have hi55_1 : vp_in j32_l2 4000 := (in_rg r37_3 (by decide))
            refine va_last hx hb hK hP hD hS 1 2 rfl rfl hi55_1 dX7_takeTape_55 (fun H locs hP hD hS => ?_)
            have hP : va_P D vwCl [(p0, .inr (7, [.ref p0r, .int z26_1])), (p0r, .inl (ct 2, 4000, .inr (.inl (vp_updL j32_cp0r j32_l2.toNatClampNeg r52_1)))), (t0, .inr (9, [.ref t0r, .int x_t0_1])), (t0r, .inl (ct 0, 2000, .inl g_t0r))] _ := hP
            have hD : va_D A [(p0, .inr (7, [.ref p0r, .int z26_1])), (p0r, .inl (ct 2, 4000, .inr (.inl (vp_updL j32_cp0r j32_l2.toNatClampNeg r52_1)))), (t0, .inr (9, [.ref t0r, .int x_t0_1])), (t0r, .inl (ct 0, 2000, .inl g_t0r))] := hD
            obtain ⟨f55_2, ef55_2⟩ : ∃ z, z = (vp_updL j32_cp0r j32_l2.toNatClampNeg r52_1) := ⟨_, rfl⟩
            rw [← ef55_2] at hP hD
            obtain ⟨x56_1, ex56_1⟩ : ∃ z : Int32, z = j32_l2 + 1 := ⟨_, rfl⟩
            have r56_2 : rg x56_1 1 250 := rg_add ex56_1 r37_3 (show rg (1 : Int32) 1 1 from rg_l (by decide)) (by decide)
            refine lv_iinc (v := x56_1) (lv' := [(2, .int x56_1), (0, .ref p0), (1, .ref t0)]) hx hb dX7_takeTape_56 hl (k := 2) rfl (by rw [ex56_1]; rfl) (by decide) rfl (fun ls hl => ?_)
            refine lv_goto (tgt := 32) hx hb dX7_takeTape_59 (by decide) ?_
            have hP := hP.sub (ws' := [(p0, .inr (7, [.ref p0r, .int z26_1])), (t0, .inr (9, [.ref t0r, .int x_t0_1])), (t0r, .inl (ct 0, 2000, .inl g_t0r)), (p0r, .inl (ct 2, 4000, .inr (.inl f55_2)))]) [0, 2, 3, 1] rfl
            have hD := hD.sub (ws' := [(p0, .inr (7, [.ref p0r, .int z26_1])), (t0, .inr (9, [.ref t0r, .int x_t0_1])), (t0r, .inl (ct 0, 2000, .inl g_t0r)), (p0r, .inl (ct 2, 4000, .inr (.inl f55_2)))]) [0, 2, 3, 1] (by decide) rfl
            exact ih x56_1 f55_2 H locs ls (rg_w r56_2 (by decide)) (show ((2147483647 : Int) - x56_1.toInt).toNat < n by have q0 := r37_3.1; have q1 := r37_3.2; have q2 := r56_2.1; have q3 := r56_2.2; have q4 := (eq_add ex56_1 r37_3 (show rg (1 : Int32) 1 1 from rg_l (by decide)) (by decide)); have q5 := (show rg (1 : Int32) 1 1 from rg_l (by decide)).1; have q6 := (show rg (1 : Int32) 1 1 from rg_l (by decide)).2; have q7 := r37_4.1; have q8 := r37_4.2; have q9 := (eq_div (c := 8) (k := 8) ez26_1 (by decide) r4_3 (by decide)); have q10 := r4_3.1; have q11 := r4_3.2; have q12 := (show rg (0 : Int32) 0 0 from rg_l (by decide)).1; have q13 := (show rg (0 : Int32) 0 0 from rg_l (by decide)).2; have q14 := r14_3.1; have q15 := r14_3.2; have q16 := (eq_rem (c := 8) (k := 8) ez13_1 (by decide) r4_3 (by decide)); have q17 := t4_2; have q18 := t14_2; have q19 := t37_2; have q20 := hms; omega) (lv_sub hl [1, 2, 0] rfl) hP hD hS
      exact b32 _ (0 : Int32) g_p0r H locs ls (rg_w (show rg (0 : Int32) 0 0 from rg_l (by decide)) (by decide)) (Nat.lt_succ_self _) (lv_sub hl [1, 2, 0] rfl) hP hD hS
    · have t14_2 := (i_ne c14_1)
      have r14_3 : rg z13_1 1 7 := rg_neAl t14_2 r13_2 (show rg (0 : Int32) 0 0 from rg_l (by decide)) (by decide)
      refine lv_iconst (v := (-1)) hx hb dX7_takeTape_17 (by decide) ?_
      exact endq_i hQ hx hb hr hlocks dX7_takeTape_18 rfl (x_p0_1, g_p0r) ⟨(rg_w (show rg ((-1) : Int32) (-1) (-1) from rg_l (by decide)) (by decide)), h_x_p0_1⟩ hP hD hS [0, 1, 2, 3] rfl (by decide) rfl (Nat.le_of_ble_eq_true rfl) (Nat.le_of_ble_eq_true rfl)
set_option maxHeartbeats 2000000 in
theorem c_X7_at (l : Launch) (D : va_G) (ct : Nat → ClassId) (p0 : Nat) (v0 : Int32) (p0r : Nat) (x_p0_1 : Int32) (g_p0r : Nat → Int64) (h_x_p0_1 : rg x_p0_1 0 4000) : KL (S := Unit) l yX7_at cX7_at 2 (some .long) 1 20 D ct [.ref p0, .int v0] [(p0, .inr (7, [.ref p0r, .int x_p0_1])), (p0r, .inl (ct 2, 4000, .inr (.inl g_p0r)))] 0 0 (fun (r : Int64) (_ : Unit) => (0 ≤ v0.toInt ∧ v0.toInt < x_p0_1.toInt → r.toInt = (g_p0r v0.toNatClampNeg).toInt)) (fun (_ : Unit) => [(p0, .inr (7, [.ref p0r, .int x_p0_1])), (p0r, .inl (ct 2, 4000, .inr (.inl g_p0r)))]) := by
  refine KLq_of (by decide) (Nat.le_of_ble_eq_true rfl) (fun p e s m below meth c A Q C0 hA H locs hS hP hD hQ ls hl => ?_)
  obtain ⟨hx, hb, hr, hown, hin, hml, hlocks, hn, hK, hZ, hSK⟩ := C0
  have hl : lv_has ls 2 [(0, .ref p0), (1, .int v0)] := hl
  refine lv_iload_n hx hb dX7_at_0 rfl (lv_at hl 1 rfl) ?_
  refine lv_if_lt (tgt := 12) hx hb dX7_at_1 (by decide) (fun c1_1 => ?_) (fun c1_1 => ?_)
  · have t1_2 := (i_lt c1_1)
    have r1_3 : rg v0 (-2147483648) (-1) := rg_ltA t1_2 (rg_any v0) (show rg (0 : Int32) 0 0 from rg_l (by decide)) (by decide)
    refine lv_lconst (v := 0) hx hb dX7_at_12 (by decide) ?_
    refine lv_goto (tgt := 22) hx hb dX7_at_13 (by decide) ?_
    exact endq_l hQ hx hb hr hlocks dX7_at_22 () (show 0 ≤ v0.toInt ∧ v0.toInt < x_p0_1.toInt → (0 : Int64).toInt = (g_p0r v0.toNatClampNeg).toInt by have q0 := (rl_any (g_p0r v0.toNatClampNeg)).1; have q1 := (rl_any (g_p0r v0.toNatClampNeg)).2; have q2 := (show rg (0 : Int32) 0 0 from rg_l (by decide)).1; have q3 := (show rg (0 : Int32) 0 0 from rg_l (by decide)).2; have q4 := h_x_p0_1.1; have q5 := h_x_p0_1.2; have q6 := r1_3.1; have q7 := r1_3.2; have q8 := t1_2; omega) hP hD hS [0, 1] rfl (by decide) rfl (Nat.le_of_ble_eq_true rfl) (Nat.le_of_ble_eq_true rfl)
  · have t1_2 := (i_nlt c1_1)
    have r1_3 : rg v0 0 2147483647 := rg_leB t1_2 (show rg (0 : Int32) 0 0 from rg_l (by decide)) (rg_any v0) (by decide)
    refine lv_iload_n hx hb dX7_at_4 rfl (lv_at hl 1 rfl) ?_
    refine lv_aload_n hx hb dX7_at_5 rfl (lv_at hl 0 rfl) ?_
    refine va_get (D := D) (ci := 7) (v := .int x_p0_1) (C := RX7) (T := TX7) (N := 2) hx hb (htX7 hn) (fun _ h => h) hown hK hP 0 rfl rfl 1 (by decide) (hn.get mw_226 rfl) (fun _ h9 => h9) rfl dX7_at_6 ?_
    refine lv_icmp_lt (tgt := 16) hx hb dX7_at_9 (by decide) (fun c9_1 => ?_) (fun c9_1 => ?_)
    · have t9_2 := (i_lt c9_1)
      have r9_3 : rg v0 0 3999 := rg_ltA t9_2 r1_3 h_x_p0_1 (by decide)
      have r9_4 : rg x_p0_1 1 4000 := rg_ltB t9_2 r1_3 h_x_p0_1 (by decide)
      refine lv_aload_n hx hb dX7_at_16 rfl (lv_at hl 0 rfl) ?_
      refine va_get (D := D) (ci := 7) (v := .ref p0r) (C := RX7) (T := TX7) (N := 2) hx hb (htX7 hn) (fun _ h => h) hown hK hP 0 rfl rfl 0 (by decide) (hn.get mw_223 rfl) (fun _ h9 => h9) rfl dX7_at_17 ?_
      refine lv_iload_n hx hb dX7_at_20 rfl (lv_at hl 1 rfl) ?_
      have hi21_1 : vp_in v0 4000 := (in_rg r9_3 (by decide))
      refine va_lald hx hb hK hP 1 2 rfl rfl hi21_1 dX7_at_21 ?_
      refine lv_topl (fun z21_2 ez21_2 => ?_)
      exact endq_l hQ hx hb hr hlocks dX7_at_22 () (show 0 ≤ v0.toInt ∧ v0.toInt < x_p0_1.toInt → z21_2.toInt = (g_p0r v0.toNatClampNeg).toInt by have q0 := (rl_any (g_p0r v0.toNatClampNeg)).1; have q1 := (rl_any (g_p0r v0.toNatClampNeg)).2; have q2 := (rl_any z21_2).1; have q3 := (rl_any z21_2).2; have q4 := (congrArg Int64.toInt ez21_2); have q5 := r9_4.1; have q6 := r9_4.2; have q7 := r9_3.1; have q8 := r9_3.2; have q9 := (show rg (0 : Int32) 0 0 from rg_l (by decide)).1; have q10 := (show rg (0 : Int32) 0 0 from rg_l (by decide)).2; have q11 := t1_2; have q12 := t9_2; omega) hP hD hS [0, 1] rfl (by decide) rfl (Nat.le_of_ble_eq_true rfl) (Nat.le_of_ble_eq_true rfl)
    · have t9_2 := (i_nlt c9_1)
      refine lv_lconst (v := 0) hx hb dX7_at_12 (by decide) ?_
      refine lv_goto (tgt := 22) hx hb dX7_at_13 (by decide) ?_
      exact endq_l hQ hx hb hr hlocks dX7_at_22 () (show 0 ≤ v0.toInt ∧ v0.toInt < x_p0_1.toInt → (0 : Int64).toInt = (g_p0r v0.toNatClampNeg).toInt by have q0 := (rl_any (g_p0r v0.toNatClampNeg)).1; have q1 := (rl_any (g_p0r v0.toNatClampNeg)).2; have q2 := (show rg (0 : Int32) 0 0 from rg_l (by decide)).1; have q3 := (show rg (0 : Int32) 0 0 from rg_l (by decide)).2; have q4 := h_x_p0_1.1; have q5 := h_x_p0_1.2; have q6 := r1_3.1; have q7 := r1_3.2; have q8 := t1_2; have q9 := t9_2; omega) hP hD hS [0, 1] rfl (by decide) rfl (Nat.le_of_ble_eq_true rfl) (Nat.le_of_ble_eq_true rfl)
set_option maxHeartbeats 2000000 in
theorem c_X7_sideOf (l : Launch) (D : va_G) (ct : Nat → ClassId) (v0 : Int64) (m0 : Nat) (m0r : Nat) (m0s : Nat) (k0 : Nat) (x_m0_3 : Int32) (x_m0_4 : Int32) (x_m0_5 : Int32) (x_m0_6 : Int32) (x_m0_7 : Int32) (x_m0_8 : Int64) (x_m0_9 : Int32) (g_m0r : Nat → Int64) (h_x_m0_9 : rg x_m0_9 0 1) : KL (S := Unit) l yX7_sideOf cX7_sideOf 5 (some .long) 2 41 D ct [.long v0, .ref m0] [(m0, .inr (4, [.ref m0r, .ref m0s, .ref k0, .int x_m0_3, .int x_m0_4, .int x_m0_5, .int x_m0_6, .int x_m0_7, .long x_m0_8, .int x_m0_9])), (m0r, .inl (ct 2, 32, .inr (.inl g_m0r)))] 0 0 (fun (r : Int64) (_ : Unit) => True) (fun (_ : Unit) => [(m0, .inr (4, [.ref m0r, .ref m0s, .ref k0, .int x_m0_3, .int x_m0_4, .int x_m0_5, .int x_m0_6, .int x_m0_7, .long x_m0_8, .int x_m0_9])), (m0r, .inl (ct 2, 32, .inr (.inl g_m0r)))]) := by
  refine KLq_of (by decide) (Nat.le_of_ble_eq_true rfl) (fun p e s m below meth c A Q C0 hA H locs hS hP hD hQ ls hl => ?_)
  obtain ⟨hx, hb, hr, hown, hin, hml, hlocks, hn, hK, hZ, hSK⟩ := C0
  have hl : lv_has ls 5 [(0, .long v0), (2, .ref m0)] := hl
  refine lv_lload_n hx hb dX7_sideOf_0 rfl (lv_at hl 0 rfl) ?_
  refine go_i (k1 := 0) (n1 := 0) (wr := [(m0, .inr (4, [.ref m0r, .ref m0s, .ref k0, .int x_m0_3, .int x_m0_4, .int x_m0_5, .int x_m0_6, .int x_m0_7, .long x_m0_8, .int x_m0_9])), (m0r, .inl (ct 2, 32, .inr (.inl g_m0r)))]) [] [0, 1] (rn_S (As := [.long v0]) (rest := []) (c_X7_codeOf l D ct v0  _) (cb_of (n := 1) hn mw_956 mw_7 mw_954 mhX7_codeOf ⟨(Nat.le_of_ble_eq_true rfl), (Nat.le_of_ble_eq_true rfl)⟩) hx hb hml hown hn hK hSK hZ hS mw_955 rfl hl.1 (Nat.le_of_ble_eq_true rfl) dX7_sideOf_1 ⟨(Nat.le_of_ble_eq_true rfl), (Nat.le_of_ble_eq_true rfl)⟩) hP hD hS hA rfl rfl (by decide) (by decide) (by decide) (Nat.le_of_ble_eq_true rfl) (Nat.le_of_ble_eq_true rfl) (fun r1_1 u1_2 H locs hp1_3 hP hD hS => ?_)
  obtain ⟨hp1_4, hp1_5⟩ := hp1_3
  have hp1_4 : rg r1_1 0 255 := hp1_4
  have hp1_5 : r1_1.toInt = v0.toInt % 256 := hp1_5
  have hP : va_P D vwCl [(m0, .inr (4, [.ref m0r, .ref m0s, .ref k0, .int x_m0_3, .int x_m0_4, .int x_m0_5, .int x_m0_6, .int x_m0_7, .long x_m0_8, .int x_m0_9])), (m0r, .inl (ct 2, 32, .inr (.inl g_m0r)))] _ := hP
  have hD : va_D A [(m0, .inr (4, [.ref m0r, .ref m0s, .ref k0, .int x_m0_3, .int x_m0_4, .int x_m0_5, .int x_m0_6, .int x_m0_7, .long x_m0_8, .int x_m0_9])), (m0r, .inl (ct 2, 32, .inr (.inl g_m0r)))] := hD
  refine lv_istore_n (lv' := [(3, .int r1_1), (0, .long v0), (2, .ref m0)]) hx hb dX7_sideOf_4 rfl hl (by decide) rfl (fun ls hl => ?_)
  refine lv_iload_n hx hb dX7_sideOf_5 rfl (lv_at hl 0 rfl) ?_
  refine go_i (k1 := 0) (n1 := 0) (wr := [(m0, .inr (4, [.ref m0r, .ref m0s, .ref k0, .int x_m0_3, .int x_m0_4, .int x_m0_5, .int x_m0_6, .int x_m0_7, .long x_m0_8, .int x_m0_9])), (m0r, .inl (ct 2, 32, .inr (.inl g_m0r)))]) [] [0, 1] (rn_S (As := [.int r1_1]) (rest := []) (c_X7_isStore l D ct r1_1  _) (cb_of (n := 1) hn mw_980 mw_7 mw_978 mhX7_isStore ⟨(Nat.le_of_ble_eq_true rfl), (Nat.le_of_ble_eq_true rfl)⟩) hx hb hml hown hn hK hSK hZ hS mw_979 rfl hl.1 (Nat.le_of_ble_eq_true rfl) dX7_sideOf_6 ⟨(Nat.le_of_ble_eq_true rfl), (Nat.le_of_ble_eq_true rfl)⟩) hP hD hS hA rfl rfl (by decide) (by decide) (by decide) (Nat.le_of_ble_eq_true rfl) (Nat.le_of_ble_eq_true rfl) (fun r6_1 u6_2 H locs hp6_3 hP hD hS => ?_)
  have hp6_4 := hp6_3
  have hp6_4 : rg r6_1 0 1 := hp6_4
  have hP : va_P D vwCl [(m0, .inr (4, [.ref m0r, .ref m0s, .ref k0, .int x_m0_3, .int x_m0_4, .int x_m0_5, .int x_m0_6, .int x_m0_7, .long x_m0_8, .int x_m0_9])), (m0r, .inl (ct 2, 32, .inr (.inl g_m0r)))] _ := hP
  have hD : va_D A [(m0, .inr (4, [.ref m0r, .ref m0s, .ref k0, .int x_m0_3, .int x_m0_4, .int x_m0_5, .int x_m0_6, .int x_m0_7, .long x_m0_8, .int x_m0_9])), (m0r, .inl (ct 2, 32, .inr (.inl g_m0r)))] := hD
  have b30 : ∀ (j30_s0 : Int32) (H : Heap) (locs : List Loc) (ls : Array Slot), (rg j30_s0 0 1) → lv_has ls 5 [(0, .long v0), (2, .ref m0)] → va_P D vwCl [(m0, .inr (4, [.ref m0r, .ref m0s, .ref k0, .int x_m0_3, .int x_m0_4, .int x_m0_5, .int x_m0_6, .int x_m0_7, .long x_m0_8, .int x_m0_9])), (m0r, .inl (ct 2, 32, .inr (.inl g_m0r)))] H → va_D A [(m0, .inr (4, [.ref m0r, .ref m0s, .ref k0, .int x_m0_3, .int x_m0_4, .int x_m0_5, .int x_m0_6, .int x_m0_7, .long x_m0_8, .int x_m0_9])), (m0r, .inl (ct 2, 32, .inr (.inl g_m0r)))] → va_S A s.heap H locs → W p l e ({ frames := 2, cells := 0, slots := 0, locals := 41 }) s m [.long v0, .ref m0].toArray below meth c H locs 0 0 Q (F0 m 30 ls [.int j30_s0]) := by
    intro j30_s0 H locs ls r30_1001 hl hP hD hS
    refine lv_istore (lv' := [(4, .int j30_s0), (0, .long v0), (2, .ref m0)]) hx hb dX7_sideOf_30 hl (by decide) rfl (fun ls hl => ?_)
    refine lv_iload hx hb dX7_sideOf_32 (lv_at hl 0 rfl) ?_
    refine lv_if_eq (tgt := 48) hx hb dX7_sideOf_34 (by decide) (fun c34_1 => ?_) (fun c34_1 => ?_)
    · have t34_2 := (i_eq c34_1)
      have r34_3 : rg j30_s0 0 0 := rg_eqA t34_2 r30_1001 (show rg (0 : Int32) 0 0 from rg_l (by decide)) (by decide)
      refine lv_lload_n hx hb dX7_sideOf_48 rfl (lv_at hl 1 rfl) ?_
      refine go_i (k1 := 0) (n1 := 0) (wr := [(m0, .inr (4, [.ref m0r, .ref m0s, .ref k0, .int x_m0_3, .int x_m0_4, .int x_m0_5, .int x_m0_6, .int x_m0_7, .long x_m0_8, .int x_m0_9])), (m0r, .inl (ct 2, 32, .inr (.inl g_m0r)))]) [] [0, 1] (rn_S (As := [.long v0]) (rest := []) (c_X7_kOf l D ct v0  _) (cb_of (n := 1) hn mw_995 mw_7 mw_993 mhX7_kOf ⟨(Nat.le_of_ble_eq_true rfl), (Nat.le_of_ble_eq_true rfl)⟩) hx hb hml hown hn hK hSK hZ hS mw_994 rfl hl.1 (Nat.le_of_ble_eq_true rfl) dX7_sideOf_49 ⟨(Nat.le_of_ble_eq_true rfl), (Nat.le_of_ble_eq_true rfl)⟩) hP hD hS hA rfl rfl (by decide) (by decide) (by decide) (Nat.le_of_ble_eq_true rfl) (Nat.le_of_ble_eq_true rfl) (fun r49_1 u49_2 H locs hp49_3 hP hD hS => ?_)
      have hP : va_P D vwCl [(m0, .inr (4, [.ref m0r, .ref m0s, .ref k0, .int x_m0_3, .int x_m0_4, .int x_m0_5, .int x_m0_6, .int x_m0_7, .long x_m0_8, .int x_m0_9])), (m0r, .inl (ct 2, 32, .inr (.inl g_m0r)))] _ := hP
      have hD : va_D A [(m0, .inr (4, [.ref m0r, .ref m0s, .ref k0, .int x_m0_3, .int x_m0_4, .int x_m0_5, .int x_m0_6, .int x_m0_7, .long x_m0_8, .int x_m0_9])), (m0r, .inl (ct 2, 32, .inr (.inl g_m0r)))] := hD
      refine lv_i2l hx hb dX7_sideOf_52 rfl ?_
      refine lv_topl (fun z52_1 ez52_1 => ?_)
      have r52_2 : rl z52_1 (-2147483648) 2147483647 := rl_i2l ez52_1 (rg_any r49_1)
      exact endq_l hQ hx hb hr hlocks dX7_sideOf_53 () trivial hP hD hS [0, 1] rfl (by decide) rfl (Nat.le_of_ble_eq_true rfl) (Nat.le_of_ble_eq_true rfl)
    · have t34_2 := (i_ne c34_1)
      have r34_3 : rg j30_s0 1 1 := rg_neAl t34_2 r30_1001 (show rg (0 : Int32) 0 0 from rg_l (by decide)) (by decide)
      refine lv_aload_n hx hb dX7_sideOf_37 rfl (lv_at hl 2 rfl) ?_
      refine lv_lload_n hx hb dX7_sideOf_38 rfl (lv_at hl 1 rfl) ?_
      refine go_i (k1 := 0) (n1 := 0) (wr := [(m0, .inr (4, [.ref m0r, .ref m0s, .ref k0, .int x_m0_3, .int x_m0_4, .int x_m0_5, .int x_m0_6, .int x_m0_7, .long x_m0_8, .int x_m0_9])), (m0r, .inl (ct 2, 32, .inr (.inl g_m0r)))]) [] [0, 1] (rn_S (As := [.long v0]) (rest := [.ref m0]) (c_X7_sOf l D ct v0  _) (cb_of (n := 1) hn mw_989 mw_7 mw_987 mhX7_sOf ⟨(Nat.le_of_ble_eq_true rfl), (Nat.le_of_ble_eq_true rfl)⟩) hx hb hml hown hn hK hSK hZ hS mw_988 rfl hl.1 (Nat.le_of_ble_eq_true rfl) dX7_sideOf_39 ⟨(Nat.le_of_ble_eq_true rfl), (Nat.le_of_ble_eq_true rfl)⟩) hP hD hS hA rfl rfl (by decide) (by decide) (by decide) (Nat.le_of_ble_eq_true rfl) (Nat.le_of_ble_eq_true rfl) (fun r39_1 u39_2 H locs hp39_3 hP hD hS => ?_)
      obtain ⟨hp39_4, hp39_5⟩ := hp39_3
      have hp39_4 : rg r39_1 0 15 := hp39_4
      have hp39_5 : r39_1.toInt = (v0.toInt / 4096) % 16 := hp39_5
      have hP : va_P D vwCl [(m0, .inr (4, [.ref m0r, .ref m0s, .ref k0, .int x_m0_3, .int x_m0_4, .int x_m0_5, .int x_m0_6, .int x_m0_7, .long x_m0_8, .int x_m0_9])), (m0r, .inl (ct 2, 32, .inr (.inl g_m0r)))] _ := hP
      have hD : va_D A [(m0, .inr (4, [.ref m0r, .ref m0s, .ref k0, .int x_m0_3, .int x_m0_4, .int x_m0_5, .int x_m0_6, .int x_m0_7, .long x_m0_8, .int x_m0_9])), (m0r, .inl (ct 2, 32, .inr (.inl g_m0r)))] := hD
      refine go_l (k1 := 0) (n1 := 0) (wr := []) [0, 1] [] (rn_VN (As := [.int r39_1]) (rest := []) (c_X4_get l D ct m0 r39_1 m0r m0s k0 x_m0_3 x_m0_4 x_m0_5 x_m0_6 x_m0_7 x_m0_8 x_m0_9 g_m0r h_x_m0_9 _) (cn_of (n := 1) hn mw_1225 mw_4 mw_1222 mhX4_get ⟨(Nat.le_of_ble_eq_true rfl), (Nat.le_of_ble_eq_true rfl)⟩) hx hb hml hown hn hK hSK hZ hS mw_1224 mw_s135 (ci := 4) (q0 := 0) rfl rfl rfl rfl hl.1 (Nat.le_of_ble_eq_true rfl) dX7_sideOf_42 ⟨(Nat.le_of_ble_eq_true rfl), (Nat.le_of_ble_eq_true rfl)⟩) hP hD hS hA rfl rfl (by decide) (by decide) (by decide) (Nat.le_of_ble_eq_true rfl) (Nat.le_of_ble_eq_true rfl) (fun r42_1 u42_2 H locs hp42_3 hP hD hS => ?_)
      have hP : va_P D vwCl [(m0, .inr (4, [.ref m0r, .ref m0s, .ref k0, .int x_m0_3, .int x_m0_4, .int x_m0_5, .int x_m0_6, .int x_m0_7, .long x_m0_8, .int x_m0_9])), (m0r, .inl (ct 2, 32, .inr (.inl g_m0r)))] _ := hP
      have hD : va_D A [(m0, .inr (4, [.ref m0r, .ref m0s, .ref k0, .int x_m0_3, .int x_m0_4, .int x_m0_5, .int x_m0_6, .int x_m0_7, .long x_m0_8, .int x_m0_9])), (m0r, .inl (ct 2, 32, .inr (.inl g_m0r)))] := hD
      refine lv_goto (tgt := 53) hx hb dX7_sideOf_45 (by decide) ?_
      exact endq_l hQ hx hb hr hlocks dX7_sideOf_53 () trivial hP hD hS [0, 1] rfl (by decide) rfl (Nat.le_of_ble_eq_true rfl) (Nat.le_of_ble_eq_true rfl)
  refine lv_if_eq (tgt := 26) hx hb dX7_sideOf_9 (by decide) (fun c9_1 => ?_) (fun c9_1 => ?_)
  · have t9_2 := (i_eq c9_1)
    have r9_3 : rg r6_1 0 0 := rg_eqA t9_2 hp6_4 (show rg (0 : Int32) 0 0 from rg_l (by decide)) (by decide)
    refine lv_iload_n hx hb dX7_sideOf_26 rfl (lv_at hl 0 rfl) ?_
    refine go_i (k1 := 0) (n1 := 0) (wr := [(m0, .inr (4, [.ref m0r, .ref m0s, .ref k0, .int x_m0_3, .int x_m0_4, .int x_m0_5, .int x_m0_6, .int x_m0_7, .long x_m0_8, .int x_m0_9])), (m0r, .inl (ct 2, 32, .inr (.inl g_m0r)))]) [] [0, 1] (rn_S (As := [.int r1_1]) (rest := []) (c_X7_hasS l D ct r1_1  _) (cb_of (n := 1) hn mw_968 mw_7 mw_966 mhX7_hasS ⟨(Nat.le_of_ble_eq_true rfl), (Nat.le_of_ble_eq_true rfl)⟩) hx hb hml hown hn hK hSK hZ hS mw_967 rfl hl.1 (Nat.le_of_ble_eq_true rfl) dX7_sideOf_27 ⟨(Nat.le_of_ble_eq_true rfl), (Nat.le_of_ble_eq_true rfl)⟩) hP hD hS hA rfl rfl (by decide) (by decide) (by decide) (Nat.le_of_ble_eq_true rfl) (Nat.le_of_ble_eq_true rfl) (fun r27_1 u27_2 H locs hp27_3 hP hD hS => ?_)
    have hp27_4 := hp27_3
    have hp27_4 : rg r27_1 0 1 := hp27_4
    have hP : va_P D vwCl [(m0, .inr (4, [.ref m0r, .ref m0s, .ref k0, .int x_m0_3, .int x_m0_4, .int x_m0_5, .int x_m0_6, .int x_m0_7, .long x_m0_8, .int x_m0_9])), (m0r, .inl (ct 2, 32, .inr (.inl g_m0r)))] _ := hP
    have hD : va_D A [(m0, .inr (4, [.ref m0r, .ref m0s, .ref k0, .int x_m0_3, .int x_m0_4, .int x_m0_5, .int x_m0_6, .int x_m0_7, .long x_m0_8, .int x_m0_9])), (m0r, .inl (ct 2, 32, .inr (.inl g_m0r)))] := hD
    exact b30 r27_1 H locs ls hp27_4 (lv_sub hl [1, 2] rfl) hP hD hS
  · have t9_2 := (i_ne c9_1)
    have r9_3 : rg r6_1 1 1 := rg_neAl t9_2 hp6_4 (show rg (0 : Int32) 0 0 from rg_l (by decide)) (by decide)
    refine lv_iload_n hx hb dX7_sideOf_12 rfl (lv_at hl 0 rfl) ?_
    refine lv_iconst (v := 1) hx hb dX7_sideOf_13 (by decide) ?_
    refine lv_iand hx hb dX7_sideOf_14 ?_
    refine lv_topi (fun z14_1 ez14_1 => ?_)
    have r14_2 : rg z14_1 0 1 := rg_andr ez14_1 (show rg (1 : Int32) 1 1 from rg_l (by decide)) (by decide)
    refine lv_if_eq (tgt := 22) hx hb dX7_sideOf_15 (by decide) (fun c15_1 => ?_) (fun c15_1 => ?_)
    · have t15_2 := (i_eq c15_1)
      have r15_3 : rg z14_1 0 0 := rg_eqA t15_2 r14_2 (show rg (0 : Int32) 0 0 from rg_l (by decide)) (by decide)
      refine lv_iconst (v := 0) hx hb dX7_sideOf_22 (by decide) ?_
      refine lv_goto (tgt := 30) hx hb dX7_sideOf_23 (by decide) ?_
      exact b30 (0 : Int32) H locs ls (rg_w (show rg (0 : Int32) 0 0 from rg_l (by decide)) (by decide)) (lv_sub hl [1, 2] rfl) hP hD hS
    · have t15_2 := (i_ne c15_1)
      have r15_3 : rg z14_1 1 1 := rg_neAl t15_2 r14_2 (show rg (0 : Int32) 0 0 from rg_l (by decide)) (by decide)
      refine lv_iconst (v := 1) hx hb dX7_sideOf_18 (by decide) ?_
      refine lv_goto (tgt := 30) hx hb dX7_sideOf_19 (by decide) ?_
      exact b30 (1 : Int32) H locs ls (rg_w (show rg (1 : Int32) 1 1 from rg_l (by decide)) (by decide)) (lv_sub hl [1, 2] rfl) hP hD hS
set_option maxHeartbeats 2000000 in
theorem c_X7_readPacket (l : Launch) (D : va_G) (ct : Nat → ClassId) (v0 : Int64) (m0 : Nat) (m0r : Nat) (m0s : Nat) (k0 : Nat) (x_m0_3 : Int32) (x_m0_4 : Int32) (x_m0_5 : Int32) (x_m0_6 : Int32) (x_m0_7 : Int32) (x_m0_8 : Int64) (x_m0_9 : Int32) (g_m0r : Nat → Int64) (k0c : Nat) (k0l : Nat) (x_k0_2 : Int32) (g_k0l : Nat → Int32) (g_k0c : Nat → Int32) (h_x_m0_9 : rg x_m0_9 0 1) (h_x_k0_2 : rg x_k0_2 0 16) (h_g_k0l : Rg g_k0l 16 0 256) (h_g_k0c : Rg g_k0c 4096 (-128) 127) : KV (S := Int32 × (Nat → Int64)) l yX7_readPacket cX7_readPacket 8 none 5 114 D ct [.long v0, .ref m0] [(m0, .inr (4, [.ref m0r, .ref m0s, .ref k0, .int x_m0_3, .int x_m0_4, .int x_m0_5, .int x_m0_6, .int x_m0_7, .long x_m0_8, .int x_m0_9])), (m0r, .inl (ct 2, 32, .inr (.inl g_m0r))), (k0, .inr (6, [.ref k0c, .ref k0l, .int x_k0_2])), (k0l, .inl (ct 1, 16, .inl g_k0l)), (k0c, .inl (ct 0, 4096, .inl g_k0c))] 0 0 (fun (u : Int32 × (Nat → Int64)) => match u with | (y_m0_9, k_m0r) => rg y_m0_9 0 1) (fun (u : Int32 × (Nat → Int64)) => match u with | (y_m0_9, k_m0r) => [(m0, .inr (4, [.ref m0r, .ref m0s, .ref k0, .int x_m0_3, .int x_m0_4, .int x_m0_5, .int x_m0_6, .int x_m0_7, .long x_m0_8, .int y_m0_9])), (m0r, .inl (ct 2, 32, .inr (.inl k_m0r))), (k0, .inr (6, [.ref k0c, .ref k0l, .int x_k0_2])), (k0l, .inl (ct 1, 16, .inl g_k0l)), (k0c, .inl (ct 0, 4096, .inl g_k0c))]) := by
  refine KVq_of (by decide) (Nat.le_of_ble_eq_true rfl) (fun p e s m below meth c A Q C0 hA H locs hS hP hD hQ ls hl => ?_)
  obtain ⟨hx, hb, hr, hown, hin, hml, hlocks, hn, hK, hZ, hSK⟩ := C0
  have hl : lv_has ls 8 [(0, .long v0), (2, .ref m0)] := hl
  refine lv_lload_n hx hb dX7_readPacket_0 rfl (lv_at hl 0 rfl) ?_
  refine go_i (k1 := 0) (n1 := 0) (wr := [(m0, .inr (4, [.ref m0r, .ref m0s, .ref k0, .int x_m0_3, .int x_m0_4, .int x_m0_5, .int x_m0_6, .int x_m0_7, .long x_m0_8, .int x_m0_9])), (m0r, .inl (ct 2, 32, .inr (.inl g_m0r))), (k0, .inr (6, [.ref k0c, .ref k0l, .int x_k0_2])), (k0l, .inl (ct 1, 16, .inl g_k0l)), (k0c, .inl (ct 0, 4096, .inl g_k0c))]) [] [0, 1, 2, 3, 4] (rn_S (As := [.long v0]) (rest := []) (c_X7_codeOf l D ct v0  _) (cb_of (n := 1) hn mw_956 mw_7 mw_954 mhX7_codeOf ⟨(Nat.le_of_ble_eq_true rfl), (Nat.le_of_ble_eq_true rfl)⟩) hx hb hml hown hn hK hSK hZ hS mw_955 rfl hl.1 (Nat.le_of_ble_eq_true rfl) dX7_readPacket_1 ⟨(Nat.le_of_ble_eq_true rfl), (Nat.le_of_ble_eq_true rfl)⟩) hP hD hS hA rfl rfl (by decide) (by decide) (by decide) (Nat.le_of_ble_eq_true rfl) (Nat.le_of_ble_eq_true rfl) (fun r1_1 u1_2 H locs hp1_3 hP hD hS => ?_)
  obtain ⟨hp1_4, hp1_5⟩ := hp1_3
  have hp1_4 : rg r1_1 0 255 := hp1_4
  have hp1_5 : r1_1.toInt = v0.toInt % 256 := hp1_5
  have hP : va_P D vwCl [(m0, .inr (4, [.ref m0r, .ref m0s, .ref k0, .int x_m0_3, .int x_m0_4, .int x_m0_5, .int x_m0_6, .int x_m0_7, .long x_m0_8, .int x_m0_9])), (m0r, .inl (ct 2, 32, .inr (.inl g_m0r))), (k0, .inr (6, [.ref k0c, .ref k0l, .int x_k0_2])), (k0l, .inl (ct 1, 16, .inl g_k0l)), (k0c, .inl (ct 0, 4096, .inl g_k0c))] _ := hP
  have hD : va_D A [(m0, .inr (4, [.ref m0r, .ref m0s, .ref k0, .int x_m0_3, .int x_m0_4, .int x_m0_5, .int x_m0_6, .int x_m0_7, .long x_m0_8, .int x_m0_9])), (m0r, .inl (ct 2, 32, .inr (.inl g_m0r))), (k0, .inr (6, [.ref k0c, .ref k0l, .int x_k0_2])), (k0l, .inl (ct 1, 16, .inl g_k0l)), (k0c, .inl (ct 0, 4096, .inl g_k0c))] := hD
  refine lv_istore_n (lv' := [(3, .int r1_1), (0, .long v0), (2, .ref m0)]) hx hb dX7_readPacket_4 rfl hl (by decide) rfl (fun ls hl => ?_)
  refine lv_iload_n hx hb dX7_readPacket_5 rfl (lv_at hl 0 rfl) ?_
  refine lv_bipush (v := 64) hx hb dX7_readPacket_6 (by decide) ?_
  have b23 : ∀ (j23_s0 : Int64) (H : Heap) (locs : List Loc) (ls : Array Slot), lv_has ls 8 [(0, .long v0), (2, .ref m0), (3, .int r1_1)] → va_P D vwCl [(k0, .inr (6, [.ref k0c, .ref k0l, .int x_k0_2])), (k0l, .inl (ct 1, 16, .inl g_k0l)), (k0c, .inl (ct 0, 4096, .inl g_k0c)), (m0, .inr (4, [.ref m0r, .ref m0s, .ref k0, .int x_m0_3, .int x_m0_4, .int x_m0_5, .int x_m0_6, .int x_m0_7, .long x_m0_8, .int x_m0_9])), (m0r, .inl (ct 2, 32, .inr (.inl g_m0r)))] H → va_D A [(k0, .inr (6, [.ref k0c, .ref k0l, .int x_k0_2])), (k0l, .inl (ct 1, 16, .inl g_k0l)), (k0c, .inl (ct 0, 4096, .inl g_k0c)), (m0, .inr (4, [.ref m0r, .ref m0s, .ref k0, .int x_m0_3, .int x_m0_4, .int x_m0_5, .int x_m0_6, .int x_m0_7, .long x_m0_8, .int x_m0_9])), (m0r, .inl (ct 2, 32, .inr (.inl g_m0r)))] → va_S A s.heap H locs → W p l e ({ frames := 5, cells := 0, slots := 0, locals := 114 }) s m [.long v0, .ref m0].toArray below meth c H locs 0 0 Q (F0 m 23 ls [.long j23_s0]) := by
    intro j23_s0 H locs ls  hl hP hD hS
    refine lv_lstore (lv' := [(4, .long j23_s0), (0, .long v0), (2, .ref m0), (3, .int r1_1)]) hx hb dX7_readPacket_23 hl (by decide) rfl (fun ls hl => ?_)
    refine lv_aload_n hx hb dX7_readPacket_25 rfl (lv_at hl 2 rfl) ?_
    refine lv_lload_n hx hb dX7_readPacket_26 rfl (lv_at hl 1 rfl) ?_
    refine go_i (k1 := 0) (n1 := 0) (wr := [(k0, .inr (6, [.ref k0c, .ref k0l, .int x_k0_2])), (k0l, .inl (ct 1, 16, .inl g_k0l)), (k0c, .inl (ct 0, 4096, .inl g_k0c)), (m0, .inr (4, [.ref m0r, .ref m0s, .ref k0, .int x_m0_3, .int x_m0_4, .int x_m0_5, .int x_m0_6, .int x_m0_7, .long x_m0_8, .int x_m0_9])), (m0r, .inl (ct 2, 32, .inr (.inl g_m0r)))]) [] [0, 1, 2, 3, 4] (rn_S (As := [.long v0]) (rest := [.ref m0]) (c_X7_kOf l D ct v0  _) (cb_of (n := 1) hn mw_995 mw_7 mw_993 mhX7_kOf ⟨(Nat.le_of_ble_eq_true rfl), (Nat.le_of_ble_eq_true rfl)⟩) hx hb hml hown hn hK hSK hZ hS mw_994 rfl hl.1 (Nat.le_of_ble_eq_true rfl) dX7_readPacket_27 ⟨(Nat.le_of_ble_eq_true rfl), (Nat.le_of_ble_eq_true rfl)⟩) hP hD hS hA rfl rfl (by decide) (by decide) (by decide) (Nat.le_of_ble_eq_true rfl) (Nat.le_of_ble_eq_true rfl) (fun r27_1 u27_2 H locs hp27_3 hP hD hS => ?_)
    have hP : va_P D vwCl [(k0, .inr (6, [.ref k0c, .ref k0l, .int x_k0_2])), (k0l, .inl (ct 1, 16, .inl g_k0l)), (k0c, .inl (ct 0, 4096, .inl g_k0c)), (m0, .inr (4, [.ref m0r, .ref m0s, .ref k0, .int x_m0_3, .int x_m0_4, .int x_m0_5, .int x_m0_6, .int x_m0_7, .long x_m0_8, .int x_m0_9])), (m0r, .inl (ct 2, 32, .inr (.inl g_m0r)))] _ := hP
    have hD : va_D A [(k0, .inr (6, [.ref k0c, .ref k0l, .int x_k0_2])), (k0l, .inl (ct 1, 16, .inl g_k0l)), (k0c, .inl (ct 0, 4096, .inl g_k0c)), (m0, .inr (4, [.ref m0r, .ref m0s, .ref k0, .int x_m0_3, .int x_m0_4, .int x_m0_5, .int x_m0_6, .int x_m0_7, .long x_m0_8, .int x_m0_9])), (m0r, .inl (ct 2, 32, .inr (.inl g_m0r)))] := hD
    refine lv_i2l hx hb dX7_readPacket_30 rfl ?_
    refine lv_topl (fun z30_1 ez30_1 => ?_)
    have r30_2 : rl z30_1 (-2147483648) 2147483647 := rl_i2l ez30_1 (rg_any r27_1)
    refine lv_lload hx hb dX7_readPacket_31 (lv_at hl 0 rfl) ?_
    refine lv_ladd hx hb dX7_readPacket_33 ?_
    refine lv_topl (fun z33_1 ez33_1 => ?_)
    refine lv_ldc2 (v := 4294967295) hx hb hown (hn.get mw_1236 rfl) dX7_readPacket_34 ?_
    refine lv_land hx hb dX7_readPacket_37 ?_
    refine lv_topl (fun z37_1 ez37_1 => ?_)
    have r37_2 : rl z37_1 0 4294967295 := rgL_andr ez37_1 (show rl (4294967295 : Int64) 4294967295 4294967295 from rl_l (by decide)) (by decide)
    refine lv_iload_n hx hb dX7_readPacket_38 rfl (lv_at hl 3 rfl) ?_
    refine go_i (k1 := 0) (n1 := 0) (wr := [(k0, .inr (6, [.ref k0c, .ref k0l, .int x_k0_2])), (k0l, .inl (ct 1, 16, .inl g_k0l)), (k0c, .inl (ct 0, 4096, .inl g_k0c)), (m0, .inr (4, [.ref m0r, .ref m0s, .ref k0, .int x_m0_3, .int x_m0_4, .int x_m0_5, .int x_m0_6, .int x_m0_7, .long x_m0_8, .int x_m0_9])), (m0r, .inl (ct 2, 32, .inr (.inl g_m0r)))]) [] [0, 1, 2, 3, 4] (rn_S (As := [.int r1_1]) (rest := [.long z37_1, .ref m0]) (c_X7_sizeOf l D ct r1_1  _) (cb_of (n := 1) hn mw_1150 mw_7 mw_1237 mhX7_sizeOf ⟨(Nat.le_of_ble_eq_true rfl), (Nat.le_of_ble_eq_true rfl)⟩) hx hb hml hown hn hK hSK hZ hS mw_1149 rfl hl.1 (Nat.le_of_ble_eq_true rfl) dX7_readPacket_39 ⟨(Nat.le_of_ble_eq_true rfl), (Nat.le_of_ble_eq_true rfl)⟩) hP hD hS hA rfl rfl (by decide) (by decide) (by decide) (Nat.le_of_ble_eq_true rfl) (Nat.le_of_ble_eq_true rfl) (fun r39_1 u39_2 H locs hp39_3 hP hD hS => ?_)
    have hp39_4 := hp39_3
    have hp39_4 : rg r39_1 1 8 := hp39_4
    have hP : va_P D vwCl [(k0, .inr (6, [.ref k0c, .ref k0l, .int x_k0_2])), (k0l, .inl (ct 1, 16, .inl g_k0l)), (k0c, .inl (ct 0, 4096, .inl g_k0c)), (m0, .inr (4, [.ref m0r, .ref m0s, .ref k0, .int x_m0_3, .int x_m0_4, .int x_m0_5, .int x_m0_6, .int x_m0_7, .long x_m0_8, .int x_m0_9])), (m0r, .inl (ct 2, 32, .inr (.inl g_m0r)))] _ := hP
    have hD : va_D A [(k0, .inr (6, [.ref k0c, .ref k0l, .int x_k0_2])), (k0l, .inl (ct 1, 16, .inl g_k0l)), (k0c, .inl (ct 0, 4096, .inl g_k0c)), (m0, .inr (4, [.ref m0r, .ref m0s, .ref k0, .int x_m0_3, .int x_m0_4, .int x_m0_5, .int x_m0_6, .int x_m0_7, .long x_m0_8, .int x_m0_9])), (m0r, .inl (ct 2, 32, .inr (.inl g_m0r)))] := hD
    refine go_l (k1 := 0) (n1 := 0) (wr := [(m0r, .inl (ct 2, 32, .inr (.inl g_m0r)))]) [3, 0, 1, 2] [4] (rn_VN (As := [.long z37_1, .int r39_1]) (rest := []) (c_X4_readPacket l D ct m0 z37_1 r39_1 m0r m0s k0 x_m0_3 x_m0_4 x_m0_5 x_m0_6 x_m0_7 x_m0_8 x_m0_9 k0c k0l x_k0_2 g_k0l g_k0c (rg_w hp39_4 (by decide)) h_x_m0_9 h_x_k0_2 h_g_k0l h_g_k0c _) (cn_of (n := 2) hn mw_1241 mw_4 mw_1238 mhX4_readPacket ⟨(Nat.le_of_ble_eq_true rfl), (Nat.le_of_ble_eq_true rfl)⟩) hx hb hml hown hn hK hSK hZ hS mw_1240 mw_s136 (ci := 4) (q0 := 0) rfl rfl rfl rfl hl.1 (Nat.le_of_ble_eq_true rfl) dX7_readPacket_42 ⟨(Nat.le_of_ble_eq_true rfl), (Nat.le_of_ble_eq_true rfl)⟩) hP hD hS hA rfl rfl (by decide) (by decide) (by decide) (Nat.le_of_ble_eq_true rfl) (Nat.le_of_ble_eq_true rfl) (fun r42_1 u42_2 H locs hp42_3 hP hD hS => ?_)
    have hP : va_P D vwCl [(m0r, .inl (ct 2, 32, .inr (.inl g_m0r))), (m0, .inr (4, [.ref m0r, .ref m0s, .ref k0, .int x_m0_3, .int x_m0_4, .int x_m0_5, .int x_m0_6, .int x_m0_7, .long x_m0_8, .int x_m0_9])), (k0, .inr (6, [.ref k0c, .ref k0l, .int x_k0_2])), (k0l, .inl (ct 1, 16, .inl g_k0l)), (k0c, .inl (ct 0, 4096, .inl g_k0c))] _ := hP
    have hD : va_D A [(m0r, .inl (ct 2, 32, .inr (.inl g_m0r))), (m0, .inr (4, [.ref m0r, .ref m0s, .ref k0, .int x_m0_3, .int x_m0_4, .int x_m0_5, .int x_m0_6, .int x_m0_7, .long x_m0_8, .int x_m0_9])), (k0, .inr (6, [.ref k0c, .ref k0l, .int x_k0_2])), (k0l, .inl (ct 1, 16, .inl g_k0l)), (k0c, .inl (ct 0, 4096, .inl g_k0c))] := hD
    refine lv_lstore (lv' := [(6, .long r42_1), (4, .long j23_s0), (0, .long v0), (2, .ref m0), (3, .int r1_1)]) hx hb dX7_readPacket_45 hl (by decide) rfl (fun ls hl => ?_)
    refine lv_aload_n hx hb dX7_readPacket_47 rfl (lv_at hl 3 rfl) ?_
    refine lv_iconst (v := 0) hx hb dX7_readPacket_48 (by decide) ?_
    refine lv_lload hx hb dX7_readPacket_49 (lv_at hl 0 rfl) ?_
    refine lv_lconst (v := 0) hx hb dX7_readPacket_51 (by decide) ?_
    refine W.lcmp hx hb dX7_readPacket_52 ?_
    refine lv_topi (fun z52_1 ez52_1 => ?_)
    have b62 : ∀ (j62_s0 : Int64) (H : Heap) (locs : List Loc) (ls : Array Slot), (rl j62_s0 0 9223372036854775807) → lv_has ls 8 [(2, .ref m0), (6, .long r42_1)] → va_P D vwCl [(m0r, .inl (ct 2, 32, .inr (.inl g_m0r))), (m0, .inr (4, [.ref m0r, .ref m0s, .ref k0, .int x_m0_3, .int x_m0_4, .int x_m0_5, .int x_m0_6, .int x_m0_7, .long x_m0_8, .int x_m0_9])), (k0, .inr (6, [.ref k0c, .ref k0l, .int x_k0_2])), (k0l, .inl (ct 1, 16, .inl g_k0l)), (k0c, .inl (ct 0, 4096, .inl g_k0c))] H → va_D A [(m0r, .inl (ct 2, 32, .inr (.inl g_m0r))), (m0, .inr (4, [.ref m0r, .ref m0s, .ref k0, .int x_m0_3, .int x_m0_4, .int x_m0_5, .int x_m0_6, .int x_m0_7, .long x_m0_8, .int x_m0_9])), (k0, .inr (6, [.ref k0c, .ref k0l, .int x_k0_2])), (k0l, .inl (ct 1, 16, .inl g_k0l)), (k0c, .inl (ct 0, 4096, .inl g_k0c))] → va_S A s.heap H locs → W p l e ({ frames := 5, cells := 0, slots := 0, locals := 114 }) s m [.long v0, .ref m0].toArray below meth c H locs 0 0 Q (F0 m 62 ls [.long j62_s0, .int 0, .ref m0]) := by
      intro j62_s0 H locs ls r62_1001 hl hP hD hS
      refine go_v (k1 := 0) (n1 := 0) (wr := [(k0, .inr (6, [.ref k0c, .ref k0l, .int x_k0_2])), (k0l, .inl (ct 1, 16, .inl g_k0l)), (k0c, .inl (ct 0, 4096, .inl g_k0c))]) [1, 0] [2, 3, 4] (rn_VN (As := [.int 0, .long j62_s0]) (rest := []) (c_X4_set l D ct m0 (0 : Int32) j62_s0 m0r m0s k0 x_m0_3 x_m0_4 x_m0_5 x_m0_6 x_m0_7 x_m0_8 x_m0_9 g_m0r h_x_m0_9 _) (cn_of (n := 2) hn mw_1209 mw_4 mw_1206 mhX4_set ⟨(Nat.le_of_ble_eq_true rfl), (Nat.le_of_ble_eq_true rfl)⟩) hx hb hml hown hn hK hSK hZ hS mw_1208 mw_s132 (ci := 4) (q0 := 0) rfl rfl rfl rfl hl.1 (Nat.le_of_ble_eq_true rfl) dX7_readPacket_62 ⟨(Nat.le_of_ble_eq_true rfl), (Nat.le_of_ble_eq_true rfl)⟩) hP hD hS hA rfl rfl (by decide) (by decide) (by decide) (Nat.le_of_ble_eq_true rfl) (Nat.le_of_ble_eq_true rfl) (fun u62_2 H locs hp62_3 hP hD hS => ?_)
      have hP : va_P D vwCl [(k0, .inr (6, [.ref k0c, .ref k0l, .int x_k0_2])), (k0l, .inl (ct 1, 16, .inl g_k0l)), (k0c, .inl (ct 0, 4096, .inl g_k0c)), (m0, .inr (4, [.ref m0r, .ref m0s, .ref k0, .int x_m0_3, .int x_m0_4, .int x_m0_5, .int x_m0_6, .int x_m0_7, .long x_m0_8, .int x_m0_9])), (m0r, .inl (ct 2, 32, .inr (.inl u62_2)))] _ := hP
      have hD : va_D A [(k0, .inr (6, [.ref k0c, .ref k0l, .int x_k0_2])), (k0l, .inl (ct 1, 16, .inl g_k0l)), (k0c, .inl (ct 0, 4096, .inl g_k0c)), (m0, .inr (4, [.ref m0r, .ref m0s, .ref k0, .int x_m0_3, .int x_m0_4, .int x_m0_5, .int x_m0_6, .int x_m0_7, .long x_m0_8, .int x_m0_9])), (m0r, .inl (ct 2, 32, .inr (.inl u62_2)))] := hD
      refine lv_lload hx hb dX7_readPacket_65 (lv_at hl 1 rfl) ?_
      refine lv_lconst (v := 0) hx hb dX7_readPacket_67 (by decide) ?_
      refine W.lcmp hx hb dX7_readPacket_68 ?_
      refine lv_topi (fun z68_1 ez68_1 => ?_)
      refine lv_if_ge (tgt := 77) hx hb dX7_readPacket_69 (by decide) (fun c69_1 => ?_) (fun c69_1 => ?_)
      · have t69_2 := (l_ge ez68_1 c69_1)
        have r69_3 : rl r42_1 0 9223372036854775807 := rl_leB t69_2 (show rl (0 : Int64) 0 0 from rl_l (by decide)) (rl_any r42_1) (by decide)
        exact endq_v hQ hx hb hr hlocks dX7_readPacket_77 (x_m0_9, u62_2) h_x_m0_9 hP hD hS [3, 4, 0, 1, 2] rfl (by decide) rfl (Nat.le_of_ble_eq_true rfl) (Nat.le_of_ble_eq_true rfl)
      · have t69_2 := (l_nge ez68_1 c69_1)
        have r69_3 : rl r42_1 (-9223372036854775808) (-1) := rl_ltA t69_2 (rl_any r42_1) (show rl (0 : Int64) 0 0 from rl_l (by decide)) (by decide)
        refine lv_aload_n hx hb dX7_readPacket_72 rfl (lv_at hl 0 rfl) ?_
        refine lv_iconst (v := 1) hx hb dX7_readPacket_73 (by decide) ?_
        refine va_putN (D := D) (ci := 4) (v := .int 1) (ty := .boolean) (C := RX4) (T := TX4) (N := 10) hx hb (htX4 hn) (fun _ h => h) tyX4 tyX4_ok nmX4 hown hK hP hD hS 3 rfl rfl 9 (by decide) (hn.get mw_101 rfl) (fun _ h9 => h9) rfl (by decide +kernel) (by decide) rfl (Nat.le_of_ble_eq_true rfl) dX7_readPacket_74 (fun H locs hP hD hS => ?_)
        have hP : va_P D vwCl [(k0, .inr (6, [.ref k0c, .ref k0l, .int x_k0_2])), (k0l, .inl (ct 1, 16, .inl g_k0l)), (k0c, .inl (ct 0, 4096, .inl g_k0c)), (m0, .inr (4, [.ref m0r, .ref m0s, .ref k0, .int x_m0_3, .int x_m0_4, .int x_m0_5, .int x_m0_6, .int x_m0_7, .long x_m0_8, .int 1])), (m0r, .inl (ct 2, 32, .inr (.inl u62_2)))] _ := hP
        have hD : va_D A [(k0, .inr (6, [.ref k0c, .ref k0l, .int x_k0_2])), (k0l, .inl (ct 1, 16, .inl g_k0l)), (k0c, .inl (ct 0, 4096, .inl g_k0c)), (m0, .inr (4, [.ref m0r, .ref m0s, .ref k0, .int x_m0_3, .int x_m0_4, .int x_m0_5, .int x_m0_6, .int x_m0_7, .long x_m0_8, .int 1])), (m0r, .inl (ct 2, 32, .inr (.inl u62_2)))] := hD
        exact endq_v hQ hx hb hr hlocks dX7_readPacket_77 ((1 : Int32), u62_2) (rg_w (show rg (1 : Int32) 1 1 from rg_l (by decide)) (by decide)) hP hD hS [3, 4, 0, 1, 2] rfl (by decide) rfl (Nat.le_of_ble_eq_true rfl) (Nat.le_of_ble_eq_true rfl)
    refine lv_if_ge (tgt := 60) hx hb dX7_readPacket_53 (by decide) (fun c53_1 => ?_) (fun c53_1 => ?_)
    · have t53_2 := (l_ge ez52_1 c53_1)
      have r53_3 : rl r42_1 0 9223372036854775807 := rl_leB t53_2 (show rl (0 : Int64) 0 0 from rl_l (by decide)) (rl_any r42_1) (by decide)
      refine lv_lload hx hb dX7_readPacket_60 (lv_at hl 0 rfl) ?_
      exact b62 r42_1 H locs ls r53_3 (lv_sub hl [3, 0] rfl) hP hD hS
    · have t53_2 := (l_nge ez52_1 c53_1)
      have r53_3 : rl r42_1 (-9223372036854775808) (-1) := rl_ltA t53_2 (rl_any r42_1) (show rl (0 : Int64) 0 0 from rl_l (by decide)) (by decide)
      refine lv_lconst (v := 0) hx hb dX7_readPacket_56 (by decide) ?_
      refine lv_goto (tgt := 62) hx hb dX7_readPacket_57 (by decide) ?_
      exact b62 (0 : Int64) H locs ls (rl_w (show rl (0 : Int64) 0 0 from rl_l (by decide)) (by decide)) (lv_sub hl [3, 0] rfl) hP hD hS
  refine lv_icmp_ge (tgt := 15) hx hb dX7_readPacket_8 (by decide) (fun c8_1 => ?_) (fun c8_1 => ?_)
  · have t8_2 := (i_le c8_1)
    have r8_3 : rg r1_1 64 255 := rg_leB t8_2 (show rg (64 : Int32) 64 64 from rg_l (by decide)) hp1_4 (by decide)
    refine lv_aload_n hx hb dX7_readPacket_15 rfl (lv_at hl 2 rfl) ?_
    refine lv_lload_n hx hb dX7_readPacket_16 rfl (lv_at hl 1 rfl) ?_
    refine go_i (k1 := 0) (n1 := 0) (wr := [(m0, .inr (4, [.ref m0r, .ref m0s, .ref k0, .int x_m0_3, .int x_m0_4, .int x_m0_5, .int x_m0_6, .int x_m0_7, .long x_m0_8, .int x_m0_9])), (m0r, .inl (ct 2, 32, .inr (.inl g_m0r))), (k0, .inr (6, [.ref k0c, .ref k0l, .int x_k0_2])), (k0l, .inl (ct 1, 16, .inl g_k0l)), (k0c, .inl (ct 0, 4096, .inl g_k0c))]) [] [0, 1, 2, 3, 4] (rn_S (As := [.long v0]) (rest := [.ref m0]) (c_X7_sOf l D ct v0  _) (cb_of (n := 1) hn mw_989 mw_7 mw_987 mhX7_sOf ⟨(Nat.le_of_ble_eq_true rfl), (Nat.le_of_ble_eq_true rfl)⟩) hx hb hml hown hn hK hSK hZ hS mw_988 rfl hl.1 (Nat.le_of_ble_eq_true rfl) dX7_readPacket_17 ⟨(Nat.le_of_ble_eq_true rfl), (Nat.le_of_ble_eq_true rfl)⟩) hP hD hS hA rfl rfl (by decide) (by decide) (by decide) (Nat.le_of_ble_eq_true rfl) (Nat.le_of_ble_eq_true rfl) (fun r17_1 u17_2 H locs hp17_3 hP hD hS => ?_)
    obtain ⟨hp17_4, hp17_5⟩ := hp17_3
    have hp17_4 : rg r17_1 0 15 := hp17_4
    have hp17_5 : r17_1.toInt = (v0.toInt / 4096) % 16 := hp17_5
    have hP : va_P D vwCl [(m0, .inr (4, [.ref m0r, .ref m0s, .ref k0, .int x_m0_3, .int x_m0_4, .int x_m0_5, .int x_m0_6, .int x_m0_7, .long x_m0_8, .int x_m0_9])), (m0r, .inl (ct 2, 32, .inr (.inl g_m0r))), (k0, .inr (6, [.ref k0c, .ref k0l, .int x_k0_2])), (k0l, .inl (ct 1, 16, .inl g_k0l)), (k0c, .inl (ct 0, 4096, .inl g_k0c))] _ := hP
    have hD : va_D A [(m0, .inr (4, [.ref m0r, .ref m0s, .ref k0, .int x_m0_3, .int x_m0_4, .int x_m0_5, .int x_m0_6, .int x_m0_7, .long x_m0_8, .int x_m0_9])), (m0r, .inl (ct 2, 32, .inr (.inl g_m0r))), (k0, .inr (6, [.ref k0c, .ref k0l, .int x_k0_2])), (k0l, .inl (ct 1, 16, .inl g_k0l)), (k0c, .inl (ct 0, 4096, .inl g_k0c))] := hD
    refine go_l (k1 := 0) (n1 := 0) (wr := [(k0, .inr (6, [.ref k0c, .ref k0l, .int x_k0_2])), (k0l, .inl (ct 1, 16, .inl g_k0l)), (k0c, .inl (ct 0, 4096, .inl g_k0c))]) [0, 1] [2, 3, 4] (rn_VN (As := [.int r17_1]) (rest := []) (c_X4_get l D ct m0 r17_1 m0r m0s k0 x_m0_3 x_m0_4 x_m0_5 x_m0_6 x_m0_7 x_m0_8 x_m0_9 g_m0r h_x_m0_9 _) (cn_of (n := 1) hn mw_1225 mw_4 mw_1222 mhX4_get ⟨(Nat.le_of_ble_eq_true rfl), (Nat.le_of_ble_eq_true rfl)⟩) hx hb hml hown hn hK hSK hZ hS mw_1224 mw_s135 (ci := 4) (q0 := 0) rfl rfl rfl rfl hl.1 (Nat.le_of_ble_eq_true rfl) dX7_readPacket_20 ⟨(Nat.le_of_ble_eq_true rfl), (Nat.le_of_ble_eq_true rfl)⟩) hP hD hS hA rfl rfl (by decide) (by decide) (by decide) (Nat.le_of_ble_eq_true rfl) (Nat.le_of_ble_eq_true rfl) (fun r20_1 u20_2 H locs hp20_3 hP hD hS => ?_)
    have hP : va_P D vwCl [(k0, .inr (6, [.ref k0c, .ref k0l, .int x_k0_2])), (k0l, .inl (ct 1, 16, .inl g_k0l)), (k0c, .inl (ct 0, 4096, .inl g_k0c)), (m0, .inr (4, [.ref m0r, .ref m0s, .ref k0, .int x_m0_3, .int x_m0_4, .int x_m0_5, .int x_m0_6, .int x_m0_7, .long x_m0_8, .int x_m0_9])), (m0r, .inl (ct 2, 32, .inr (.inl g_m0r)))] _ := hP
    have hD : va_D A [(k0, .inr (6, [.ref k0c, .ref k0l, .int x_k0_2])), (k0l, .inl (ct 1, 16, .inl g_k0l)), (k0c, .inl (ct 0, 4096, .inl g_k0c)), (m0, .inr (4, [.ref m0r, .ref m0s, .ref k0, .int x_m0_3, .int x_m0_4, .int x_m0_5, .int x_m0_6, .int x_m0_7, .long x_m0_8, .int x_m0_9])), (m0r, .inl (ct 2, 32, .inr (.inl g_m0r)))] := hD
    exact b23 r20_1 H locs ls  (lv_sub hl [1, 2, 0] rfl) hP hD hS
  · have t8_2 := (i_nle c8_1)
    have r8_3 : rg r1_1 0 63 := rg_ltA t8_2 hp1_4 (show rg (64 : Int32) 64 64 from rg_l (by decide)) (by decide)
    refine lv_lconst (v := 0) hx hb dX7_readPacket_11 (by decide) ?_
    refine lv_goto (tgt := 23) hx hb dX7_readPacket_12 (by decide) ?_
    have hP := hP.sub (ws' := [(k0, .inr (6, [.ref k0c, .ref k0l, .int x_k0_2])), (k0l, .inl (ct 1, 16, .inl g_k0l)), (k0c, .inl (ct 0, 4096, .inl g_k0c)), (m0, .inr (4, [.ref m0r, .ref m0s, .ref k0, .int x_m0_3, .int x_m0_4, .int x_m0_5, .int x_m0_6, .int x_m0_7, .long x_m0_8, .int x_m0_9])), (m0r, .inl (ct 2, 32, .inr (.inl g_m0r)))]) [2, 3, 4, 0, 1] rfl
    have hD := hD.sub (ws' := [(k0, .inr (6, [.ref k0c, .ref k0l, .int x_k0_2])), (k0l, .inl (ct 1, 16, .inl g_k0l)), (k0c, .inl (ct 0, 4096, .inl g_k0c)), (m0, .inr (4, [.ref m0r, .ref m0s, .ref k0, .int x_m0_3, .int x_m0_4, .int x_m0_5, .int x_m0_6, .int x_m0_7, .long x_m0_8, .int x_m0_9])), (m0r, .inl (ct 2, 32, .inr (.inl g_m0r)))]) [2, 3, 4, 0, 1] (by decide) rfl
    exact b23 (0 : Int64) H locs ls  (lv_sub hl [1, 2, 0] rfl) hP hD hS
set_option maxHeartbeats 2000000 in
theorem c_X7_useMemory (l : Launch) (D : va_G) (ct : Nat → ClassId) (v0 : Int64) (m0 : Nat) (m0r : Nat) (m0s : Nat) (k0 : Nat) (x_m0_3 : Int32) (x_m0_4 : Int32) (x_m0_5 : Int32) (x_m0_6 : Int32) (x_m0_7 : Int32) (x_m0_8 : Int64) (x_m0_9 : Int32) (g_m0r : Nat → Int64) (g_m0s : Nat → Int32) (k0c : Nat) (k0l : Nat) (x_k0_2 : Int32) (g_k0l : Nat → Int32) (g_k0c : Nat → Int32) (h_x_m0_9 : rg x_m0_9 0 1) (h_g_m0s : Rg g_m0s 64 (-128) 127) (h_x_k0_2 : rg x_k0_2 0 16) (h_g_k0l : Rg g_k0l 16 0 256) (h_g_k0c : Rg g_k0c 4096 (-128) 127) : KV (S := Int32 × Int32 × (Nat → Int64) × (Nat → Int32)) l yX7_useMemory cX7_useMemory 8 none 5 112 D ct [.long v0, .ref m0] [(m0, .inr (4, [.ref m0r, .ref m0s, .ref k0, .int x_m0_3, .int x_m0_4, .int x_m0_5, .int x_m0_6, .int x_m0_7, .long x_m0_8, .int x_m0_9])), (m0r, .inl (ct 2, 32, .inr (.inl g_m0r))), (m0s, .inl (ct 0, 64, .inl g_m0s)), (k0, .inr (6, [.ref k0c, .ref k0l, .int x_k0_2])), (k0l, .inl (ct 1, 16, .inl g_k0l)), (k0c, .inl (ct 0, 4096, .inl g_k0c))] 0 0 (fun (u : Int32 × Int32 × (Nat → Int64) × (Nat → Int32)) => match u with | (y_m0_5, y_m0_9, k_m0r, k_m0s) => rg y_m0_9 0 1 ∧ Rg k_m0s 64 (-128) 127) (fun (u : Int32 × Int32 × (Nat → Int64) × (Nat → Int32)) => match u with | (y_m0_5, y_m0_9, k_m0r, k_m0s) => [(m0, .inr (4, [.ref m0r, .ref m0s, .ref k0, .int x_m0_3, .int x_m0_4, .int y_m0_5, .int x_m0_6, .int x_m0_7, .long x_m0_8, .int y_m0_9])), (m0r, .inl (ct 2, 32, .inr (.inl k_m0r))), (m0s, .inl (ct 0, 64, .inl k_m0s)), (k0, .inr (6, [.ref k0c, .ref k0l, .int x_k0_2])), (k0l, .inl (ct 1, 16, .inl g_k0l)), (k0c, .inl (ct 0, 4096, .inl g_k0c))]) := by
  refine KVq_of (by decide) (Nat.le_of_ble_eq_true rfl) (fun p e s m below meth c A Q C0 hA H locs hS hP hD hQ ls hl => ?_)
  obtain ⟨hx, hb, hr, hown, hin, hml, hlocks, hn, hK, hZ, hSK⟩ := C0
  have hl : lv_has ls 8 [(0, .long v0), (2, .ref m0)] := hl
  refine lv_lload_n hx hb dX7_useMemory_0 rfl (lv_at hl 0 rfl) ?_
  refine go_i (k1 := 0) (n1 := 0) (wr := [(m0, .inr (4, [.ref m0r, .ref m0s, .ref k0, .int x_m0_3, .int x_m0_4, .int x_m0_5, .int x_m0_6, .int x_m0_7, .long x_m0_8, .int x_m0_9])), (m0r, .inl (ct 2, 32, .inr (.inl g_m0r))), (m0s, .inl (ct 0, 64, .inl g_m0s)), (k0, .inr (6, [.ref k0c, .ref k0l, .int x_k0_2])), (k0l, .inl (ct 1, 16, .inl g_k0l)), (k0c, .inl (ct 0, 4096, .inl g_k0c))]) [] [0, 1, 2, 3, 4, 5] (rn_S (As := [.long v0]) (rest := []) (c_X7_codeOf l D ct v0  _) (cb_of (n := 1) hn mw_956 mw_7 mw_954 mhX7_codeOf ⟨(Nat.le_of_ble_eq_true rfl), (Nat.le_of_ble_eq_true rfl)⟩) hx hb hml hown hn hK hSK hZ hS mw_955 rfl hl.1 (Nat.le_of_ble_eq_true rfl) dX7_useMemory_1 ⟨(Nat.le_of_ble_eq_true rfl), (Nat.le_of_ble_eq_true rfl)⟩) hP hD hS hA rfl rfl (by decide) (by decide) (by decide) (Nat.le_of_ble_eq_true rfl) (Nat.le_of_ble_eq_true rfl) (fun r1_1 u1_2 H locs hp1_3 hP hD hS => ?_)
  obtain ⟨hp1_4, hp1_5⟩ := hp1_3
  have hp1_4 : rg r1_1 0 255 := hp1_4
  have hp1_5 : r1_1.toInt = v0.toInt % 256 := hp1_5
  have hP : va_P D vwCl [(m0, .inr (4, [.ref m0r, .ref m0s, .ref k0, .int x_m0_3, .int x_m0_4, .int x_m0_5, .int x_m0_6, .int x_m0_7, .long x_m0_8, .int x_m0_9])), (m0r, .inl (ct 2, 32, .inr (.inl g_m0r))), (m0s, .inl (ct 0, 64, .inl g_m0s)), (k0, .inr (6, [.ref k0c, .ref k0l, .int x_k0_2])), (k0l, .inl (ct 1, 16, .inl g_k0l)), (k0c, .inl (ct 0, 4096, .inl g_k0c))] _ := hP
  have hD : va_D A [(m0, .inr (4, [.ref m0r, .ref m0s, .ref k0, .int x_m0_3, .int x_m0_4, .int x_m0_5, .int x_m0_6, .int x_m0_7, .long x_m0_8, .int x_m0_9])), (m0r, .inl (ct 2, 32, .inr (.inl g_m0r))), (m0s, .inl (ct 0, 64, .inl g_m0s)), (k0, .inr (6, [.ref k0c, .ref k0l, .int x_k0_2])), (k0l, .inl (ct 1, 16, .inl g_k0l)), (k0c, .inl (ct 0, 4096, .inl g_k0c))] := hD
  refine lv_istore_n (lv' := [(3, .int r1_1), (0, .long v0), (2, .ref m0)]) hx hb dX7_useMemory_4 rfl hl (by decide) rfl (fun ls hl => ?_)
  refine lv_iload_n hx hb dX7_useMemory_5 rfl (lv_at hl 0 rfl) ?_
  refine go_i (k1 := 0) (n1 := 0) (wr := [(m0, .inr (4, [.ref m0r, .ref m0s, .ref k0, .int x_m0_3, .int x_m0_4, .int x_m0_5, .int x_m0_6, .int x_m0_7, .long x_m0_8, .int x_m0_9])), (m0r, .inl (ct 2, 32, .inr (.inl g_m0r))), (m0s, .inl (ct 0, 64, .inl g_m0s)), (k0, .inr (6, [.ref k0c, .ref k0l, .int x_k0_2])), (k0l, .inl (ct 1, 16, .inl g_k0l)), (k0c, .inl (ct 0, 4096, .inl g_k0c))]) [] [0, 1, 2, 3, 4, 5] (rn_S (As := [.int r1_1]) (rest := []) (c_X7_isLoad l D ct r1_1  _) (cb_of (n := 1) hn mw_977 mw_7 mw_975 mhX7_isLoad ⟨(Nat.le_of_ble_eq_true rfl), (Nat.le_of_ble_eq_true rfl)⟩) hx hb hml hown hn hK hSK hZ hS mw_976 rfl hl.1 (Nat.le_of_ble_eq_true rfl) dX7_useMemory_6 ⟨(Nat.le_of_ble_eq_true rfl), (Nat.le_of_ble_eq_true rfl)⟩) hP hD hS hA rfl rfl (by decide) (by decide) (by decide) (Nat.le_of_ble_eq_true rfl) (Nat.le_of_ble_eq_true rfl) (fun r6_1 u6_2 H locs hp6_3 hP hD hS => ?_)
  have hp6_4 := hp6_3
  have hp6_4 : rg r6_1 0 1 := hp6_4
  have hP : va_P D vwCl [(m0, .inr (4, [.ref m0r, .ref m0s, .ref k0, .int x_m0_3, .int x_m0_4, .int x_m0_5, .int x_m0_6, .int x_m0_7, .long x_m0_8, .int x_m0_9])), (m0r, .inl (ct 2, 32, .inr (.inl g_m0r))), (m0s, .inl (ct 0, 64, .inl g_m0s)), (k0, .inr (6, [.ref k0c, .ref k0l, .int x_k0_2])), (k0l, .inl (ct 1, 16, .inl g_k0l)), (k0c, .inl (ct 0, 4096, .inl g_k0c))] _ := hP
  have hD : va_D A [(m0, .inr (4, [.ref m0r, .ref m0s, .ref k0, .int x_m0_3, .int x_m0_4, .int x_m0_5, .int x_m0_6, .int x_m0_7, .long x_m0_8, .int x_m0_9])), (m0r, .inl (ct 2, 32, .inr (.inl g_m0r))), (m0s, .inl (ct 0, 64, .inl g_m0s)), (k0, .inr (6, [.ref k0c, .ref k0l, .int x_k0_2])), (k0l, .inl (ct 1, 16, .inl g_k0l)), (k0c, .inl (ct 0, 4096, .inl g_k0c))] := hD
  refine lv_istore (lv' := [(4, .int r6_1), (3, .int r1_1), (0, .long v0), (2, .ref m0)]) hx hb dX7_useMemory_9 hl (by decide) rfl (fun ls hl => ?_)
  refine lv_iload hx hb dX7_useMemory_11 (lv_at hl 0 rfl) ?_
  have b27 : ∀ (j27_s0 : Int32) (H : Heap) (locs : List Loc) (ls : Array Slot), (rg j27_s0 0 15) → lv_has ls 8 [(0, .long v0), (2, .ref m0), (3, .int r1_1), (4, .int r6_1)] → va_P D vwCl [(m0, .inr (4, [.ref m0r, .ref m0s, .ref k0, .int x_m0_3, .int x_m0_4, .int x_m0_5, .int x_m0_6, .int x_m0_7, .long x_m0_8, .int x_m0_9])), (m0r, .inl (ct 2, 32, .inr (.inl g_m0r))), (m0s, .inl (ct 0, 64, .inl g_m0s)), (k0, .inr (6, [.ref k0c, .ref k0l, .int x_k0_2])), (k0l, .inl (ct 1, 16, .inl g_k0l)), (k0c, .inl (ct 0, 4096, .inl g_k0c))] H → va_D A [(m0, .inr (4, [.ref m0r, .ref m0s, .ref k0, .int x_m0_3, .int x_m0_4, .int x_m0_5, .int x_m0_6, .int x_m0_7, .long x_m0_8, .int x_m0_9])), (m0r, .inl (ct 2, 32, .inr (.inl g_m0r))), (m0s, .inl (ct 0, 64, .inl g_m0s)), (k0, .inr (6, [.ref k0c, .ref k0l, .int x_k0_2])), (k0l, .inl (ct 1, 16, .inl g_k0l)), (k0c, .inl (ct 0, 4096, .inl g_k0c))] → va_S A s.heap H locs → W p l e ({ frames := 5, cells := 0, slots := 0, locals := 112 }) s m [.long v0, .ref m0].toArray below meth c H locs 0 0 Q (F0 m 27 ls [.int j27_s0]) := by
    intro j27_s0 H locs ls r27_1001 hl hP hD hS
    refine lv_istore (lv' := [(5, .int j27_s0), (0, .long v0), (2, .ref m0), (3, .int r1_1), (4, .int r6_1)]) hx hb dX7_useMemory_27 hl (by decide) rfl (fun ls hl => ?_)
    refine lv_aload_n hx hb dX7_useMemory_29 rfl (lv_at hl 2 rfl) ?_
    refine lv_iload hx hb dX7_useMemory_30 (lv_at hl 0 rfl) ?_
    refine go_l (k1 := 0) (n1 := 0) (wr := [(m0s, .inl (ct 0, 64, .inl g_m0s)), (k0, .inr (6, [.ref k0c, .ref k0l, .int x_k0_2])), (k0l, .inl (ct 1, 16, .inl g_k0l)), (k0c, .inl (ct 0, 4096, .inl g_k0c))]) [0, 1] [2, 3, 4, 5] (rn_VN (As := [.int j27_s0]) (rest := []) (c_X4_get l D ct m0 j27_s0 m0r m0s k0 x_m0_3 x_m0_4 x_m0_5 x_m0_6 x_m0_7 x_m0_8 x_m0_9 g_m0r h_x_m0_9 _) (cn_of (n := 1) hn mw_1225 mw_4 mw_1222 mhX4_get ⟨(Nat.le_of_ble_eq_true rfl), (Nat.le_of_ble_eq_true rfl)⟩) hx hb hml hown hn hK hSK hZ hS mw_1224 mw_s135 (ci := 4) (q0 := 0) rfl rfl rfl rfl hl.1 (Nat.le_of_ble_eq_true rfl) dX7_useMemory_32 ⟨(Nat.le_of_ble_eq_true rfl), (Nat.le_of_ble_eq_true rfl)⟩) hP hD hS hA rfl rfl (by decide) (by decide) (by decide) (Nat.le_of_ble_eq_true rfl) (Nat.le_of_ble_eq_true rfl) (fun r32_1 u32_2 H locs hp32_3 hP hD hS => ?_)
    have hP : va_P D vwCl [(m0s, .inl (ct 0, 64, .inl g_m0s)), (k0, .inr (6, [.ref k0c, .ref k0l, .int x_k0_2])), (k0l, .inl (ct 1, 16, .inl g_k0l)), (k0c, .inl (ct 0, 4096, .inl g_k0c)), (m0, .inr (4, [.ref m0r, .ref m0s, .ref k0, .int x_m0_3, .int x_m0_4, .int x_m0_5, .int x_m0_6, .int x_m0_7, .long x_m0_8, .int x_m0_9])), (m0r, .inl (ct 2, 32, .inr (.inl g_m0r)))] _ := hP
    have hD : va_D A [(m0s, .inl (ct 0, 64, .inl g_m0s)), (k0, .inr (6, [.ref k0c, .ref k0l, .int x_k0_2])), (k0l, .inl (ct 1, 16, .inl g_k0l)), (k0c, .inl (ct 0, 4096, .inl g_k0c)), (m0, .inr (4, [.ref m0r, .ref m0s, .ref k0, .int x_m0_3, .int x_m0_4, .int x_m0_5, .int x_m0_6, .int x_m0_7, .long x_m0_8, .int x_m0_9])), (m0r, .inl (ct 2, 32, .inr (.inl g_m0r)))] := hD
    refine lv_lload_n hx hb dX7_useMemory_35 rfl (lv_at hl 1 rfl) ?_
    refine go_i (k1 := 0) (n1 := 0) (wr := [(m0s, .inl (ct 0, 64, .inl g_m0s)), (k0, .inr (6, [.ref k0c, .ref k0l, .int x_k0_2])), (k0l, .inl (ct 1, 16, .inl g_k0l)), (k0c, .inl (ct 0, 4096, .inl g_k0c)), (m0, .inr (4, [.ref m0r, .ref m0s, .ref k0, .int x_m0_3, .int x_m0_4, .int x_m0_5, .int x_m0_6, .int x_m0_7, .long x_m0_8, .int x_m0_9])), (m0r, .inl (ct 2, 32, .inr (.inl g_m0r)))]) [] [0, 1, 2, 3, 4, 5] (rn_S (As := [.long v0]) (rest := [.long r32_1]) (c_X7_offOf l D ct v0  _) (cb_of (n := 1) hn mw_992 mw_7 mw_990 mhX7_offOf ⟨(Nat.le_of_ble_eq_true rfl), (Nat.le_of_ble_eq_true rfl)⟩) hx hb hml hown hn hK hSK hZ hS mw_991 rfl hl.1 (Nat.le_of_ble_eq_true rfl) dX7_useMemory_36 ⟨(Nat.le_of_ble_eq_true rfl), (Nat.le_of_ble_eq_true rfl)⟩) hP hD hS hA rfl rfl (by decide) (by decide) (by decide) (Nat.le_of_ble_eq_true rfl) (Nat.le_of_ble_eq_true rfl) (fun r36_1 u36_2 H locs hp36_3 hP hD hS => ?_)
    have hp36_4 := hp36_3
    have hp36_4 : rg r36_1 (-32768) 32767 := hp36_4
    have hP : va_P D vwCl [(m0s, .inl (ct 0, 64, .inl g_m0s)), (k0, .inr (6, [.ref k0c, .ref k0l, .int x_k0_2])), (k0l, .inl (ct 1, 16, .inl g_k0l)), (k0c, .inl (ct 0, 4096, .inl g_k0c)), (m0, .inr (4, [.ref m0r, .ref m0s, .ref k0, .int x_m0_3, .int x_m0_4, .int x_m0_5, .int x_m0_6, .int x_m0_7, .long x_m0_8, .int x_m0_9])), (m0r, .inl (ct 2, 32, .inr (.inl g_m0r)))] _ := hP
    have hD : va_D A [(m0s, .inl (ct 0, 64, .inl g_m0s)), (k0, .inr (6, [.ref k0c, .ref k0l, .int x_k0_2])), (k0l, .inl (ct 1, 16, .inl g_k0l)), (k0c, .inl (ct 0, 4096, .inl g_k0c)), (m0, .inr (4, [.ref m0r, .ref m0s, .ref k0, .int x_m0_3, .int x_m0_4, .int x_m0_5, .int x_m0_6, .int x_m0_7, .long x_m0_8, .int x_m0_9])), (m0r, .inl (ct 2, 32, .inr (.inl g_m0r)))] := hD
    refine lv_i2l hx hb dX7_useMemory_39 rfl ?_
    refine lv_topl (fun z39_1 ez39_1 => ?_)
    have r39_2 : rl z39_1 (-32768) 32767 := rl_i2l ez39_1 hp36_4
    refine lv_ladd hx hb dX7_useMemory_40 ?_
    refine lv_topl (fun z40_1 ez40_1 => ?_)
    refine lv_lstore (lv' := [(6, .long z40_1), (5, .int j27_s0), (0, .long v0), (2, .ref m0), (3, .int r1_1), (4, .int r6_1)]) hx hb dX7_useMemory_41 hl (by decide) rfl (fun ls hl => ?_)
    refine lv_aload_n hx hb dX7_useMemory_43 rfl (lv_at hl 3 rfl) ?_
    refine lv_lload hx hb dX7_useMemory_44 (lv_at hl 0 rfl) ?_
    refine lv_iload_n hx hb dX7_useMemory_46 rfl (lv_at hl 4 rfl) ?_
    refine go_i (k1 := 0) (n1 := 0) (wr := [(m0s, .inl (ct 0, 64, .inl g_m0s)), (k0, .inr (6, [.ref k0c, .ref k0l, .int x_k0_2])), (k0l, .inl (ct 1, 16, .inl g_k0l)), (k0c, .inl (ct 0, 4096, .inl g_k0c)), (m0, .inr (4, [.ref m0r, .ref m0s, .ref k0, .int x_m0_3, .int x_m0_4, .int x_m0_5, .int x_m0_6, .int x_m0_7, .long x_m0_8, .int x_m0_9])), (m0r, .inl (ct 2, 32, .inr (.inl g_m0r)))]) [] [0, 1, 2, 3, 4, 5] (rn_S (As := [.int r1_1]) (rest := [.long z40_1, .ref m0]) (c_X7_sizeOf l D ct r1_1  _) (cb_of (n := 1) hn mw_1150 mw_7 mw_1237 mhX7_sizeOf ⟨(Nat.le_of_ble_eq_true rfl), (Nat.le_of_ble_eq_true rfl)⟩) hx hb hml hown hn hK hSK hZ hS mw_1149 rfl hl.1 (Nat.le_of_ble_eq_true rfl) dX7_useMemory_47 ⟨(Nat.le_of_ble_eq_true rfl), (Nat.le_of_ble_eq_true rfl)⟩) hP hD hS hA rfl rfl (by decide) (by decide) (by decide) (Nat.le_of_ble_eq_true rfl) (Nat.le_of_ble_eq_true rfl) (fun r47_1 u47_2 H locs hp47_3 hP hD hS => ?_)
    have hp47_4 := hp47_3
    have hp47_4 : rg r47_1 1 8 := hp47_4
    have hP : va_P D vwCl [(m0s, .inl (ct 0, 64, .inl g_m0s)), (k0, .inr (6, [.ref k0c, .ref k0l, .int x_k0_2])), (k0l, .inl (ct 1, 16, .inl g_k0l)), (k0c, .inl (ct 0, 4096, .inl g_k0c)), (m0, .inr (4, [.ref m0r, .ref m0s, .ref k0, .int x_m0_3, .int x_m0_4, .int x_m0_5, .int x_m0_6, .int x_m0_7, .long x_m0_8, .int x_m0_9])), (m0r, .inl (ct 2, 32, .inr (.inl g_m0r)))] _ := hP
    have hD : va_D A [(m0s, .inl (ct 0, 64, .inl g_m0s)), (k0, .inr (6, [.ref k0c, .ref k0l, .int x_k0_2])), (k0l, .inl (ct 1, 16, .inl g_k0l)), (k0c, .inl (ct 0, 4096, .inl g_k0c)), (m0, .inr (4, [.ref m0r, .ref m0s, .ref k0, .int x_m0_3, .int x_m0_4, .int x_m0_5, .int x_m0_6, .int x_m0_7, .long x_m0_8, .int x_m0_9])), (m0r, .inl (ct 2, 32, .inr (.inl g_m0r)))] := hD
    refine go_i (k1 := 0) (n1 := 0) (wr := [(m0s, .inl (ct 0, 64, .inl g_m0s)), (k0, .inr (6, [.ref k0c, .ref k0l, .int x_k0_2])), (k0l, .inl (ct 1, 16, .inl g_k0l)), (k0c, .inl (ct 0, 4096, .inl g_k0c)), (m0r, .inl (ct 2, 32, .inr (.inl g_m0r)))]) [4] [0, 1, 2, 3, 5] (rn_VN (As := [.long z40_1, .int r47_1]) (rest := []) (c_X4_inStack l D ct m0 z40_1 r47_1 m0r m0s k0 x_m0_3 x_m0_4 x_m0_5 x_m0_6 x_m0_7 x_m0_8 x_m0_9 (rg_w hp47_4 (by decide)) h_x_m0_9 _) (cn_of (n := 2) hn mw_1252 mw_4 mw_1249 mhX4_inStack ⟨(Nat.le_of_ble_eq_true rfl), (Nat.le_of_ble_eq_true rfl)⟩) hx hb hml hown hn hK hSK hZ hS mw_1251 mw_s138 (ci := 4) (q0 := 0) rfl rfl rfl rfl hl.1 (Nat.le_of_ble_eq_true rfl) dX7_useMemory_50 ⟨(Nat.le_of_ble_eq_true rfl), (Nat.le_of_ble_eq_true rfl)⟩) hP hD hS hA rfl rfl (by decide) (by decide) (by decide) (Nat.le_of_ble_eq_true rfl) (Nat.le_of_ble_eq_true rfl) (fun r50_1 u50_2 H locs hp50_3 hP hD hS => ?_)
    obtain ⟨hp50_4, hp50_5⟩ := hp50_3
    have hp50_4 : rg r50_1 0 1 := hp50_4
    have hp50_5 : r50_1.toInt = 1 → 131072 ≤ z40_1.toInt ∧ z40_1.toInt ≤ 131136 - r47_1.toInt := hp50_5
    have hP : va_P D vwCl [(m0s, .inl (ct 0, 64, .inl g_m0s)), (k0, .inr (6, [.ref k0c, .ref k0l, .int x_k0_2])), (k0l, .inl (ct 1, 16, .inl g_k0l)), (k0c, .inl (ct 0, 4096, .inl g_k0c)), (m0r, .inl (ct 2, 32, .inr (.inl g_m0r))), (m0, .inr (4, [.ref m0r, .ref m0s, .ref k0, .int x_m0_3, .int x_m0_4, .int x_m0_5, .int x_m0_6, .int x_m0_7, .long x_m0_8, .int x_m0_9]))] _ := hP
    have hD : va_D A [(m0s, .inl (ct 0, 64, .inl g_m0s)), (k0, .inr (6, [.ref k0c, .ref k0l, .int x_k0_2])), (k0l, .inl (ct 1, 16, .inl g_k0l)), (k0c, .inl (ct 0, 4096, .inl g_k0c)), (m0r, .inl (ct 2, 32, .inr (.inl g_m0r))), (m0, .inr (4, [.ref m0r, .ref m0s, .ref k0, .int x_m0_3, .int x_m0_4, .int x_m0_5, .int x_m0_6, .int x_m0_7, .long x_m0_8, .int x_m0_9]))] := hD
    refine lv_if_ne (tgt := 65) hx hb dX7_useMemory_53 (by decide) (fun c53_1 => ?_) (fun c53_1 => ?_)
    · have t53_2 := (i_ne c53_1)
      have r53_3 : rg r50_1 1 1 := rg_neAl t53_2 hp50_4 (show rg (0 : Int32) 0 0 from rg_l (by decide)) (by decide)
      refine lv_iload hx hb dX7_useMemory_65 (lv_at hl 5 rfl) ?_
      refine lv_if_eq (tgt := 91) hx hb dX7_useMemory_67 (by decide) (fun c67_1 => ?_) (fun c67_1 => ?_)
      · have t67_2 := (i_eq c67_1)
        have r67_3 : rg r6_1 0 0 := rg_eqA t67_2 hp6_4 (show rg (0 : Int32) 0 0 from rg_l (by decide)) (by decide)
        refine lv_aload_n hx hb dX7_useMemory_91 rfl (lv_at hl 3 rfl) ?_
        refine lv_lload hx hb dX7_useMemory_92 (lv_at hl 0 rfl) ?_
        refine lv_iload_n hx hb dX7_useMemory_94 rfl (lv_at hl 4 rfl) ?_
        refine go_i (k1 := 0) (n1 := 0) (wr := [(m0s, .inl (ct 0, 64, .inl g_m0s)), (k0, .inr (6, [.ref k0c, .ref k0l, .int x_k0_2])), (k0l, .inl (ct 1, 16, .inl g_k0l)), (k0c, .inl (ct 0, 4096, .inl g_k0c)), (m0r, .inl (ct 2, 32, .inr (.inl g_m0r))), (m0, .inr (4, [.ref m0r, .ref m0s, .ref k0, .int x_m0_3, .int x_m0_4, .int x_m0_5, .int x_m0_6, .int x_m0_7, .long x_m0_8, .int x_m0_9]))]) [] [0, 1, 2, 3, 4, 5] (rn_S (As := [.int r1_1]) (rest := [.long z40_1, .ref m0]) (c_X7_sizeOf l D ct r1_1  _) (cb_of (n := 1) hn mw_1150 mw_7 mw_1237 mhX7_sizeOf ⟨(Nat.le_of_ble_eq_true rfl), (Nat.le_of_ble_eq_true rfl)⟩) hx hb hml hown hn hK hSK hZ hS mw_1149 rfl hl.1 (Nat.le_of_ble_eq_true rfl) dX7_useMemory_95 ⟨(Nat.le_of_ble_eq_true rfl), (Nat.le_of_ble_eq_true rfl)⟩) hP hD hS hA rfl rfl (by decide) (by decide) (by decide) (Nat.le_of_ble_eq_true rfl) (Nat.le_of_ble_eq_true rfl) (fun r95_1 u95_2 H locs hp95_3 hP hD hS => ?_)
        have hp95_4 := hp95_3
        have hp95_4 : rg r95_1 1 8 := hp95_4
        have hP : va_P D vwCl [(m0s, .inl (ct 0, 64, .inl g_m0s)), (k0, .inr (6, [.ref k0c, .ref k0l, .int x_k0_2])), (k0l, .inl (ct 1, 16, .inl g_k0l)), (k0c, .inl (ct 0, 4096, .inl g_k0c)), (m0r, .inl (ct 2, 32, .inr (.inl g_m0r))), (m0, .inr (4, [.ref m0r, .ref m0s, .ref k0, .int x_m0_3, .int x_m0_4, .int x_m0_5, .int x_m0_6, .int x_m0_7, .long x_m0_8, .int x_m0_9]))] _ := hP
        have hD : va_D A [(m0s, .inl (ct 0, 64, .inl g_m0s)), (k0, .inr (6, [.ref k0c, .ref k0l, .int x_k0_2])), (k0l, .inl (ct 1, 16, .inl g_k0l)), (k0c, .inl (ct 0, 4096, .inl g_k0c)), (m0r, .inl (ct 2, 32, .inr (.inl g_m0r))), (m0, .inr (4, [.ref m0r, .ref m0s, .ref k0, .int x_m0_3, .int x_m0_4, .int x_m0_5, .int x_m0_6, .int x_m0_7, .long x_m0_8, .int x_m0_9]))] := hD
        refine lv_lload_n hx hb dX7_useMemory_98 rfl (lv_at hl 2 rfl) ?_
        refine lv_aload_n hx hb dX7_useMemory_99 rfl (lv_at hl 3 rfl) ?_
        refine go_l (k1 := 0) (n1 := 0) (wr := [(m0s, .inl (ct 0, 64, .inl g_m0s)), (k0, .inr (6, [.ref k0c, .ref k0l, .int x_k0_2])), (k0l, .inl (ct 1, 16, .inl g_k0l)), (k0c, .inl (ct 0, 4096, .inl g_k0c))]) [5, 4] [0, 1, 2, 3] (rn_S (As := [.long v0, .ref m0]) (rest := [.int r95_1, .long z40_1, .ref m0]) (c_X7_sideOf l D ct v0 m0 m0r m0s k0 x_m0_3 x_m0_4 x_m0_5 x_m0_6 x_m0_7 x_m0_8 x_m0_9 g_m0r h_x_m0_9 _) (cb_of (n := 2) hn mw_1228 mw_7 mw_1226 mhX7_sideOf ⟨(Nat.le_of_ble_eq_true rfl), (Nat.le_of_ble_eq_true rfl)⟩) hx hb hml hown hn hK hSK hZ hS mw_1227 rfl hl.1 (Nat.le_of_ble_eq_true rfl) dX7_useMemory_100 ⟨(Nat.le_of_ble_eq_true rfl), (Nat.le_of_ble_eq_true rfl)⟩) hP hD hS hA rfl rfl (by decide) (by decide) (by decide) (Nat.le_of_ble_eq_true rfl) (Nat.le_of_ble_eq_true rfl) (fun r100_1 u100_2 H locs hp100_3 hP hD hS => ?_)
        have hP : va_P D vwCl [(m0s, .inl (ct 0, 64, .inl g_m0s)), (k0, .inr (6, [.ref k0c, .ref k0l, .int x_k0_2])), (k0l, .inl (ct 1, 16, .inl g_k0l)), (k0c, .inl (ct 0, 4096, .inl g_k0c)), (m0, .inr (4, [.ref m0r, .ref m0s, .ref k0, .int x_m0_3, .int x_m0_4, .int x_m0_5, .int x_m0_6, .int x_m0_7, .long x_m0_8, .int x_m0_9])), (m0r, .inl (ct 2, 32, .inr (.inl g_m0r)))] _ := hP
        have hD : va_D A [(m0s, .inl (ct 0, 64, .inl g_m0s)), (k0, .inr (6, [.ref k0c, .ref k0l, .int x_k0_2])), (k0l, .inl (ct 1, 16, .inl g_k0l)), (k0c, .inl (ct 0, 4096, .inl g_k0c)), (m0, .inr (4, [.ref m0r, .ref m0s, .ref k0, .int x_m0_3, .int x_m0_4, .int x_m0_5, .int x_m0_6, .int x_m0_7, .long x_m0_8, .int x_m0_9])), (m0r, .inl (ct 2, 32, .inr (.inl g_m0r)))] := hD
        refine go_v (k1 := 0) (n1 := 0) (wr := [(k0, .inr (6, [.ref k0c, .ref k0l, .int x_k0_2])), (k0l, .inl (ct 1, 16, .inl g_k0l)), (k0c, .inl (ct 0, 4096, .inl g_k0c)), (m0r, .inl (ct 2, 32, .inr (.inl g_m0r)))]) [4, 0] [1, 2, 3, 5] (rn_VN (As := [.long z40_1, .int r95_1, .long r100_1]) (rest := []) (c_X4_store l D ct m0 z40_1 r95_1 r100_1 m0r m0s k0 x_m0_3 x_m0_4 x_m0_5 x_m0_6 x_m0_7 x_m0_8 x_m0_9 g_m0s (rg_w hp95_4 (by decide)) h_x_m0_9 h_g_m0s _) (cn_of (n := 3) hn mw_1276 mw_4 mw_1273 mhX4_store ⟨(Nat.le_of_ble_eq_true rfl), (Nat.le_of_ble_eq_true rfl)⟩) hx hb hml hown hn hK hSK hZ hS mw_1275 mw_s142 (ci := 4) (q0 := 0) rfl rfl rfl rfl hl.1 (Nat.le_of_ble_eq_true rfl) dX7_useMemory_103 ⟨(Nat.le_of_ble_eq_true rfl), (Nat.le_of_ble_eq_true rfl)⟩) hP hD hS hA rfl rfl (by decide) (by decide) (by decide) (Nat.le_of_ble_eq_true rfl) (Nat.le_of_ble_eq_true rfl) (fun u103_2 H locs hp103_3 hP hD hS => ?_)
        have hp103_4 := hp103_3
        have hP : va_P D vwCl [(k0, .inr (6, [.ref k0c, .ref k0l, .int x_k0_2])), (k0l, .inl (ct 1, 16, .inl g_k0l)), (k0c, .inl (ct 0, 4096, .inl g_k0c)), (m0r, .inl (ct 2, 32, .inr (.inl g_m0r))), (m0, .inr (4, [.ref m0r, .ref m0s, .ref k0, .int x_m0_3, .int x_m0_4, .int x_m0_5, .int x_m0_6, .int x_m0_7, .long x_m0_8, .int x_m0_9])), (m0s, .inl (ct 0, 64, .inl u103_2))] _ := hP
        have hD : va_D A [(k0, .inr (6, [.ref k0c, .ref k0l, .int x_k0_2])), (k0l, .inl (ct 1, 16, .inl g_k0l)), (k0c, .inl (ct 0, 4096, .inl g_k0c)), (m0r, .inl (ct 2, 32, .inr (.inl g_m0r))), (m0, .inr (4, [.ref m0r, .ref m0s, .ref k0, .int x_m0_3, .int x_m0_4, .int x_m0_5, .int x_m0_6, .int x_m0_7, .long x_m0_8, .int x_m0_9])), (m0s, .inl (ct 0, 64, .inl u103_2))] := hD
        exact endq_v hQ hx hb hr hlocks dX7_useMemory_106 (x_m0_5, x_m0_9, g_m0r, u103_2) ⟨h_x_m0_9, hp103_4⟩ hP hD hS [4, 3, 5, 0, 1, 2] rfl (by decide) rfl (Nat.le_of_ble_eq_true rfl) (Nat.le_of_ble_eq_true rfl)
      · have t67_2 := (i_ne c67_1)
        have r67_3 : rg r6_1 1 1 := rg_neAl t67_2 hp6_4 (show rg (0 : Int32) 0 0 from rg_l (by decide)) (by decide)
        refine lv_aload_n hx hb dX7_useMemory_70 rfl (lv_at hl 3 rfl) ?_
        refine lv_lload_n hx hb dX7_useMemory_71 rfl (lv_at hl 2 rfl) ?_
        refine go_i (k1 := 0) (n1 := 0) (wr := [(m0s, .inl (ct 0, 64, .inl g_m0s)), (k0, .inr (6, [.ref k0c, .ref k0l, .int x_k0_2])), (k0l, .inl (ct 1, 16, .inl g_k0l)), (k0c, .inl (ct 0, 4096, .inl g_k0c)), (m0r, .inl (ct 2, 32, .inr (.inl g_m0r))), (m0, .inr (4, [.ref m0r, .ref m0s, .ref k0, .int x_m0_3, .int x_m0_4, .int x_m0_5, .int x_m0_6, .int x_m0_7, .long x_m0_8, .int x_m0_9]))]) [] [0, 1, 2, 3, 4, 5] (rn_S (As := [.long v0]) (rest := [.ref m0]) (c_X7_dOf l D ct v0  _) (cb_of (n := 1) hn mw_986 mw_7 mw_984 mhX7_dOf ⟨(Nat.le_of_ble_eq_true rfl), (Nat.le_of_ble_eq_true rfl)⟩) hx hb hml hown hn hK hSK hZ hS mw_985 rfl hl.1 (Nat.le_of_ble_eq_true rfl) dX7_useMemory_72 ⟨(Nat.le_of_ble_eq_true rfl), (Nat.le_of_ble_eq_true rfl)⟩) hP hD hS hA rfl rfl (by decide) (by decide) (by decide) (Nat.le_of_ble_eq_true rfl) (Nat.le_of_ble_eq_true rfl) (fun r72_1 u72_2 H locs hp72_3 hP hD hS => ?_)
        obtain ⟨hp72_4, hp72_5⟩ := hp72_3
        have hp72_4 : rg r72_1 0 15 := hp72_4
        have hp72_5 : r72_1.toInt = (v0.toInt / 256) % 16 := hp72_5
        have hP : va_P D vwCl [(m0s, .inl (ct 0, 64, .inl g_m0s)), (k0, .inr (6, [.ref k0c, .ref k0l, .int x_k0_2])), (k0l, .inl (ct 1, 16, .inl g_k0l)), (k0c, .inl (ct 0, 4096, .inl g_k0c)), (m0r, .inl (ct 2, 32, .inr (.inl g_m0r))), (m0, .inr (4, [.ref m0r, .ref m0s, .ref k0, .int x_m0_3, .int x_m0_4, .int x_m0_5, .int x_m0_6, .int x_m0_7, .long x_m0_8, .int x_m0_9]))] _ := hP
        have hD : va_D A [(m0s, .inl (ct 0, 64, .inl g_m0s)), (k0, .inr (6, [.ref k0c, .ref k0l, .int x_k0_2])), (k0l, .inl (ct 1, 16, .inl g_k0l)), (k0c, .inl (ct 0, 4096, .inl g_k0c)), (m0r, .inl (ct 2, 32, .inr (.inl g_m0r))), (m0, .inr (4, [.ref m0r, .ref m0s, .ref k0, .int x_m0_3, .int x_m0_4, .int x_m0_5, .int x_m0_6, .int x_m0_7, .long x_m0_8, .int x_m0_9]))] := hD
        refine lv_aload_n hx hb dX7_useMemory_75 rfl (lv_at hl 3 rfl) ?_
        refine lv_lload hx hb dX7_useMemory_76 (lv_at hl 0 rfl) ?_
        refine lv_iload_n hx hb dX7_useMemory_78 rfl (lv_at hl 4 rfl) ?_
        refine go_i (k1 := 0) (n1 := 0) (wr := [(m0s, .inl (ct 0, 64, .inl g_m0s)), (k0, .inr (6, [.ref k0c, .ref k0l, .int x_k0_2])), (k0l, .inl (ct 1, 16, .inl g_k0l)), (k0c, .inl (ct 0, 4096, .inl g_k0c)), (m0r, .inl (ct 2, 32, .inr (.inl g_m0r))), (m0, .inr (4, [.ref m0r, .ref m0s, .ref k0, .int x_m0_3, .int x_m0_4, .int x_m0_5, .int x_m0_6, .int x_m0_7, .long x_m0_8, .int x_m0_9]))]) [] [0, 1, 2, 3, 4, 5] (rn_S (As := [.int r1_1]) (rest := [.long z40_1, .ref m0, .int r72_1, .ref m0]) (c_X7_sizeOf l D ct r1_1  _) (cb_of (n := 1) hn mw_1150 mw_7 mw_1237 mhX7_sizeOf ⟨(Nat.le_of_ble_eq_true rfl), (Nat.le_of_ble_eq_true rfl)⟩) hx hb hml hown hn hK hSK hZ hS mw_1149 rfl hl.1 (Nat.le_of_ble_eq_true rfl) dX7_useMemory_79 ⟨(Nat.le_of_ble_eq_true rfl), (Nat.le_of_ble_eq_true rfl)⟩) hP hD hS hA rfl rfl (by decide) (by decide) (by decide) (Nat.le_of_ble_eq_true rfl) (Nat.le_of_ble_eq_true rfl) (fun r79_1 u79_2 H locs hp79_3 hP hD hS => ?_)
        have hp79_4 := hp79_3
        have hp79_4 : rg r79_1 1 8 := hp79_4
        have hP : va_P D vwCl [(m0s, .inl (ct 0, 64, .inl g_m0s)), (k0, .inr (6, [.ref k0c, .ref k0l, .int x_k0_2])), (k0l, .inl (ct 1, 16, .inl g_k0l)), (k0c, .inl (ct 0, 4096, .inl g_k0c)), (m0r, .inl (ct 2, 32, .inr (.inl g_m0r))), (m0, .inr (4, [.ref m0r, .ref m0s, .ref k0, .int x_m0_3, .int x_m0_4, .int x_m0_5, .int x_m0_6, .int x_m0_7, .long x_m0_8, .int x_m0_9]))] _ := hP
        have hD : va_D A [(m0s, .inl (ct 0, 64, .inl g_m0s)), (k0, .inr (6, [.ref k0c, .ref k0l, .int x_k0_2])), (k0l, .inl (ct 1, 16, .inl g_k0l)), (k0c, .inl (ct 0, 4096, .inl g_k0c)), (m0r, .inl (ct 2, 32, .inr (.inl g_m0r))), (m0, .inr (4, [.ref m0r, .ref m0s, .ref k0, .int x_m0_3, .int x_m0_4, .int x_m0_5, .int x_m0_6, .int x_m0_7, .long x_m0_8, .int x_m0_9]))] := hD
        refine go_l (k1 := 0) (n1 := 0) (wr := [(m0r, .inl (ct 2, 32, .inr (.inl g_m0r)))]) [5, 1, 2, 3, 0] [4] (rn_VN (As := [.long z40_1, .int r79_1]) (rest := [.int r72_1, .ref m0]) (c_X4_load8 l D ct m0 z40_1 r79_1 m0r m0s k0 x_m0_3 x_m0_4 x_m0_5 x_m0_6 x_m0_7 x_m0_8 x_m0_9 k0c k0l x_k0_2 g_k0l g_k0c g_m0s (rg_w hp79_4 (by decide)) h_x_m0_9 h_x_k0_2 h_g_k0l h_g_k0c h_g_m0s _) (cn_of (n := 2) hn mw_1258 mw_4 mw_1255 mhX4_load8 ⟨(Nat.le_of_ble_eq_true rfl), (Nat.le_of_ble_eq_true rfl)⟩) hx hb hml hown hn hK hSK hZ hS mw_1257 mw_s139 (ci := 4) (q0 := 0) rfl rfl rfl rfl hl.1 (Nat.le_of_ble_eq_true rfl) dX7_useMemory_82 ⟨(Nat.le_of_ble_eq_true rfl), (Nat.le_of_ble_eq_true rfl)⟩) hP hD hS hA rfl rfl (by decide) (by decide) (by decide) (Nat.le_of_ble_eq_true rfl) (Nat.le_of_ble_eq_true rfl) (fun r82_1 u82_2 H locs hp82_3 hP hD hS => ?_)
        have hP : va_P D vwCl [(m0r, .inl (ct 2, 32, .inr (.inl g_m0r))), (m0, .inr (4, [.ref m0r, .ref m0s, .ref k0, .int x_m0_3, .int x_m0_4, .int x_m0_5, .int x_m0_6, .int x_m0_7, .long x_m0_8, .int x_m0_9])), (k0, .inr (6, [.ref k0c, .ref k0l, .int x_k0_2])), (k0l, .inl (ct 1, 16, .inl g_k0l)), (k0c, .inl (ct 0, 4096, .inl g_k0c)), (m0s, .inl (ct 0, 64, .inl g_m0s))] _ := hP
        have hD : va_D A [(m0r, .inl (ct 2, 32, .inr (.inl g_m0r))), (m0, .inr (4, [.ref m0r, .ref m0s, .ref k0, .int x_m0_3, .int x_m0_4, .int x_m0_5, .int x_m0_6, .int x_m0_7, .long x_m0_8, .int x_m0_9])), (k0, .inr (6, [.ref k0c, .ref k0l, .int x_k0_2])), (k0l, .inl (ct 1, 16, .inl g_k0l)), (k0c, .inl (ct 0, 4096, .inl g_k0c)), (m0s, .inl (ct 0, 64, .inl g_m0s))] := hD
        refine go_v (k1 := 0) (n1 := 0) (wr := [(k0, .inr (6, [.ref k0c, .ref k0l, .int x_k0_2])), (k0l, .inl (ct 1, 16, .inl g_k0l)), (k0c, .inl (ct 0, 4096, .inl g_k0c)), (m0s, .inl (ct 0, 64, .inl g_m0s))]) [1, 0] [2, 3, 4, 5] (rn_VN (As := [.int r72_1, .long r82_1]) (rest := []) (c_X4_set l D ct m0 r72_1 r82_1 m0r m0s k0 x_m0_3 x_m0_4 x_m0_5 x_m0_6 x_m0_7 x_m0_8 x_m0_9 g_m0r h_x_m0_9 _) (cn_of (n := 2) hn mw_1209 mw_4 mw_1206 mhX4_set ⟨(Nat.le_of_ble_eq_true rfl), (Nat.le_of_ble_eq_true rfl)⟩) hx hb hml hown hn hK hSK hZ hS mw_1208 mw_s132 (ci := 4) (q0 := 0) rfl rfl rfl rfl hl.1 (Nat.le_of_ble_eq_true rfl) dX7_useMemory_85 ⟨(Nat.le_of_ble_eq_true rfl), (Nat.le_of_ble_eq_true rfl)⟩) hP hD hS hA rfl rfl (by decide) (by decide) (by decide) (Nat.le_of_ble_eq_true rfl) (Nat.le_of_ble_eq_true rfl) (fun u85_2 H locs hp85_3 hP hD hS => ?_)
        have hP : va_P D vwCl [(k0, .inr (6, [.ref k0c, .ref k0l, .int x_k0_2])), (k0l, .inl (ct 1, 16, .inl g_k0l)), (k0c, .inl (ct 0, 4096, .inl g_k0c)), (m0s, .inl (ct 0, 64, .inl g_m0s)), (m0, .inr (4, [.ref m0r, .ref m0s, .ref k0, .int x_m0_3, .int x_m0_4, .int x_m0_5, .int x_m0_6, .int x_m0_7, .long x_m0_8, .int x_m0_9])), (m0r, .inl (ct 2, 32, .inr (.inl u85_2)))] _ := hP
        have hD : va_D A [(k0, .inr (6, [.ref k0c, .ref k0l, .int x_k0_2])), (k0l, .inl (ct 1, 16, .inl g_k0l)), (k0c, .inl (ct 0, 4096, .inl g_k0c)), (m0s, .inl (ct 0, 64, .inl g_m0s)), (m0, .inr (4, [.ref m0r, .ref m0s, .ref k0, .int x_m0_3, .int x_m0_4, .int x_m0_5, .int x_m0_6, .int x_m0_7, .long x_m0_8, .int x_m0_9])), (m0r, .inl (ct 2, 32, .inr (.inl u85_2)))] := hD
        refine lv_goto (tgt := 106) hx hb dX7_useMemory_88 (by decide) ?_
        exact endq_v hQ hx hb hr hlocks dX7_useMemory_106 (x_m0_5, x_m0_9, u85_2, g_m0s) ⟨h_x_m0_9, h_g_m0s⟩ hP hD hS [4, 5, 3, 0, 1, 2] rfl (by decide) rfl (Nat.le_of_ble_eq_true rfl) (Nat.le_of_ble_eq_true rfl)
    · have t53_2 := (i_eq c53_1)
      have r53_3 : rg r50_1 0 0 := rg_eqA t53_2 hp50_4 (show rg (0 : Int32) 0 0 from rg_l (by decide)) (by decide)
      refine lv_aload_n hx hb dX7_useMemory_56 rfl (lv_at hl 3 rfl) ?_
      refine lv_bipush (v := 7) hx hb dX7_useMemory_57 (by decide) ?_
      refine go_v (k1 := 0) (n1 := 0) (wr := [(m0s, .inl (ct 0, 64, .inl g_m0s)), (k0, .inr (6, [.ref k0c, .ref k0l, .int x_k0_2])), (k0l, .inl (ct 1, 16, .inl g_k0l)), (k0c, .inl (ct 0, 4096, .inl g_k0c)), (m0r, .inl (ct 2, 32, .inr (.inl g_m0r)))]) [5] [0, 1, 2, 3, 4] (rn_VN (As := [.int 7]) (rest := []) (c_X4_stop l D ct m0 (7 : Int32) m0r m0s k0 x_m0_3 x_m0_4 x_m0_5 x_m0_6 x_m0_7 x_m0_8 x_m0_9 h_x_m0_9 _) (cn_of (n := 1) hn mw_1214 mw_4 mw_1211 mhX4_stop ⟨(Nat.le_of_ble_eq_true rfl), (Nat.le_of_ble_eq_true rfl)⟩) hx hb hml hown hn hK hSK hZ hS mw_1213 mw_s133 (ci := 4) (q0 := 0) rfl rfl rfl rfl hl.1 (Nat.le_of_ble_eq_true rfl) dX7_useMemory_59 ⟨(Nat.le_of_ble_eq_true rfl), (Nat.le_of_ble_eq_true rfl)⟩) hP hD hS hA rfl rfl (by decide) (by decide) (by decide) (Nat.le_of_ble_eq_true rfl) (Nat.le_of_ble_eq_true rfl) (fun u59_2 H locs hp59_3 hP hD hS => ?_)
      have hp59_4 := hp59_3
      have hp59_4 : u59_2.toInt = (7 : Int32).toInt := hp59_4
      have hP : va_P D vwCl [(m0s, .inl (ct 0, 64, .inl g_m0s)), (k0, .inr (6, [.ref k0c, .ref k0l, .int x_k0_2])), (k0l, .inl (ct 1, 16, .inl g_k0l)), (k0c, .inl (ct 0, 4096, .inl g_k0c)), (m0r, .inl (ct 2, 32, .inr (.inl g_m0r))), (m0, .inr (4, [.ref m0r, .ref m0s, .ref k0, .int x_m0_3, .int x_m0_4, .int u59_2, .int x_m0_6, .int x_m0_7, .long x_m0_8, .int 1]))] _ := hP
      have hD : va_D A [(m0s, .inl (ct 0, 64, .inl g_m0s)), (k0, .inr (6, [.ref k0c, .ref k0l, .int x_k0_2])), (k0l, .inl (ct 1, 16, .inl g_k0l)), (k0c, .inl (ct 0, 4096, .inl g_k0c)), (m0r, .inl (ct 2, 32, .inr (.inl g_m0r))), (m0, .inr (4, [.ref m0r, .ref m0s, .ref k0, .int x_m0_3, .int x_m0_4, .int u59_2, .int x_m0_6, .int x_m0_7, .long x_m0_8, .int 1]))] := hD
      refine lv_goto (tgt := 106) hx hb dX7_useMemory_62 (by decide) ?_
      exact endq_v hQ hx hb hr hlocks dX7_useMemory_106 (u59_2, (1 : Int32), g_m0r, g_m0s) ⟨(rg_w (show rg (1 : Int32) 1 1 from rg_l (by decide)) (by decide)), h_g_m0s⟩ hP hD hS [5, 4, 0, 1, 2, 3] rfl (by decide) rfl (Nat.le_of_ble_eq_true rfl) (Nat.le_of_ble_eq_true rfl)
  refine lv_if_eq (tgt := 23) hx hb dX7_useMemory_13 (by decide) (fun c13_1 => ?_) (fun c13_1 => ?_)
  · have t13_2 := (i_eq c13_1)
    have r13_3 : rg r6_1 0 0 := rg_eqA t13_2 hp6_4 (show rg (0 : Int32) 0 0 from rg_l (by decide)) (by decide)
    refine lv_lload_n hx hb dX7_useMemory_23 rfl (lv_at hl 2 rfl) ?_
    refine go_i (k1 := 0) (n1 := 0) (wr := [(m0, .inr (4, [.ref m0r, .ref m0s, .ref k0, .int x_m0_3, .int x_m0_4, .int x_m0_5, .int x_m0_6, .int x_m0_7, .long x_m0_8, .int x_m0_9])), (m0r, .inl (ct 2, 32, .inr (.inl g_m0r))), (m0s, .inl (ct 0, 64, .inl g_m0s)), (k0, .inr (6, [.ref k0c, .ref k0l, .int x_k0_2])), (k0l, .inl (ct 1, 16, .inl g_k0l)), (k0c, .inl (ct 0, 4096, .inl g_k0c))]) [] [0, 1, 2, 3, 4, 5] (rn_S (As := [.long v0]) (rest := []) (c_X7_dOf l D ct v0  _) (cb_of (n := 1) hn mw_986 mw_7 mw_984 mhX7_dOf ⟨(Nat.le_of_ble_eq_true rfl), (Nat.le_of_ble_eq_true rfl)⟩) hx hb hml hown hn hK hSK hZ hS mw_985 rfl hl.1 (Nat.le_of_ble_eq_true rfl) dX7_useMemory_24 ⟨(Nat.le_of_ble_eq_true rfl), (Nat.le_of_ble_eq_true rfl)⟩) hP hD hS hA rfl rfl (by decide) (by decide) (by decide) (Nat.le_of_ble_eq_true rfl) (Nat.le_of_ble_eq_true rfl) (fun r24_1 u24_2 H locs hp24_3 hP hD hS => ?_)
    obtain ⟨hp24_4, hp24_5⟩ := hp24_3
    have hp24_4 : rg r24_1 0 15 := hp24_4
    have hp24_5 : r24_1.toInt = (v0.toInt / 256) % 16 := hp24_5
    have hP : va_P D vwCl [(m0, .inr (4, [.ref m0r, .ref m0s, .ref k0, .int x_m0_3, .int x_m0_4, .int x_m0_5, .int x_m0_6, .int x_m0_7, .long x_m0_8, .int x_m0_9])), (m0r, .inl (ct 2, 32, .inr (.inl g_m0r))), (m0s, .inl (ct 0, 64, .inl g_m0s)), (k0, .inr (6, [.ref k0c, .ref k0l, .int x_k0_2])), (k0l, .inl (ct 1, 16, .inl g_k0l)), (k0c, .inl (ct 0, 4096, .inl g_k0c))] _ := hP
    have hD : va_D A [(m0, .inr (4, [.ref m0r, .ref m0s, .ref k0, .int x_m0_3, .int x_m0_4, .int x_m0_5, .int x_m0_6, .int x_m0_7, .long x_m0_8, .int x_m0_9])), (m0r, .inl (ct 2, 32, .inr (.inl g_m0r))), (m0s, .inl (ct 0, 64, .inl g_m0s)), (k0, .inr (6, [.ref k0c, .ref k0l, .int x_k0_2])), (k0l, .inl (ct 1, 16, .inl g_k0l)), (k0c, .inl (ct 0, 4096, .inl g_k0c))] := hD
    exact b27 r24_1 H locs ls hp24_4 (lv_sub hl [2, 3, 1, 0] rfl) hP hD hS
  · have t13_2 := (i_ne c13_1)
    have r13_3 : rg r6_1 1 1 := rg_neAl t13_2 hp6_4 (show rg (0 : Int32) 0 0 from rg_l (by decide)) (by decide)
    refine lv_lload_n hx hb dX7_useMemory_16 rfl (lv_at hl 2 rfl) ?_
    refine go_i (k1 := 0) (n1 := 0) (wr := [(m0, .inr (4, [.ref m0r, .ref m0s, .ref k0, .int x_m0_3, .int x_m0_4, .int x_m0_5, .int x_m0_6, .int x_m0_7, .long x_m0_8, .int x_m0_9])), (m0r, .inl (ct 2, 32, .inr (.inl g_m0r))), (m0s, .inl (ct 0, 64, .inl g_m0s)), (k0, .inr (6, [.ref k0c, .ref k0l, .int x_k0_2])), (k0l, .inl (ct 1, 16, .inl g_k0l)), (k0c, .inl (ct 0, 4096, .inl g_k0c))]) [] [0, 1, 2, 3, 4, 5] (rn_S (As := [.long v0]) (rest := []) (c_X7_sOf l D ct v0  _) (cb_of (n := 1) hn mw_989 mw_7 mw_987 mhX7_sOf ⟨(Nat.le_of_ble_eq_true rfl), (Nat.le_of_ble_eq_true rfl)⟩) hx hb hml hown hn hK hSK hZ hS mw_988 rfl hl.1 (Nat.le_of_ble_eq_true rfl) dX7_useMemory_17 ⟨(Nat.le_of_ble_eq_true rfl), (Nat.le_of_ble_eq_true rfl)⟩) hP hD hS hA rfl rfl (by decide) (by decide) (by decide) (Nat.le_of_ble_eq_true rfl) (Nat.le_of_ble_eq_true rfl) (fun r17_1 u17_2 H locs hp17_3 hP hD hS => ?_)
    obtain ⟨hp17_4, hp17_5⟩ := hp17_3
    have hp17_4 : rg r17_1 0 15 := hp17_4
    have hp17_5 : r17_1.toInt = (v0.toInt / 4096) % 16 := hp17_5
    have hP : va_P D vwCl [(m0, .inr (4, [.ref m0r, .ref m0s, .ref k0, .int x_m0_3, .int x_m0_4, .int x_m0_5, .int x_m0_6, .int x_m0_7, .long x_m0_8, .int x_m0_9])), (m0r, .inl (ct 2, 32, .inr (.inl g_m0r))), (m0s, .inl (ct 0, 64, .inl g_m0s)), (k0, .inr (6, [.ref k0c, .ref k0l, .int x_k0_2])), (k0l, .inl (ct 1, 16, .inl g_k0l)), (k0c, .inl (ct 0, 4096, .inl g_k0c))] _ := hP
    have hD : va_D A [(m0, .inr (4, [.ref m0r, .ref m0s, .ref k0, .int x_m0_3, .int x_m0_4, .int x_m0_5, .int x_m0_6, .int x_m0_7, .long x_m0_8, .int x_m0_9])), (m0r, .inl (ct 2, 32, .inr (.inl g_m0r))), (m0s, .inl (ct 0, 64, .inl g_m0s)), (k0, .inr (6, [.ref k0c, .ref k0l, .int x_k0_2])), (k0l, .inl (ct 1, 16, .inl g_k0l)), (k0c, .inl (ct 0, 4096, .inl g_k0c))] := hD
    refine lv_goto (tgt := 27) hx hb dX7_useMemory_20 (by decide) ?_
    exact b27 r17_1 H locs ls hp17_4 (lv_sub hl [2, 3, 1, 0] rfl) hP hD hS
set_option maxHeartbeats 2000000 in
theorem c_X7_step (l : Launch) (D : va_G) (ct : Nat → ClassId) (p0 : Nat) (m0 : Nat) (p0r : Nat) (x_p0_1 : Int32) (m0r : Nat) (m0s : Nat) (k0 : Nat) (x_m0_3 : Int32) (x_m0_4 : Int32) (x_m0_5 : Int32) (x_m0_6 : Int32) (x_m0_7 : Int32) (x_m0_8 : Int64) (x_m0_9 : Int32) (g_p0r : Nat → Int64) (g_m0r : Nat → Int64) (g_m0s : Nat → Int32) (k0c : Nat) (k0l : Nat) (x_k0_2 : Int32) (g_k0l : Nat → Int32) (g_k0c : Nat → Int32) (h_x_p0_1 : rg x_p0_1 0 4000) (h_x_m0_9 : rg x_m0_9 0 1) (h_g_m0s : Rg g_m0s 64 (-128) 127) (h_x_k0_2 : rg x_k0_2 0 16) (h_g_k0l : Rg g_k0l 16 0 256) (h_g_k0c : Rg g_k0c 4096 (-128) 127) : KV (S := Int32 × Int64 × Int32 × (Nat → Int64) × (Nat → Int32)) l yX7_step cX7_step 7 none 6 141 D ct [.ref p0, .ref m0] [(p0, .inr (7, [.ref p0r, .int x_p0_1])), (m0, .inr (4, [.ref m0r, .ref m0s, .ref k0, .int x_m0_3, .int x_m0_4, .int x_m0_5, .int x_m0_6, .int x_m0_7, .long x_m0_8, .int x_m0_9])), (p0r, .inl (ct 2, 4000, .inr (.inl g_p0r))), (m0r, .inl (ct 2, 32, .inr (.inl g_m0r))), (m0s, .inl (ct 0, 64, .inl g_m0s)), (k0, .inr (6, [.ref k0c, .ref k0l, .int x_k0_2])), (k0l, .inl (ct 1, 16, .inl g_k0l)), (k0c, .inl (ct 0, 4096, .inl g_k0c))] 0 0 (fun (u : Int32 × Int64 × Int32 × (Nat → Int64) × (Nat → Int32)) => match u with | (y_m0_5, y_m0_8, y_m0_9, k_m0r, k_m0s) => rg y_m0_9 0 1 ∧ Rg k_m0s 64 (-128) 127) (fun (u : Int32 × Int64 × Int32 × (Nat → Int64) × (Nat → Int32)) => match u with | (y_m0_5, y_m0_8, y_m0_9, k_m0r, k_m0s) => [(p0, .inr (7, [.ref p0r, .int x_p0_1])), (m0, .inr (4, [.ref m0r, .ref m0s, .ref k0, .int x_m0_3, .int x_m0_4, .int y_m0_5, .int x_m0_6, .int x_m0_7, .long y_m0_8, .int y_m0_9])), (p0r, .inl (ct 2, 4000, .inr (.inl g_p0r))), (m0r, .inl (ct 2, 32, .inr (.inl k_m0r))), (m0s, .inl (ct 0, 64, .inl k_m0s)), (k0, .inr (6, [.ref k0c, .ref k0l, .int x_k0_2])), (k0l, .inl (ct 1, 16, .inl g_k0l)), (k0c, .inl (ct 0, 4096, .inl g_k0c))]) := by
  refine KVq_of (by decide) (Nat.le_of_ble_eq_true rfl) (fun p e s m below meth c A Q C0 hA H locs hS hP hD hQ ls hl => ?_)
  obtain ⟨hx, hb, hr, hown, hin, hml, hlocks, hn, hK, hZ, hSK⟩ := C0
  have hl : lv_has ls 7 [(0, .ref p0), (1, .ref m0)] := hl
  refine lv_aload_n hx hb dX7_step_0 rfl (lv_at hl 0 rfl) ?_
  refine lv_aload_n hx hb dX7_step_1 rfl (lv_at hl 1 rfl) ?_
  refine va_getN (D := D) (ci := 4) (v := .int x_m0_7) (C := RX4) (T := TX4) (N := 10) hx hb (htX4 hn) (fun _ h => h) hown hK hP 1 rfl rfl 7 (by decide) (hn.get mw_95 rfl) (fun _ h9 => h9) rfl dX7_step_2 ?_
  refine go_l (k1 := 0) (n1 := 0) (wr := [(m0, .inr (4, [.ref m0r, .ref m0s, .ref k0, .int x_m0_3, .int x_m0_4, .int x_m0_5, .int x_m0_6, .int x_m0_7, .long x_m0_8, .int x_m0_9])), (m0r, .inl (ct 2, 32, .inr (.inl g_m0r))), (m0s, .inl (ct 0, 64, .inl g_m0s)), (k0, .inr (6, [.ref k0c, .ref k0l, .int x_k0_2])), (k0l, .inl (ct 1, 16, .inl g_k0l)), (k0c, .inl (ct 0, 4096, .inl g_k0c))]) [0, 2] [1, 3, 4, 5, 6, 7] (rn_V (As := [.int x_m0_7]) (rest := []) (c_X7_at l D ct p0 x_m0_7 p0r x_p0_1 g_p0r h_x_p0_1 _) (cb_of (n := 1) hn mw_937 mw_7 mw_1219 mhX7_at ⟨(Nat.le_of_ble_eq_true rfl), (Nat.le_of_ble_eq_true rfl)⟩) hx hb hml hown hn hK hSK hZ hS mw_936 mw_s92 (ci := 7) (q0 := 0) rfl rfl rfl rfl hl.1 (Nat.le_of_ble_eq_true rfl) dX7_step_5 ⟨(Nat.le_of_ble_eq_true rfl), (Nat.le_of_ble_eq_true rfl)⟩) hP hD hS hA rfl rfl (by decide) (by decide) (by decide) (Nat.le_of_ble_eq_true rfl) (Nat.le_of_ble_eq_true rfl) (fun r5_1 u5_2 H locs hp5_3 hP hD hS => ?_)
  have hp5_4 := hp5_3
  have hp5_4 : 0 ≤ x_m0_7.toInt ∧ x_m0_7.toInt < x_p0_1.toInt → r5_1.toInt = (g_p0r x_m0_7.toNatClampNeg).toInt := hp5_4
  have hP : va_P D vwCl [(m0, .inr (4, [.ref m0r, .ref m0s, .ref k0, .int x_m0_3, .int x_m0_4, .int x_m0_5, .int x_m0_6, .int x_m0_7, .long x_m0_8, .int x_m0_9])), (m0r, .inl (ct 2, 32, .inr (.inl g_m0r))), (m0s, .inl (ct 0, 64, .inl g_m0s)), (k0, .inr (6, [.ref k0c, .ref k0l, .int x_k0_2])), (k0l, .inl (ct 1, 16, .inl g_k0l)), (k0c, .inl (ct 0, 4096, .inl g_k0c)), (p0, .inr (7, [.ref p0r, .int x_p0_1])), (p0r, .inl (ct 2, 4000, .inr (.inl g_p0r)))] _ := hP
  have hD : va_D A [(m0, .inr (4, [.ref m0r, .ref m0s, .ref k0, .int x_m0_3, .int x_m0_4, .int x_m0_5, .int x_m0_6, .int x_m0_7, .long x_m0_8, .int x_m0_9])), (m0r, .inl (ct 2, 32, .inr (.inl g_m0r))), (m0s, .inl (ct 0, 64, .inl g_m0s)), (k0, .inr (6, [.ref k0c, .ref k0l, .int x_k0_2])), (k0l, .inl (ct 1, 16, .inl g_k0l)), (k0c, .inl (ct 0, 4096, .inl g_k0c)), (p0, .inr (7, [.ref p0r, .int x_p0_1])), (p0r, .inl (ct 2, 4000, .inr (.inl g_p0r)))] := hD
  refine lv_lstore_n (lv' := [(2, .long r5_1), (0, .ref p0), (1, .ref m0)]) hx hb dX7_step_8 rfl hl (by decide) rfl (fun ls hl => ?_)
  refine lv_lload_n hx hb dX7_step_9 rfl (lv_at hl 0 rfl) ?_
  refine go_i (k1 := 0) (n1 := 0) (wr := [(m0, .inr (4, [.ref m0r, .ref m0s, .ref k0, .int x_m0_3, .int x_m0_4, .int x_m0_5, .int x_m0_6, .int x_m0_7, .long x_m0_8, .int x_m0_9])), (m0r, .inl (ct 2, 32, .inr (.inl g_m0r))), (m0s, .inl (ct 0, 64, .inl g_m0s)), (k0, .inr (6, [.ref k0c, .ref k0l, .int x_k0_2])), (k0l, .inl (ct 1, 16, .inl g_k0l)), (k0c, .inl (ct 0, 4096, .inl g_k0c)), (p0, .inr (7, [.ref p0r, .int x_p0_1])), (p0r, .inl (ct 2, 4000, .inr (.inl g_p0r)))]) [] [0, 1, 2, 3, 4, 5, 6, 7] (rn_S (As := [.long r5_1]) (rest := []) (c_X7_codeOf l D ct r5_1  _) (cb_of (n := 1) hn mw_956 mw_7 mw_954 mhX7_codeOf ⟨(Nat.le_of_ble_eq_true rfl), (Nat.le_of_ble_eq_true rfl)⟩) hx hb hml hown hn hK hSK hZ hS mw_955 rfl hl.1 (Nat.le_of_ble_eq_true rfl) dX7_step_10 ⟨(Nat.le_of_ble_eq_true rfl), (Nat.le_of_ble_eq_true rfl)⟩) hP hD hS hA rfl rfl (by decide) (by decide) (by decide) (Nat.le_of_ble_eq_true rfl) (Nat.le_of_ble_eq_true rfl) (fun r10_1 u10_2 H locs hp10_3 hP hD hS => ?_)
  obtain ⟨hp10_4, hp10_5⟩ := hp10_3
  have hp10_4 : rg r10_1 0 255 := hp10_4
  have hp10_5 : r10_1.toInt = r5_1.toInt % 256 := hp10_5
  have hP : va_P D vwCl [(m0, .inr (4, [.ref m0r, .ref m0s, .ref k0, .int x_m0_3, .int x_m0_4, .int x_m0_5, .int x_m0_6, .int x_m0_7, .long x_m0_8, .int x_m0_9])), (m0r, .inl (ct 2, 32, .inr (.inl g_m0r))), (m0s, .inl (ct 0, 64, .inl g_m0s)), (k0, .inr (6, [.ref k0c, .ref k0l, .int x_k0_2])), (k0l, .inl (ct 1, 16, .inl g_k0l)), (k0c, .inl (ct 0, 4096, .inl g_k0c)), (p0, .inr (7, [.ref p0r, .int x_p0_1])), (p0r, .inl (ct 2, 4000, .inr (.inl g_p0r)))] _ := hP
  have hD : va_D A [(m0, .inr (4, [.ref m0r, .ref m0s, .ref k0, .int x_m0_3, .int x_m0_4, .int x_m0_5, .int x_m0_6, .int x_m0_7, .long x_m0_8, .int x_m0_9])), (m0r, .inl (ct 2, 32, .inr (.inl g_m0r))), (m0s, .inl (ct 0, 64, .inl g_m0s)), (k0, .inr (6, [.ref k0c, .ref k0l, .int x_k0_2])), (k0l, .inl (ct 1, 16, .inl g_k0l)), (k0c, .inl (ct 0, 4096, .inl g_k0c)), (p0, .inr (7, [.ref p0r, .int x_p0_1])), (p0r, .inl (ct 2, 4000, .inr (.inl g_p0r)))] := hD
  refine lv_istore (lv' := [(4, .int r10_1), (2, .long r5_1), (0, .ref p0), (1, .ref m0)]) hx hb dX7_step_13 hl (by decide) rfl (fun ls hl => ?_)
  refine lv_lload_n hx hb dX7_step_15 rfl (lv_at hl 1 rfl) ?_
  refine go_i (k1 := 0) (n1 := 0) (wr := [(m0, .inr (4, [.ref m0r, .ref m0s, .ref k0, .int x_m0_3, .int x_m0_4, .int x_m0_5, .int x_m0_6, .int x_m0_7, .long x_m0_8, .int x_m0_9])), (m0r, .inl (ct 2, 32, .inr (.inl g_m0r))), (m0s, .inl (ct 0, 64, .inl g_m0s)), (k0, .inr (6, [.ref k0c, .ref k0l, .int x_k0_2])), (k0l, .inl (ct 1, 16, .inl g_k0l)), (k0c, .inl (ct 0, 4096, .inl g_k0c)), (p0, .inr (7, [.ref p0r, .int x_p0_1])), (p0r, .inl (ct 2, 4000, .inr (.inl g_p0r)))]) [] [0, 1, 2, 3, 4, 5, 6, 7] (rn_S (As := [.long r5_1]) (rest := []) (c_X7_exists l D ct r5_1  _) (cb_of (n := 1) hn mw_953 mw_7 mw_1220 mhX7_exists ⟨(Nat.le_of_ble_eq_true rfl), (Nat.le_of_ble_eq_true rfl)⟩) hx hb hml hown hn hK hSK hZ hS mw_952 rfl hl.1 (Nat.le_of_ble_eq_true rfl) dX7_step_16 ⟨(Nat.le_of_ble_eq_true rfl), (Nat.le_of_ble_eq_true rfl)⟩) hP hD hS hA rfl rfl (by decide) (by decide) (by decide) (Nat.le_of_ble_eq_true rfl) (Nat.le_of_ble_eq_true rfl) (fun r16_1 u16_2 H locs hp16_3 hP hD hS => ?_)
  obtain ⟨hp16_4, hp16_5, hp16_6⟩ := hp16_3
  have hp16_4 : rg r16_1 0 1 := hp16_4
  have hp16_5 : r16_1.toInt = 1 → (r5_1.toInt % 8 = 7 ∨ r5_1.toInt % 8 = 4) → r5_1.toInt % 256 ≤ 207 := hp16_5
  have hp16_6 : r16_1.toInt = 1 → (r5_1.toInt / 256) % 16 ≤ 10 ∧ (r5_1.toInt / 4096) % 16 ≤ 10 := hp16_6
  have hP : va_P D vwCl [(m0, .inr (4, [.ref m0r, .ref m0s, .ref k0, .int x_m0_3, .int x_m0_4, .int x_m0_5, .int x_m0_6, .int x_m0_7, .long x_m0_8, .int x_m0_9])), (m0r, .inl (ct 2, 32, .inr (.inl g_m0r))), (m0s, .inl (ct 0, 64, .inl g_m0s)), (k0, .inr (6, [.ref k0c, .ref k0l, .int x_k0_2])), (k0l, .inl (ct 1, 16, .inl g_k0l)), (k0c, .inl (ct 0, 4096, .inl g_k0c)), (p0, .inr (7, [.ref p0r, .int x_p0_1])), (p0r, .inl (ct 2, 4000, .inr (.inl g_p0r)))] _ := hP
  have hD : va_D A [(m0, .inr (4, [.ref m0r, .ref m0s, .ref k0, .int x_m0_3, .int x_m0_4, .int x_m0_5, .int x_m0_6, .int x_m0_7, .long x_m0_8, .int x_m0_9])), (m0r, .inl (ct 2, 32, .inr (.inl g_m0r))), (m0s, .inl (ct 0, 64, .inl g_m0s)), (k0, .inr (6, [.ref k0c, .ref k0l, .int x_k0_2])), (k0l, .inl (ct 1, 16, .inl g_k0l)), (k0c, .inl (ct 0, 4096, .inl g_k0c)), (p0, .inr (7, [.ref p0r, .int x_p0_1])), (p0r, .inl (ct 2, 4000, .inr (.inl g_p0r)))] := hD
  refine lv_if_ne (tgt := 30) hx hb dX7_step_19 (by decide) (fun c19_1 => ?_) (fun c19_1 => ?_)
  · have t19_2 := (i_ne c19_1)
    have r19_3 : rg r16_1 1 1 := rg_neAl t19_2 hp16_4 (show rg (0 : Int32) 0 0 from rg_l (by decide)) (by decide)
    refine lv_iload hx hb dX7_step_30 (lv_at hl 0 rfl) ?_
    refine go_i (k1 := 0) (n1 := 0) (wr := [(m0, .inr (4, [.ref m0r, .ref m0s, .ref k0, .int x_m0_3, .int x_m0_4, .int x_m0_5, .int x_m0_6, .int x_m0_7, .long x_m0_8, .int x_m0_9])), (m0r, .inl (ct 2, 32, .inr (.inl g_m0r))), (m0s, .inl (ct 0, 64, .inl g_m0s)), (k0, .inr (6, [.ref k0c, .ref k0l, .int x_k0_2])), (k0l, .inl (ct 1, 16, .inl g_k0l)), (k0c, .inl (ct 0, 4096, .inl g_k0c)), (p0, .inr (7, [.ref p0r, .int x_p0_1])), (p0r, .inl (ct 2, 4000, .inr (.inl g_p0r)))]) [] [0, 1, 2, 3, 4, 5, 6, 7] (rn_S (As := [.int r10_1]) (rest := []) (c_X7_isOp l D ct r10_1  _) (cb_of (n := 1) hn mw_962 mw_7 mw_960 mhX7_isOp ⟨(Nat.le_of_ble_eq_true rfl), (Nat.le_of_ble_eq_true rfl)⟩) hx hb hml hown hn hK hSK hZ hS mw_961 rfl hl.1 (Nat.le_of_ble_eq_true rfl) dX7_step_32 ⟨(Nat.le_of_ble_eq_true rfl), (Nat.le_of_ble_eq_true rfl)⟩) hP hD hS hA rfl rfl (by decide) (by decide) (by decide) (Nat.le_of_ble_eq_true rfl) (Nat.le_of_ble_eq_true rfl) (fun r32_1 u32_2 H locs hp32_3 hP hD hS => ?_)
    obtain ⟨hp32_4, hp32_5, hp32_6⟩ := hp32_3
    have hp32_4 : rg r32_1 0 1 := hp32_4
    have hp32_5 : r32_1.toInt = 1 → r10_1.toInt % 8 = 7 ∨ r10_1.toInt % 8 = 4 := hp32_5
    have hp32_6 : r32_1.toInt = 0 → ¬ (r10_1.toInt % 8 = 7 ∨ r10_1.toInt % 8 = 4) := hp32_6
    have hP : va_P D vwCl [(m0, .inr (4, [.ref m0r, .ref m0s, .ref k0, .int x_m0_3, .int x_m0_4, .int x_m0_5, .int x_m0_6, .int x_m0_7, .long x_m0_8, .int x_m0_9])), (m0r, .inl (ct 2, 32, .inr (.inl g_m0r))), (m0s, .inl (ct 0, 64, .inl g_m0s)), (k0, .inr (6, [.ref k0c, .ref k0l, .int x_k0_2])), (k0l, .inl (ct 1, 16, .inl g_k0l)), (k0c, .inl (ct 0, 4096, .inl g_k0c)), (p0, .inr (7, [.ref p0r, .int x_p0_1])), (p0r, .inl (ct 2, 4000, .inr (.inl g_p0r)))] _ := hP
    have hD : va_D A [(m0, .inr (4, [.ref m0r, .ref m0s, .ref k0, .int x_m0_3, .int x_m0_4, .int x_m0_5, .int x_m0_6, .int x_m0_7, .long x_m0_8, .int x_m0_9])), (m0r, .inl (ct 2, 32, .inr (.inl g_m0r))), (m0s, .inl (ct 0, 64, .inl g_m0s)), (k0, .inr (6, [.ref k0c, .ref k0l, .int x_k0_2])), (k0l, .inl (ct 1, 16, .inl g_k0l)), (k0c, .inl (ct 0, 4096, .inl g_k0c)), (p0, .inr (7, [.ref p0r, .int x_p0_1])), (p0r, .inl (ct 2, 4000, .inr (.inl g_p0r)))] := hD
    refine lv_if_eq (tgt := 76) hx hb dX7_step_35 (by decide) (fun c35_1 => ?_) (fun c35_1 => ?_)
    · have t35_2 := (i_eq c35_1)
      have r35_3 : rg r32_1 0 0 := rg_eqA t35_2 hp32_4 (show rg (0 : Int32) 0 0 from rg_l (by decide)) (by decide)
      refine lv_iload hx hb dX7_step_76 (lv_at hl 0 rfl) ?_
      refine lv_sipush (v := 149) hx hb dX7_step_78 (by decide) ?_
      refine lv_icmp_ne (tgt := 92) hx hb dX7_step_81 (by decide) (fun c81_1 => ?_) (fun c81_1 => ?_)
      · have t81_2 := (i_ne c81_1)
        refine lv_iload hx hb dX7_step_92 (lv_at hl 0 rfl) ?_
        refine go_i (k1 := 0) (n1 := 0) (wr := [(m0, .inr (4, [.ref m0r, .ref m0s, .ref k0, .int x_m0_3, .int x_m0_4, .int x_m0_5, .int x_m0_6, .int x_m0_7, .long x_m0_8, .int x_m0_9])), (m0r, .inl (ct 2, 32, .inr (.inl g_m0r))), (m0s, .inl (ct 0, 64, .inl g_m0s)), (k0, .inr (6, [.ref k0c, .ref k0l, .int x_k0_2])), (k0l, .inl (ct 1, 16, .inl g_k0l)), (k0c, .inl (ct 0, 4096, .inl g_k0c)), (p0, .inr (7, [.ref p0r, .int x_p0_1])), (p0r, .inl (ct 2, 4000, .inr (.inl g_p0r)))]) [] [0, 1, 2, 3, 4, 5, 6, 7] (rn_S (As := [.int r10_1]) (rest := []) (c_X7_isJump l D ct r10_1  _) (cb_of (n := 1) hn mw_971 mw_7 mw_969 mhX7_isJump ⟨(Nat.le_of_ble_eq_true rfl), (Nat.le_of_ble_eq_true rfl)⟩) hx hb hml hown hn hK hSK hZ hS mw_970 rfl hl.1 (Nat.le_of_ble_eq_true rfl) dX7_step_94 ⟨(Nat.le_of_ble_eq_true rfl), (Nat.le_of_ble_eq_true rfl)⟩) hP hD hS hA rfl rfl (by decide) (by decide) (by decide) (Nat.le_of_ble_eq_true rfl) (Nat.le_of_ble_eq_true rfl) (fun r94_1 u94_2 H locs hp94_3 hP hD hS => ?_)
        have hp94_4 := hp94_3
        have hp94_4 : rg r94_1 0 1 := hp94_4
        have hP : va_P D vwCl [(m0, .inr (4, [.ref m0r, .ref m0s, .ref k0, .int x_m0_3, .int x_m0_4, .int x_m0_5, .int x_m0_6, .int x_m0_7, .long x_m0_8, .int x_m0_9])), (m0r, .inl (ct 2, 32, .inr (.inl g_m0r))), (m0s, .inl (ct 0, 64, .inl g_m0s)), (k0, .inr (6, [.ref k0c, .ref k0l, .int x_k0_2])), (k0l, .inl (ct 1, 16, .inl g_k0l)), (k0c, .inl (ct 0, 4096, .inl g_k0c)), (p0, .inr (7, [.ref p0r, .int x_p0_1])), (p0r, .inl (ct 2, 4000, .inr (.inl g_p0r)))] _ := hP
        have hD : va_D A [(m0, .inr (4, [.ref m0r, .ref m0s, .ref k0, .int x_m0_3, .int x_m0_4, .int x_m0_5, .int x_m0_6, .int x_m0_7, .long x_m0_8, .int x_m0_9])), (m0r, .inl (ct 2, 32, .inr (.inl g_m0r))), (m0s, .inl (ct 0, 64, .inl g_m0s)), (k0, .inr (6, [.ref k0c, .ref k0l, .int x_k0_2])), (k0l, .inl (ct 1, 16, .inl g_k0l)), (k0c, .inl (ct 0, 4096, .inl g_k0c)), (p0, .inr (7, [.ref p0r, .int x_p0_1])), (p0r, .inl (ct 2, 4000, .inr (.inl g_p0r)))] := hD
        refine lv_if_eq (tgt := 152) hx hb dX7_step_97 (by decide) (fun c97_1 => ?_) (fun c97_1 => ?_)
        · have t97_2 := (i_eq c97_1)
          have r97_3 : rg r94_1 0 0 := rg_eqA t97_2 hp94_4 (show rg (0 : Int32) 0 0 from rg_l (by decide)) (by decide)
          refine lv_iload hx hb dX7_step_152 (lv_at hl 0 rfl) ?_
          refine go_i (k1 := 0) (n1 := 0) (wr := [(m0, .inr (4, [.ref m0r, .ref m0s, .ref k0, .int x_m0_3, .int x_m0_4, .int x_m0_5, .int x_m0_6, .int x_m0_7, .long x_m0_8, .int x_m0_9])), (m0r, .inl (ct 2, 32, .inr (.inl g_m0r))), (m0s, .inl (ct 0, 64, .inl g_m0s)), (k0, .inr (6, [.ref k0c, .ref k0l, .int x_k0_2])), (k0l, .inl (ct 1, 16, .inl g_k0l)), (k0c, .inl (ct 0, 4096, .inl g_k0c)), (p0, .inr (7, [.ref p0r, .int x_p0_1])), (p0r, .inl (ct 2, 4000, .inr (.inl g_p0r)))]) [] [0, 1, 2, 3, 4, 5, 6, 7] (rn_S (As := [.int r10_1]) (rest := []) (c_X7_isRead l D ct r10_1  _) (cb_of (n := 1) hn mw_983 mw_7 mw_981 mhX7_isRead ⟨(Nat.le_of_ble_eq_true rfl), (Nat.le_of_ble_eq_true rfl)⟩) hx hb hml hown hn hK hSK hZ hS mw_982 rfl hl.1 (Nat.le_of_ble_eq_true rfl) dX7_step_154 ⟨(Nat.le_of_ble_eq_true rfl), (Nat.le_of_ble_eq_true rfl)⟩) hP hD hS hA rfl rfl (by decide) (by decide) (by decide) (Nat.le_of_ble_eq_true rfl) (Nat.le_of_ble_eq_true rfl) (fun r154_1 u154_2 H locs hp154_3 hP hD hS => ?_)
          have hp154_4 := hp154_3
          have hp154_4 : rg r154_1 0 1 := hp154_4
          have hP : va_P D vwCl [(m0, .inr (4, [.ref m0r, .ref m0s, .ref k0, .int x_m0_3, .int x_m0_4, .int x_m0_5, .int x_m0_6, .int x_m0_7, .long x_m0_8, .int x_m0_9])), (m0r, .inl (ct 2, 32, .inr (.inl g_m0r))), (m0s, .inl (ct 0, 64, .inl g_m0s)), (k0, .inr (6, [.ref k0c, .ref k0l, .int x_k0_2])), (k0l, .inl (ct 1, 16, .inl g_k0l)), (k0c, .inl (ct 0, 4096, .inl g_k0c)), (p0, .inr (7, [.ref p0r, .int x_p0_1])), (p0r, .inl (ct 2, 4000, .inr (.inl g_p0r)))] _ := hP
          have hD : va_D A [(m0, .inr (4, [.ref m0r, .ref m0s, .ref k0, .int x_m0_3, .int x_m0_4, .int x_m0_5, .int x_m0_6, .int x_m0_7, .long x_m0_8, .int x_m0_9])), (m0r, .inl (ct 2, 32, .inr (.inl g_m0r))), (m0s, .inl (ct 0, 64, .inl g_m0s)), (k0, .inr (6, [.ref k0c, .ref k0l, .int x_k0_2])), (k0l, .inl (ct 1, 16, .inl g_k0l)), (k0c, .inl (ct 0, 4096, .inl g_k0c)), (p0, .inr (7, [.ref p0r, .int x_p0_1])), (p0r, .inl (ct 2, 4000, .inr (.inl g_p0r)))] := hD
          refine lv_if_eq (tgt := 168) hx hb dX7_step_157 (by decide) (fun c157_1 => ?_) (fun c157_1 => ?_)
          · have t157_2 := (i_eq c157_1)
            have r157_3 : rg r154_1 0 0 := rg_eqA t157_2 hp154_4 (show rg (0 : Int32) 0 0 from rg_l (by decide)) (by decide)
            refine lv_lload_n hx hb dX7_step_168 rfl (lv_at hl 1 rfl) ?_
            refine lv_aload_n hx hb dX7_step_169 rfl (lv_at hl 3 rfl) ?_
            refine go_v (k1 := 0) (n1 := 0) (wr := [(p0, .inr (7, [.ref p0r, .int x_p0_1])), (p0r, .inl (ct 2, 4000, .inr (.inl g_p0r)))]) [0, 1, 2, 3, 4, 5] [6, 7] (rn_S (As := [.long r5_1, .ref m0]) (rest := []) (c_X7_useMemory l D ct r5_1 m0 m0r m0s k0 x_m0_3 x_m0_4 x_m0_5 x_m0_6 x_m0_7 x_m0_8 x_m0_9 g_m0r g_m0s k0c k0l x_k0_2 g_k0l g_k0c h_x_m0_9 h_g_m0s h_x_k0_2 h_g_k0l h_g_k0c _) (cb_of (n := 2) hn mw_1248 mw_7 mw_1246 mhX7_useMemory ⟨(Nat.le_of_ble_eq_true rfl), (Nat.le_of_ble_eq_true rfl)⟩) hx hb hml hown hn hK hSK hZ hS mw_1247 rfl hl.1 (Nat.le_of_ble_eq_true rfl) dX7_step_170 ⟨(Nat.le_of_ble_eq_true rfl), (Nat.le_of_ble_eq_true rfl)⟩) hP hD hS hA rfl rfl (by decide) (by decide) (by decide) (Nat.le_of_ble_eq_true rfl) (Nat.le_of_ble_eq_true rfl) (fun u170_2 H locs hp170_3 hP hD hS => ?_)
            obtain ⟨y_m0_5170_4, y_m0_9170_5, k_m0r170_6, k_m0s170_7⟩ := u170_2
            obtain ⟨hp170_8, hp170_9⟩ := hp170_3
            have hp170_8 : rg y_m0_9170_5 0 1 := hp170_8
            have hP : va_P D vwCl [(p0, .inr (7, [.ref p0r, .int x_p0_1])), (p0r, .inl (ct 2, 4000, .inr (.inl g_p0r))), (m0, .inr (4, [.ref m0r, .ref m0s, .ref k0, .int x_m0_3, .int x_m0_4, .int y_m0_5170_4, .int x_m0_6, .int x_m0_7, .long x_m0_8, .int y_m0_9170_5])), (m0r, .inl (ct 2, 32, .inr (.inl k_m0r170_6))), (m0s, .inl (ct 0, 64, .inl k_m0s170_7)), (k0, .inr (6, [.ref k0c, .ref k0l, .int x_k0_2])), (k0l, .inl (ct 1, 16, .inl g_k0l)), (k0c, .inl (ct 0, 4096, .inl g_k0c))] _ := hP
            have hD : va_D A [(p0, .inr (7, [.ref p0r, .int x_p0_1])), (p0r, .inl (ct 2, 4000, .inr (.inl g_p0r))), (m0, .inr (4, [.ref m0r, .ref m0s, .ref k0, .int x_m0_3, .int x_m0_4, .int y_m0_5170_4, .int x_m0_6, .int x_m0_7, .long x_m0_8, .int y_m0_9170_5])), (m0r, .inl (ct 2, 32, .inr (.inl k_m0r170_6))), (m0s, .inl (ct 0, 64, .inl k_m0s170_7)), (k0, .inr (6, [.ref k0c, .ref k0l, .int x_k0_2])), (k0l, .inl (ct 1, 16, .inl g_k0l)), (k0c, .inl (ct 0, 4096, .inl g_k0c))] := hD
            exact endq_v hQ hx hb hr hlocks dX7_step_173 (y_m0_5170_4, x_m0_8, y_m0_9170_5, k_m0r170_6, k_m0s170_7) ⟨hp170_8, hp170_9⟩ hP hD hS [0, 2, 1, 3, 4, 5, 6, 7] rfl (by decide) rfl (Nat.le_of_ble_eq_true rfl) (Nat.le_of_ble_eq_true rfl)
          · have t157_2 := (i_ne c157_1)
            have r157_3 : rg r154_1 1 1 := rg_neAl t157_2 hp154_4 (show rg (0 : Int32) 0 0 from rg_l (by decide)) (by decide)
            refine lv_lload_n hx hb dX7_step_160 rfl (lv_at hl 1 rfl) ?_
            refine lv_aload_n hx hb dX7_step_161 rfl (lv_at hl 3 rfl) ?_
            refine go_v (k1 := 0) (n1 := 0) (wr := [(m0s, .inl (ct 0, 64, .inl g_m0s)), (p0, .inr (7, [.ref p0r, .int x_p0_1])), (p0r, .inl (ct 2, 4000, .inr (.inl g_p0r)))]) [0, 1, 3, 4, 5] [2, 6, 7] (rn_S (As := [.long r5_1, .ref m0]) (rest := []) (c_X7_readPacket l D ct r5_1 m0 m0r m0s k0 x_m0_3 x_m0_4 x_m0_5 x_m0_6 x_m0_7 x_m0_8 x_m0_9 g_m0r k0c k0l x_k0_2 g_k0l g_k0c h_x_m0_9 h_x_k0_2 h_g_k0l h_g_k0c _) (cb_of (n := 2) hn mw_1235 mw_7 mw_1233 mhX7_readPacket ⟨(Nat.le_of_ble_eq_true rfl), (Nat.le_of_ble_eq_true rfl)⟩) hx hb hml hown hn hK hSK hZ hS mw_1234 rfl hl.1 (Nat.le_of_ble_eq_true rfl) dX7_step_162 ⟨(Nat.le_of_ble_eq_true rfl), (Nat.le_of_ble_eq_true rfl)⟩) hP hD hS hA rfl rfl (by decide) (by decide) (by decide) (Nat.le_of_ble_eq_true rfl) (Nat.le_of_ble_eq_true rfl) (fun u162_2 H locs hp162_3 hP hD hS => ?_)
            obtain ⟨y_m0_9162_4, k_m0r162_5⟩ := u162_2
            have hp162_6 := hp162_3
            have hp162_6 : rg y_m0_9162_4 0 1 := hp162_6
            have hP : va_P D vwCl [(m0s, .inl (ct 0, 64, .inl g_m0s)), (p0, .inr (7, [.ref p0r, .int x_p0_1])), (p0r, .inl (ct 2, 4000, .inr (.inl g_p0r))), (m0, .inr (4, [.ref m0r, .ref m0s, .ref k0, .int x_m0_3, .int x_m0_4, .int x_m0_5, .int x_m0_6, .int x_m0_7, .long x_m0_8, .int y_m0_9162_4])), (m0r, .inl (ct 2, 32, .inr (.inl k_m0r162_5))), (k0, .inr (6, [.ref k0c, .ref k0l, .int x_k0_2])), (k0l, .inl (ct 1, 16, .inl g_k0l)), (k0c, .inl (ct 0, 4096, .inl g_k0c))] _ := hP
            have hD : va_D A [(m0s, .inl (ct 0, 64, .inl g_m0s)), (p0, .inr (7, [.ref p0r, .int x_p0_1])), (p0r, .inl (ct 2, 4000, .inr (.inl g_p0r))), (m0, .inr (4, [.ref m0r, .ref m0s, .ref k0, .int x_m0_3, .int x_m0_4, .int x_m0_5, .int x_m0_6, .int x_m0_7, .long x_m0_8, .int y_m0_9162_4])), (m0r, .inl (ct 2, 32, .inr (.inl k_m0r162_5))), (k0, .inr (6, [.ref k0c, .ref k0l, .int x_k0_2])), (k0l, .inl (ct 1, 16, .inl g_k0l)), (k0c, .inl (ct 0, 4096, .inl g_k0c))] := hD
            refine lv_goto (tgt := 173) hx hb dX7_step_165 (by decide) ?_
            exact endq_v hQ hx hb hr hlocks dX7_step_173 (x_m0_5, x_m0_8, y_m0_9162_4, k_m0r162_5, g_m0s) ⟨hp162_6, h_g_m0s⟩ hP hD hS [1, 3, 2, 4, 0, 5, 6, 7] rfl (by decide) rfl (Nat.le_of_ble_eq_true rfl) (Nat.le_of_ble_eq_true rfl)
        · have t97_2 := (i_ne c97_1)
          have r97_3 : rg r94_1 1 1 := rg_neAl t97_2 hp94_4 (show rg (0 : Int32) 0 0 from rg_l (by decide)) (by decide)
          refine lv_aload_n hx hb dX7_step_100 rfl (lv_at hl 3 rfl) ?_
          refine lv_lload_n hx hb dX7_step_101 rfl (lv_at hl 1 rfl) ?_
          refine go_i (k1 := 0) (n1 := 0) (wr := [(m0, .inr (4, [.ref m0r, .ref m0s, .ref k0, .int x_m0_3, .int x_m0_4, .int x_m0_5, .int x_m0_6, .int x_m0_7, .long x_m0_8, .int x_m0_9])), (m0r, .inl (ct 2, 32, .inr (.inl g_m0r))), (m0s, .inl (ct 0, 64, .inl g_m0s)), (k0, .inr (6, [.ref k0c, .ref k0l, .int x_k0_2])), (k0l, .inl (ct 1, 16, .inl g_k0l)), (k0c, .inl (ct 0, 4096, .inl g_k0c)), (p0, .inr (7, [.ref p0r, .int x_p0_1])), (p0r, .inl (ct 2, 4000, .inr (.inl g_p0r)))]) [] [0, 1, 2, 3, 4, 5, 6, 7] (rn_S (As := [.long r5_1]) (rest := [.ref m0]) (c_X7_dOf l D ct r5_1  _) (cb_of (n := 1) hn mw_986 mw_7 mw_984 mhX7_dOf ⟨(Nat.le_of_ble_eq_true rfl), (Nat.le_of_ble_eq_true rfl)⟩) hx hb hml hown hn hK hSK hZ hS mw_985 rfl hl.1 (Nat.le_of_ble_eq_true rfl) dX7_step_102 ⟨(Nat.le_of_ble_eq_true rfl), (Nat.le_of_ble_eq_true rfl)⟩) hP hD hS hA rfl rfl (by decide) (by decide) (by decide) (Nat.le_of_ble_eq_true rfl) (Nat.le_of_ble_eq_true rfl) (fun r102_1 u102_2 H locs hp102_3 hP hD hS => ?_)
          obtain ⟨hp102_4, hp102_5⟩ := hp102_3
          have hp102_4 : rg r102_1 0 15 := hp102_4
          have hp102_5 : r102_1.toInt = (r5_1.toInt / 256) % 16 := hp102_5
          have hP : va_P D vwCl [(m0, .inr (4, [.ref m0r, .ref m0s, .ref k0, .int x_m0_3, .int x_m0_4, .int x_m0_5, .int x_m0_6, .int x_m0_7, .long x_m0_8, .int x_m0_9])), (m0r, .inl (ct 2, 32, .inr (.inl g_m0r))), (m0s, .inl (ct 0, 64, .inl g_m0s)), (k0, .inr (6, [.ref k0c, .ref k0l, .int x_k0_2])), (k0l, .inl (ct 1, 16, .inl g_k0l)), (k0c, .inl (ct 0, 4096, .inl g_k0c)), (p0, .inr (7, [.ref p0r, .int x_p0_1])), (p0r, .inl (ct 2, 4000, .inr (.inl g_p0r)))] _ := hP
          have hD : va_D A [(m0, .inr (4, [.ref m0r, .ref m0s, .ref k0, .int x_m0_3, .int x_m0_4, .int x_m0_5, .int x_m0_6, .int x_m0_7, .long x_m0_8, .int x_m0_9])), (m0r, .inl (ct 2, 32, .inr (.inl g_m0r))), (m0s, .inl (ct 0, 64, .inl g_m0s)), (k0, .inr (6, [.ref k0c, .ref k0l, .int x_k0_2])), (k0l, .inl (ct 1, 16, .inl g_k0l)), (k0c, .inl (ct 0, 4096, .inl g_k0c)), (p0, .inr (7, [.ref p0r, .int x_p0_1])), (p0r, .inl (ct 2, 4000, .inr (.inl g_p0r)))] := hD
          refine go_l (k1 := 0) (n1 := 0) (wr := [(m0s, .inl (ct 0, 64, .inl g_m0s)), (k0, .inr (6, [.ref k0c, .ref k0l, .int x_k0_2])), (k0l, .inl (ct 1, 16, .inl g_k0l)), (k0c, .inl (ct 0, 4096, .inl g_k0c)), (p0, .inr (7, [.ref p0r, .int x_p0_1])), (p0r, .inl (ct 2, 4000, .inr (.inl g_p0r)))]) [0, 1] [2, 3, 4, 5, 6, 7] (rn_VN (As := [.int r102_1]) (rest := []) (c_X4_get l D ct m0 r102_1 m0r m0s k0 x_m0_3 x_m0_4 x_m0_5 x_m0_6 x_m0_7 x_m0_8 x_m0_9 g_m0r h_x_m0_9 _) (cn_of (n := 1) hn mw_1225 mw_4 mw_1222 mhX4_get ⟨(Nat.le_of_ble_eq_true rfl), (Nat.le_of_ble_eq_true rfl)⟩) hx hb hml hown hn hK hSK hZ hS mw_1224 mw_s135 (ci := 4) (q0 := 0) rfl rfl rfl rfl hl.1 (Nat.le_of_ble_eq_true rfl) dX7_step_105 ⟨(Nat.le_of_ble_eq_true rfl), (Nat.le_of_ble_eq_true rfl)⟩) hP hD hS hA rfl rfl (by decide) (by decide) (by decide) (Nat.le_of_ble_eq_true rfl) (Nat.le_of_ble_eq_true rfl) (fun r105_1 u105_2 H locs hp105_3 hP hD hS => ?_)
          have hP : va_P D vwCl [(m0s, .inl (ct 0, 64, .inl g_m0s)), (k0, .inr (6, [.ref k0c, .ref k0l, .int x_k0_2])), (k0l, .inl (ct 1, 16, .inl g_k0l)), (k0c, .inl (ct 0, 4096, .inl g_k0c)), (p0, .inr (7, [.ref p0r, .int x_p0_1])), (p0r, .inl (ct 2, 4000, .inr (.inl g_p0r))), (m0, .inr (4, [.ref m0r, .ref m0s, .ref k0, .int x_m0_3, .int x_m0_4, .int x_m0_5, .int x_m0_6, .int x_m0_7, .long x_m0_8, .int x_m0_9])), (m0r, .inl (ct 2, 32, .inr (.inl g_m0r)))] _ := hP
          have hD : va_D A [(m0s, .inl (ct 0, 64, .inl g_m0s)), (k0, .inr (6, [.ref k0c, .ref k0l, .int x_k0_2])), (k0l, .inl (ct 1, 16, .inl g_k0l)), (k0c, .inl (ct 0, 4096, .inl g_k0c)), (p0, .inr (7, [.ref p0r, .int x_p0_1])), (p0r, .inl (ct 2, 4000, .inr (.inl g_p0r))), (m0, .inr (4, [.ref m0r, .ref m0s, .ref k0, .int x_m0_3, .int x_m0_4, .int x_m0_5, .int x_m0_6, .int x_m0_7, .long x_m0_8, .int x_m0_9])), (m0r, .inl (ct 2, 32, .inr (.inl g_m0r)))] := hD
          refine lv_lstore (lv' := [(5, .long r105_1), (4, .int r10_1), (2, .long r5_1), (0, .ref p0), (1, .ref m0)]) hx hb dX7_step_108 hl (by decide) rfl (fun ls hl => ?_)
          refine lv_iload hx hb dX7_step_110 (lv_at hl 1 rfl) ?_
          refine lv_iconst (v := 4) hx hb dX7_step_112 (by decide) ?_
          refine lv_ishr hx hb dX7_step_113 ?_
          refine lv_topi (fun z113_1 ez113_1 => ?_)
          have r113_2 : rg z113_1 0 15 := rg_shr (k := 4) ez113_1 (by decide) hp10_4 (by decide)
          refine lv_iload hx hb dX7_step_114 (lv_at hl 1 rfl) ?_
          refine go_i (k1 := 0) (n1 := 0) (wr := [(m0s, .inl (ct 0, 64, .inl g_m0s)), (k0, .inr (6, [.ref k0c, .ref k0l, .int x_k0_2])), (k0l, .inl (ct 1, 16, .inl g_k0l)), (k0c, .inl (ct 0, 4096, .inl g_k0c)), (p0, .inr (7, [.ref p0r, .int x_p0_1])), (p0r, .inl (ct 2, 4000, .inr (.inl g_p0r))), (m0, .inr (4, [.ref m0r, .ref m0s, .ref k0, .int x_m0_3, .int x_m0_4, .int x_m0_5, .int x_m0_6, .int x_m0_7, .long x_m0_8, .int x_m0_9])), (m0r, .inl (ct 2, 32, .inr (.inl g_m0r)))]) [] [0, 1, 2, 3, 4, 5, 6, 7] (rn_S (As := [.int r10_1]) (rest := [.int z113_1]) (c_X7_isWide l D ct r10_1  _) (cb_of (n := 1) hn mw_1062 mw_7 mw_1221 mhX7_isWide ⟨(Nat.le_of_ble_eq_true rfl), (Nat.le_of_ble_eq_true rfl)⟩) hx hb hml hown hn hK hSK hZ hS mw_1061 rfl hl.1 (Nat.le_of_ble_eq_true rfl) dX7_step_116 ⟨(Nat.le_of_ble_eq_true rfl), (Nat.le_of_ble_eq_true rfl)⟩) hP hD hS hA rfl rfl (by decide) (by decide) (by decide) (Nat.le_of_ble_eq_true rfl) (Nat.le_of_ble_eq_true rfl) (fun r116_1 u116_2 H locs hp116_3 hP hD hS => ?_)
          have hp116_4 := hp116_3
          have hp116_4 : rg r116_1 0 1 := hp116_4
          have hP : va_P D vwCl [(m0s, .inl (ct 0, 64, .inl g_m0s)), (k0, .inr (6, [.ref k0c, .ref k0l, .int x_k0_2])), (k0l, .inl (ct 1, 16, .inl g_k0l)), (k0c, .inl (ct 0, 4096, .inl g_k0c)), (p0, .inr (7, [.ref p0r, .int x_p0_1])), (p0r, .inl (ct 2, 4000, .inr (.inl g_p0r))), (m0, .inr (4, [.ref m0r, .ref m0s, .ref k0, .int x_m0_3, .int x_m0_4, .int x_m0_5, .int x_m0_6, .int x_m0_7, .long x_m0_8, .int x_m0_9])), (m0r, .inl (ct 2, 32, .inr (.inl g_m0r)))] _ := hP
          have hD : va_D A [(m0s, .inl (ct 0, 64, .inl g_m0s)), (k0, .inr (6, [.ref k0c, .ref k0l, .int x_k0_2])), (k0l, .inl (ct 1, 16, .inl g_k0l)), (k0c, .inl (ct 0, 4096, .inl g_k0c)), (p0, .inr (7, [.ref p0r, .int x_p0_1])), (p0r, .inl (ct 2, 4000, .inr (.inl g_p0r))), (m0, .inr (4, [.ref m0r, .ref m0s, .ref k0, .int x_m0_3, .int x_m0_4, .int x_m0_5, .int x_m0_6, .int x_m0_7, .long x_m0_8, .int x_m0_9])), (m0r, .inl (ct 2, 32, .inr (.inl g_m0r)))] := hD
          refine lv_lload hx hb dX7_step_119 (lv_at hl 0 rfl) ?_
          refine lv_lload_n hx hb dX7_step_121 rfl (lv_at hl 2 rfl) ?_
          refine lv_aload_n hx hb dX7_step_122 rfl (lv_at hl 4 rfl) ?_
          refine go_l (k1 := 0) (n1 := 0) (wr := [(m0s, .inl (ct 0, 64, .inl g_m0s)), (k0, .inr (6, [.ref k0c, .ref k0l, .int x_k0_2])), (k0l, .inl (ct 1, 16, .inl g_k0l)), (k0c, .inl (ct 0, 4096, .inl g_k0c)), (p0, .inr (7, [.ref p0r, .int x_p0_1])), (p0r, .inl (ct 2, 4000, .inr (.inl g_p0r)))]) [6, 7] [0, 1, 2, 3, 4, 5] (rn_S (As := [.long r5_1, .ref m0]) (rest := [.long r105_1, .int r116_1, .int z113_1]) (c_X7_sideOf l D ct r5_1 m0 m0r m0s k0 x_m0_3 x_m0_4 x_m0_5 x_m0_6 x_m0_7 x_m0_8 x_m0_9 g_m0r h_x_m0_9 _) (cb_of (n := 2) hn mw_1228 mw_7 mw_1226 mhX7_sideOf ⟨(Nat.le_of_ble_eq_true rfl), (Nat.le_of_ble_eq_true rfl)⟩) hx hb hml hown hn hK hSK hZ hS mw_1227 rfl hl.1 (Nat.le_of_ble_eq_true rfl) dX7_step_123 ⟨(Nat.le_of_ble_eq_true rfl), (Nat.le_of_ble_eq_true rfl)⟩) hP hD hS hA rfl rfl (by decide) (by decide) (by decide) (Nat.le_of_ble_eq_true rfl) (Nat.le_of_ble_eq_true rfl) (fun r123_1 u123_2 H locs hp123_3 hP hD hS => ?_)
          have hP : va_P D vwCl [(m0s, .inl (ct 0, 64, .inl g_m0s)), (k0, .inr (6, [.ref k0c, .ref k0l, .int x_k0_2])), (k0l, .inl (ct 1, 16, .inl g_k0l)), (k0c, .inl (ct 0, 4096, .inl g_k0c)), (p0, .inr (7, [.ref p0r, .int x_p0_1])), (p0r, .inl (ct 2, 4000, .inr (.inl g_p0r))), (m0, .inr (4, [.ref m0r, .ref m0s, .ref k0, .int x_m0_3, .int x_m0_4, .int x_m0_5, .int x_m0_6, .int x_m0_7, .long x_m0_8, .int x_m0_9])), (m0r, .inl (ct 2, 32, .inr (.inl g_m0r)))] _ := hP
          have hD : va_D A [(m0s, .inl (ct 0, 64, .inl g_m0s)), (k0, .inr (6, [.ref k0c, .ref k0l, .int x_k0_2])), (k0l, .inl (ct 1, 16, .inl g_k0l)), (k0c, .inl (ct 0, 4096, .inl g_k0c)), (p0, .inr (7, [.ref p0r, .int x_p0_1])), (p0r, .inl (ct 2, 4000, .inr (.inl g_p0r))), (m0, .inr (4, [.ref m0r, .ref m0s, .ref k0, .int x_m0_3, .int x_m0_4, .int x_m0_5, .int x_m0_6, .int x_m0_7, .long x_m0_8, .int x_m0_9])), (m0r, .inl (ct 2, 32, .inr (.inl g_m0r)))] := hD
          refine go_i (k1 := 0) (n1 := 0) (wr := [(m0s, .inl (ct 0, 64, .inl g_m0s)), (k0, .inr (6, [.ref k0c, .ref k0l, .int x_k0_2])), (k0l, .inl (ct 1, 16, .inl g_k0l)), (k0c, .inl (ct 0, 4096, .inl g_k0c)), (p0, .inr (7, [.ref p0r, .int x_p0_1])), (p0r, .inl (ct 2, 4000, .inr (.inl g_p0r))), (m0, .inr (4, [.ref m0r, .ref m0s, .ref k0, .int x_m0_3, .int x_m0_4, .int x_m0_5, .int x_m0_6, .int x_m0_7, .long x_m0_8, .int x_m0_9])), (m0r, .inl (ct 2, 32, .inr (.inl g_m0r)))]) [] [0, 1, 2, 3, 4, 5, 6, 7] (rn_SN (As := [.int z113_1, .int r116_1, .long r105_1, .long r123_1]) (rest := []) (c_X11_holds l D ct z113_1 r116_1 r105_1 r123_1 hp116_4 _) (cn_of (n := 4) hn mw_1232 mw_1 mw_1230 mhX11_holds ⟨(Nat.le_of_ble_eq_true rfl), (Nat.le_of_ble_eq_true rfl)⟩) hx hb hml hown hn hK hSK hZ hS mw_1231 rfl hl.1 (Nat.le_of_ble_eq_true rfl) dX7_step_126 ⟨(Nat.le_of_ble_eq_true rfl), (Nat.le_of_ble_eq_true rfl)⟩) hP hD hS hA rfl rfl (by decide) (by decide) (by decide) (Nat.le_of_ble_eq_true rfl) (Nat.le_of_ble_eq_true rfl) (fun r126_1 u126_2 H locs hp126_3 hP hD hS => ?_)
          have hp126_4 := hp126_3
          have hp126_4 : rg r126_1 0 1 := hp126_4
          have hP : va_P D vwCl [(m0s, .inl (ct 0, 64, .inl g_m0s)), (k0, .inr (6, [.ref k0c, .ref k0l, .int x_k0_2])), (k0l, .inl (ct 1, 16, .inl g_k0l)), (k0c, .inl (ct 0, 4096, .inl g_k0c)), (p0, .inr (7, [.ref p0r, .int x_p0_1])), (p0r, .inl (ct 2, 4000, .inr (.inl g_p0r))), (m0, .inr (4, [.ref m0r, .ref m0s, .ref k0, .int x_m0_3, .int x_m0_4, .int x_m0_5, .int x_m0_6, .int x_m0_7, .long x_m0_8, .int x_m0_9])), (m0r, .inl (ct 2, 32, .inr (.inl g_m0r)))] _ := hP
          have hD : va_D A [(m0s, .inl (ct 0, 64, .inl g_m0s)), (k0, .inr (6, [.ref k0c, .ref k0l, .int x_k0_2])), (k0l, .inl (ct 1, 16, .inl g_k0l)), (k0c, .inl (ct 0, 4096, .inl g_k0c)), (p0, .inr (7, [.ref p0r, .int x_p0_1])), (p0r, .inl (ct 2, 4000, .inr (.inl g_p0r))), (m0, .inr (4, [.ref m0r, .ref m0s, .ref k0, .int x_m0_3, .int x_m0_4, .int x_m0_5, .int x_m0_6, .int x_m0_7, .long x_m0_8, .int x_m0_9])), (m0r, .inl (ct 2, 32, .inr (.inl g_m0r)))] := hD
          refine lv_if_eq (tgt := 149) hx hb dX7_step_129 (by decide) (fun c129_1 => ?_) (fun c129_1 => ?_)
          · have t129_2 := (i_eq c129_1)
            have r129_3 : rg r126_1 0 0 := rg_eqA t129_2 hp126_4 (show rg (0 : Int32) 0 0 from rg_l (by decide)) (by decide)
            refine lv_goto (tgt := 173) hx hb dX7_step_149 (by decide) ?_
            exact endq_v hQ hx hb hr hlocks dX7_step_173 (x_m0_5, x_m0_8, x_m0_9, g_m0r, g_m0s) ⟨h_x_m0_9, h_g_m0s⟩ hP hD hS [4, 6, 5, 7, 0, 1, 2, 3] rfl (by decide) rfl (Nat.le_of_ble_eq_true rfl) (Nat.le_of_ble_eq_true rfl)
          · have t129_2 := (i_ne c129_1)
            have r129_3 : rg r126_1 1 1 := rg_neAl t129_2 hp126_4 (show rg (0 : Int32) 0 0 from rg_l (by decide)) (by decide)
            refine lv_aload_n hx hb dX7_step_132 rfl (lv_at hl 4 rfl) ?_
            refine lv_aload_n hx hb dX7_step_133 rfl (lv_at hl 4 rfl) ?_
            refine va_getN (D := D) (ci := 4) (v := .int x_m0_7) (C := RX4) (T := TX4) (N := 10) hx hb (htX4 hn) (fun _ h => h) hown hK hP 6 rfl rfl 7 (by decide) (hn.get mw_95 rfl) (fun _ h9 => h9) rfl dX7_step_134 ?_
            refine lv_i2l hx hb dX7_step_137 rfl ?_
            refine lv_topl (fun z137_1 ez137_1 => ?_)
            have r137_2 : rl z137_1 (-2147483648) 2147483647 := rl_i2l ez137_1 (rg_any x_m0_7)
            refine lv_lconst (v := 1) hx hb dX7_step_138 (by decide) ?_
            refine lv_ladd hx hb dX7_step_139 ?_
            refine lv_topl (fun z139_1 ez139_1 => ?_)
            have r139_2 : rl z139_1 (-2147483647) 2147483648 := rgL_add ez139_1 r137_2 (show rl (1 : Int64) 1 1 from rl_l (by decide)) (by decide)
            refine lv_lload_n hx hb dX7_step_140 rfl (lv_at hl 2 rfl) ?_
            refine go_i (k1 := 0) (n1 := 0) (wr := [(m0s, .inl (ct 0, 64, .inl g_m0s)), (k0, .inr (6, [.ref k0c, .ref k0l, .int x_k0_2])), (k0l, .inl (ct 1, 16, .inl g_k0l)), (k0c, .inl (ct 0, 4096, .inl g_k0c)), (p0, .inr (7, [.ref p0r, .int x_p0_1])), (p0r, .inl (ct 2, 4000, .inr (.inl g_p0r))), (m0, .inr (4, [.ref m0r, .ref m0s, .ref k0, .int x_m0_3, .int x_m0_4, .int x_m0_5, .int x_m0_6, .int x_m0_7, .long x_m0_8, .int x_m0_9])), (m0r, .inl (ct 2, 32, .inr (.inl g_m0r)))]) [] [0, 1, 2, 3, 4, 5, 6, 7] (rn_S (As := [.long r5_1]) (rest := [.long z139_1, .ref m0]) (c_X7_offOf l D ct r5_1  _) (cb_of (n := 1) hn mw_992 mw_7 mw_990 mhX7_offOf ⟨(Nat.le_of_ble_eq_true rfl), (Nat.le_of_ble_eq_true rfl)⟩) hx hb hml hown hn hK hSK hZ hS mw_991 rfl hl.1 (Nat.le_of_ble_eq_true rfl) dX7_step_141 ⟨(Nat.le_of_ble_eq_true rfl), (Nat.le_of_ble_eq_true rfl)⟩) hP hD hS hA rfl rfl (by decide) (by decide) (by decide) (Nat.le_of_ble_eq_true rfl) (Nat.le_of_ble_eq_true rfl) (fun r141_1 u141_2 H locs hp141_3 hP hD hS => ?_)
            have hp141_4 := hp141_3
            have hp141_4 : rg r141_1 (-32768) 32767 := hp141_4
            have hP : va_P D vwCl [(m0s, .inl (ct 0, 64, .inl g_m0s)), (k0, .inr (6, [.ref k0c, .ref k0l, .int x_k0_2])), (k0l, .inl (ct 1, 16, .inl g_k0l)), (k0c, .inl (ct 0, 4096, .inl g_k0c)), (p0, .inr (7, [.ref p0r, .int x_p0_1])), (p0r, .inl (ct 2, 4000, .inr (.inl g_p0r))), (m0, .inr (4, [.ref m0r, .ref m0s, .ref k0, .int x_m0_3, .int x_m0_4, .int x_m0_5, .int x_m0_6, .int x_m0_7, .long x_m0_8, .int x_m0_9])), (m0r, .inl (ct 2, 32, .inr (.inl g_m0r)))] _ := hP
            have hD : va_D A [(m0s, .inl (ct 0, 64, .inl g_m0s)), (k0, .inr (6, [.ref k0c, .ref k0l, .int x_k0_2])), (k0l, .inl (ct 1, 16, .inl g_k0l)), (k0c, .inl (ct 0, 4096, .inl g_k0c)), (p0, .inr (7, [.ref p0r, .int x_p0_1])), (p0r, .inl (ct 2, 4000, .inr (.inl g_p0r))), (m0, .inr (4, [.ref m0r, .ref m0s, .ref k0, .int x_m0_3, .int x_m0_4, .int x_m0_5, .int x_m0_6, .int x_m0_7, .long x_m0_8, .int x_m0_9])), (m0r, .inl (ct 2, 32, .inr (.inl g_m0r)))] := hD
            refine lv_i2l hx hb dX7_step_144 rfl ?_
            refine lv_topl (fun z144_1 ez144_1 => ?_)
            have r144_2 : rl z144_1 (-32768) 32767 := rl_i2l ez144_1 hp141_4
            refine lv_ladd hx hb dX7_step_145 ?_
            refine lv_topl (fun z145_1 ez145_1 => ?_)
            have r145_2 : rl z145_1 (-2147516415) 2147516415 := rgL_add ez145_1 r139_2 r144_2 (by decide)
            refine va_putN (D := D) (ci := 4) (v := .long z145_1) (ty := .long) (C := RX4) (T := TX4) (N := 10) hx hb (htX4 hn) (fun _ h => h) tyX4 tyX4_ok nmX4 hown hK hP hD hS 6 rfl rfl 8 (by decide) (hn.get mw_98 rfl) (fun _ h9 => h9) rfl (by decide +kernel) rfl rfl (Nat.le_of_ble_eq_true rfl) dX7_step_146 (fun H locs hP hD hS => ?_)
            have hP : va_P D vwCl [(m0s, .inl (ct 0, 64, .inl g_m0s)), (k0, .inr (6, [.ref k0c, .ref k0l, .int x_k0_2])), (k0l, .inl (ct 1, 16, .inl g_k0l)), (k0c, .inl (ct 0, 4096, .inl g_k0c)), (p0, .inr (7, [.ref p0r, .int x_p0_1])), (p0r, .inl (ct 2, 4000, .inr (.inl g_p0r))), (m0, .inr (4, [.ref m0r, .ref m0s, .ref k0, .int x_m0_3, .int x_m0_4, .int x_m0_5, .int x_m0_6, .int x_m0_7, .long z145_1, .int x_m0_9])), (m0r, .inl (ct 2, 32, .inr (.inl g_m0r)))] _ := hP
            have hD : va_D A [(m0s, .inl (ct 0, 64, .inl g_m0s)), (k0, .inr (6, [.ref k0c, .ref k0l, .int x_k0_2])), (k0l, .inl (ct 1, 16, .inl g_k0l)), (k0c, .inl (ct 0, 4096, .inl g_k0c)), (p0, .inr (7, [.ref p0r, .int x_p0_1])), (p0r, .inl (ct 2, 4000, .inr (.inl g_p0r))), (m0, .inr (4, [.ref m0r, .ref m0s, .ref k0, .int x_m0_3, .int x_m0_4, .int x_m0_5, .int x_m0_6, .int x_m0_7, .long z145_1, .int x_m0_9])), (m0r, .inl (ct 2, 32, .inr (.inl g_m0r)))] := hD
            refine lv_goto (tgt := 173) hx hb dX7_step_149 (by decide) ?_
            exact endq_v hQ hx hb hr hlocks dX7_step_173 (x_m0_5, z145_1, x_m0_9, g_m0r, g_m0s) ⟨h_x_m0_9, h_g_m0s⟩ hP hD hS [4, 6, 5, 7, 0, 1, 2, 3] rfl (by decide) rfl (Nat.le_of_ble_eq_true rfl) (Nat.le_of_ble_eq_true rfl)
      · have t81_2 := (i_eq c81_1)
        have r81_3 : rg r10_1 149 149 := rg_eqA t81_2 hp10_4 (show rg (149 : Int32) 149 149 from rg_l (by decide)) (by decide)
        refine lv_aload_n hx hb dX7_step_84 rfl (lv_at hl 3 rfl) ?_
        refine lv_iconst (v := 1) hx hb dX7_step_85 (by decide) ?_
        refine va_putN (D := D) (ci := 4) (v := .int 1) (ty := .boolean) (C := RX4) (T := TX4) (N := 10) hx hb (htX4 hn) (fun _ h => h) tyX4 tyX4_ok nmX4 hown hK hP hD hS 0 rfl rfl 9 (by decide) (hn.get mw_101 rfl) (fun _ h9 => h9) rfl (by decide +kernel) (by decide) rfl (Nat.le_of_ble_eq_true rfl) dX7_step_86 (fun H locs hP hD hS => ?_)
        have hP : va_P D vwCl [(m0, .inr (4, [.ref m0r, .ref m0s, .ref k0, .int x_m0_3, .int x_m0_4, .int x_m0_5, .int x_m0_6, .int x_m0_7, .long x_m0_8, .int 1])), (m0r, .inl (ct 2, 32, .inr (.inl g_m0r))), (m0s, .inl (ct 0, 64, .inl g_m0s)), (k0, .inr (6, [.ref k0c, .ref k0l, .int x_k0_2])), (k0l, .inl (ct 1, 16, .inl g_k0l)), (k0c, .inl (ct 0, 4096, .inl g_k0c)), (p0, .inr (7, [.ref p0r, .int x_p0_1])), (p0r, .inl (ct 2, 4000, .inr (.inl g_p0r)))] _ := hP
        have hD : va_D A [(m0, .inr (4, [.ref m0r, .ref m0s, .ref k0, .int x_m0_3, .int x_m0_4, .int x_m0_5, .int x_m0_6, .int x_m0_7, .long x_m0_8, .int 1])), (m0r, .inl (ct 2, 32, .inr (.inl g_m0r))), (m0s, .inl (ct 0, 64, .inl g_m0s)), (k0, .inr (6, [.ref k0c, .ref k0l, .int x_k0_2])), (k0l, .inl (ct 1, 16, .inl g_k0l)), (k0c, .inl (ct 0, 4096, .inl g_k0c)), (p0, .inr (7, [.ref p0r, .int x_p0_1])), (p0r, .inl (ct 2, 4000, .inr (.inl g_p0r)))] := hD
        refine lv_goto (tgt := 173) hx hb dX7_step_89 (by decide) ?_
        exact endq_v hQ hx hb hr hlocks dX7_step_173 (x_m0_5, x_m0_8, (1 : Int32), g_m0r, g_m0s) ⟨(rg_w (show rg (1 : Int32) 1 1 from rg_l (by decide)) (by decide)), h_g_m0s⟩ hP hD hS [6, 0, 7, 1, 2, 3, 4, 5] rfl (by decide) rfl (Nat.le_of_ble_eq_true rfl) (Nat.le_of_ble_eq_true rfl)
    · have t35_2 := (i_ne c35_1)
      have r35_3 : rg r32_1 1 1 := rg_neAl t35_2 hp32_4 (show rg (0 : Int32) 0 0 from rg_l (by decide)) (by decide)
      refine lv_lload_n hx hb dX7_step_38 rfl (lv_at hl 1 rfl) ?_
      refine go_i (k1 := 0) (n1 := 0) (wr := [(m0, .inr (4, [.ref m0r, .ref m0s, .ref k0, .int x_m0_3, .int x_m0_4, .int x_m0_5, .int x_m0_6, .int x_m0_7, .long x_m0_8, .int x_m0_9])), (m0r, .inl (ct 2, 32, .inr (.inl g_m0r))), (m0s, .inl (ct 0, 64, .inl g_m0s)), (k0, .inr (6, [.ref k0c, .ref k0l, .int x_k0_2])), (k0l, .inl (ct 1, 16, .inl g_k0l)), (k0c, .inl (ct 0, 4096, .inl g_k0c)), (p0, .inr (7, [.ref p0r, .int x_p0_1])), (p0r, .inl (ct 2, 4000, .inr (.inl g_p0r)))]) [] [0, 1, 2, 3, 4, 5, 6, 7] (rn_S (As := [.long r5_1]) (rest := []) (c_X7_dOf l D ct r5_1  _) (cb_of (n := 1) hn mw_986 mw_7 mw_984 mhX7_dOf ⟨(Nat.le_of_ble_eq_true rfl), (Nat.le_of_ble_eq_true rfl)⟩) hx hb hml hown hn hK hSK hZ hS mw_985 rfl hl.1 (Nat.le_of_ble_eq_true rfl) dX7_step_39 ⟨(Nat.le_of_ble_eq_true rfl), (Nat.le_of_ble_eq_true rfl)⟩) hP hD hS hA rfl rfl (by decide) (by decide) (by decide) (Nat.le_of_ble_eq_true rfl) (Nat.le_of_ble_eq_true rfl) (fun r39_1 u39_2 H locs hp39_3 hP hD hS => ?_)
      obtain ⟨hp39_4, hp39_5⟩ := hp39_3
      have hp39_4 : rg r39_1 0 15 := hp39_4
      have hp39_5 : r39_1.toInt = (r5_1.toInt / 256) % 16 := hp39_5
      have hP : va_P D vwCl [(m0, .inr (4, [.ref m0r, .ref m0s, .ref k0, .int x_m0_3, .int x_m0_4, .int x_m0_5, .int x_m0_6, .int x_m0_7, .long x_m0_8, .int x_m0_9])), (m0r, .inl (ct 2, 32, .inr (.inl g_m0r))), (m0s, .inl (ct 0, 64, .inl g_m0s)), (k0, .inr (6, [.ref k0c, .ref k0l, .int x_k0_2])), (k0l, .inl (ct 1, 16, .inl g_k0l)), (k0c, .inl (ct 0, 4096, .inl g_k0c)), (p0, .inr (7, [.ref p0r, .int x_p0_1])), (p0r, .inl (ct 2, 4000, .inr (.inl g_p0r)))] _ := hP
      have hD : va_D A [(m0, .inr (4, [.ref m0r, .ref m0s, .ref k0, .int x_m0_3, .int x_m0_4, .int x_m0_5, .int x_m0_6, .int x_m0_7, .long x_m0_8, .int x_m0_9])), (m0r, .inl (ct 2, 32, .inr (.inl g_m0r))), (m0s, .inl (ct 0, 64, .inl g_m0s)), (k0, .inr (6, [.ref k0c, .ref k0l, .int x_k0_2])), (k0l, .inl (ct 1, 16, .inl g_k0l)), (k0c, .inl (ct 0, 4096, .inl g_k0c)), (p0, .inr (7, [.ref p0r, .int x_p0_1])), (p0r, .inl (ct 2, 4000, .inr (.inl g_p0r)))] := hD
      refine lv_istore (lv' := [(5, .int r39_1), (4, .int r10_1), (2, .long r5_1), (0, .ref p0), (1, .ref m0)]) hx hb dX7_step_42 hl (by decide) rfl (fun ls hl => ?_)
      refine lv_aload_n hx hb dX7_step_44 rfl (lv_at hl 4 rfl) ?_
      refine lv_iload hx hb dX7_step_45 (lv_at hl 0 rfl) ?_
      refine lv_iload hx hb dX7_step_47 (lv_at hl 1 rfl) ?_
      refine lv_iconst (v := 4) hx hb dX7_step_49 (by decide) ?_
      refine lv_ishr hx hb dX7_step_50 ?_
      refine lv_topi (fun z50_1 ez50_1 => ?_)
      have r50_2 : rg z50_1 0 15 := rg_shr (k := 4) ez50_1 (by decide) hp10_4 (by decide)
      refine lv_iload hx hb dX7_step_51 (lv_at hl 1 rfl) ?_
      refine go_i (k1 := 0) (n1 := 0) (wr := [(m0, .inr (4, [.ref m0r, .ref m0s, .ref k0, .int x_m0_3, .int x_m0_4, .int x_m0_5, .int x_m0_6, .int x_m0_7, .long x_m0_8, .int x_m0_9])), (m0r, .inl (ct 2, 32, .inr (.inl g_m0r))), (m0s, .inl (ct 0, 64, .inl g_m0s)), (k0, .inr (6, [.ref k0c, .ref k0l, .int x_k0_2])), (k0l, .inl (ct 1, 16, .inl g_k0l)), (k0c, .inl (ct 0, 4096, .inl g_k0c)), (p0, .inr (7, [.ref p0r, .int x_p0_1])), (p0r, .inl (ct 2, 4000, .inr (.inl g_p0r)))]) [] [0, 1, 2, 3, 4, 5, 6, 7] (rn_S (As := [.int r10_1]) (rest := [.int z50_1, .int r39_1, .ref m0]) (c_X7_isWide l D ct r10_1  _) (cb_of (n := 1) hn mw_1062 mw_7 mw_1221 mhX7_isWide ⟨(Nat.le_of_ble_eq_true rfl), (Nat.le_of_ble_eq_true rfl)⟩) hx hb hml hown hn hK hSK hZ hS mw_1061 rfl hl.1 (Nat.le_of_ble_eq_true rfl) dX7_step_53 ⟨(Nat.le_of_ble_eq_true rfl), (Nat.le_of_ble_eq_true rfl)⟩) hP hD hS hA rfl rfl (by decide) (by decide) (by decide) (Nat.le_of_ble_eq_true rfl) (Nat.le_of_ble_eq_true rfl) (fun r53_1 u53_2 H locs hp53_3 hP hD hS => ?_)
      have hp53_4 := hp53_3
      have hp53_4 : rg r53_1 0 1 := hp53_4
      have hP : va_P D vwCl [(m0, .inr (4, [.ref m0r, .ref m0s, .ref k0, .int x_m0_3, .int x_m0_4, .int x_m0_5, .int x_m0_6, .int x_m0_7, .long x_m0_8, .int x_m0_9])), (m0r, .inl (ct 2, 32, .inr (.inl g_m0r))), (m0s, .inl (ct 0, 64, .inl g_m0s)), (k0, .inr (6, [.ref k0c, .ref k0l, .int x_k0_2])), (k0l, .inl (ct 1, 16, .inl g_k0l)), (k0c, .inl (ct 0, 4096, .inl g_k0c)), (p0, .inr (7, [.ref p0r, .int x_p0_1])), (p0r, .inl (ct 2, 4000, .inr (.inl g_p0r)))] _ := hP
      have hD : va_D A [(m0, .inr (4, [.ref m0r, .ref m0s, .ref k0, .int x_m0_3, .int x_m0_4, .int x_m0_5, .int x_m0_6, .int x_m0_7, .long x_m0_8, .int x_m0_9])), (m0r, .inl (ct 2, 32, .inr (.inl g_m0r))), (m0s, .inl (ct 0, 64, .inl g_m0s)), (k0, .inr (6, [.ref k0c, .ref k0l, .int x_k0_2])), (k0l, .inl (ct 1, 16, .inl g_k0l)), (k0c, .inl (ct 0, 4096, .inl g_k0c)), (p0, .inr (7, [.ref p0r, .int x_p0_1])), (p0r, .inl (ct 2, 4000, .inr (.inl g_p0r)))] := hD
      refine lv_aload_n hx hb dX7_step_56 rfl (lv_at hl 4 rfl) ?_
      refine lv_iload hx hb dX7_step_57 (lv_at hl 0 rfl) ?_
      refine go_l (k1 := 0) (n1 := 0) (wr := [(m0s, .inl (ct 0, 64, .inl g_m0s)), (k0, .inr (6, [.ref k0c, .ref k0l, .int x_k0_2])), (k0l, .inl (ct 1, 16, .inl g_k0l)), (k0c, .inl (ct 0, 4096, .inl g_k0c)), (p0, .inr (7, [.ref p0r, .int x_p0_1])), (p0r, .inl (ct 2, 4000, .inr (.inl g_p0r)))]) [0, 1] [2, 3, 4, 5, 6, 7] (rn_VN (As := [.int r39_1]) (rest := [.int r53_1, .int z50_1, .int r39_1, .ref m0]) (c_X4_get l D ct m0 r39_1 m0r m0s k0 x_m0_3 x_m0_4 x_m0_5 x_m0_6 x_m0_7 x_m0_8 x_m0_9 g_m0r h_x_m0_9 _) (cn_of (n := 1) hn mw_1225 mw_4 mw_1222 mhX4_get ⟨(Nat.le_of_ble_eq_true rfl), (Nat.le_of_ble_eq_true rfl)⟩) hx hb hml hown hn hK hSK hZ hS mw_1224 mw_s135 (ci := 4) (q0 := 0) rfl rfl rfl rfl hl.1 (Nat.le_of_ble_eq_true rfl) dX7_step_59 ⟨(Nat.le_of_ble_eq_true rfl), (Nat.le_of_ble_eq_true rfl)⟩) hP hD hS hA rfl rfl (by decide) (by decide) (by decide) (Nat.le_of_ble_eq_true rfl) (Nat.le_of_ble_eq_true rfl) (fun r59_1 u59_2 H locs hp59_3 hP hD hS => ?_)
      have hP : va_P D vwCl [(m0s, .inl (ct 0, 64, .inl g_m0s)), (k0, .inr (6, [.ref k0c, .ref k0l, .int x_k0_2])), (k0l, .inl (ct 1, 16, .inl g_k0l)), (k0c, .inl (ct 0, 4096, .inl g_k0c)), (p0, .inr (7, [.ref p0r, .int x_p0_1])), (p0r, .inl (ct 2, 4000, .inr (.inl g_p0r))), (m0, .inr (4, [.ref m0r, .ref m0s, .ref k0, .int x_m0_3, .int x_m0_4, .int x_m0_5, .int x_m0_6, .int x_m0_7, .long x_m0_8, .int x_m0_9])), (m0r, .inl (ct 2, 32, .inr (.inl g_m0r)))] _ := hP
      have hD : va_D A [(m0s, .inl (ct 0, 64, .inl g_m0s)), (k0, .inr (6, [.ref k0c, .ref k0l, .int x_k0_2])), (k0l, .inl (ct 1, 16, .inl g_k0l)), (k0c, .inl (ct 0, 4096, .inl g_k0c)), (p0, .inr (7, [.ref p0r, .int x_p0_1])), (p0r, .inl (ct 2, 4000, .inr (.inl g_p0r))), (m0, .inr (4, [.ref m0r, .ref m0s, .ref k0, .int x_m0_3, .int x_m0_4, .int x_m0_5, .int x_m0_6, .int x_m0_7, .long x_m0_8, .int x_m0_9])), (m0r, .inl (ct 2, 32, .inr (.inl g_m0r)))] := hD
      refine lv_lload_n hx hb dX7_step_62 rfl (lv_at hl 2 rfl) ?_
      refine lv_aload_n hx hb dX7_step_63 rfl (lv_at hl 4 rfl) ?_
      refine go_l (k1 := 0) (n1 := 0) (wr := [(m0s, .inl (ct 0, 64, .inl g_m0s)), (k0, .inr (6, [.ref k0c, .ref k0l, .int x_k0_2])), (k0l, .inl (ct 1, 16, .inl g_k0l)), (k0c, .inl (ct 0, 4096, .inl g_k0c)), (p0, .inr (7, [.ref p0r, .int x_p0_1])), (p0r, .inl (ct 2, 4000, .inr (.inl g_p0r)))]) [6, 7] [0, 1, 2, 3, 4, 5] (rn_S (As := [.long r5_1, .ref m0]) (rest := [.long r59_1, .int r53_1, .int z50_1, .int r39_1, .ref m0]) (c_X7_sideOf l D ct r5_1 m0 m0r m0s k0 x_m0_3 x_m0_4 x_m0_5 x_m0_6 x_m0_7 x_m0_8 x_m0_9 g_m0r h_x_m0_9 _) (cb_of (n := 2) hn mw_1228 mw_7 mw_1226 mhX7_sideOf ⟨(Nat.le_of_ble_eq_true rfl), (Nat.le_of_ble_eq_true rfl)⟩) hx hb hml hown hn hK hSK hZ hS mw_1227 rfl hl.1 (Nat.le_of_ble_eq_true rfl) dX7_step_64 ⟨(Nat.le_of_ble_eq_true rfl), (Nat.le_of_ble_eq_true rfl)⟩) hP hD hS hA rfl rfl (by decide) (by decide) (by decide) (Nat.le_of_ble_eq_true rfl) (Nat.le_of_ble_eq_true rfl) (fun r64_1 u64_2 H locs hp64_3 hP hD hS => ?_)
      have hP : va_P D vwCl [(m0s, .inl (ct 0, 64, .inl g_m0s)), (k0, .inr (6, [.ref k0c, .ref k0l, .int x_k0_2])), (k0l, .inl (ct 1, 16, .inl g_k0l)), (k0c, .inl (ct 0, 4096, .inl g_k0c)), (p0, .inr (7, [.ref p0r, .int x_p0_1])), (p0r, .inl (ct 2, 4000, .inr (.inl g_p0r))), (m0, .inr (4, [.ref m0r, .ref m0s, .ref k0, .int x_m0_3, .int x_m0_4, .int x_m0_5, .int x_m0_6, .int x_m0_7, .long x_m0_8, .int x_m0_9])), (m0r, .inl (ct 2, 32, .inr (.inl g_m0r)))] _ := hP
      have hD : va_D A [(m0s, .inl (ct 0, 64, .inl g_m0s)), (k0, .inr (6, [.ref k0c, .ref k0l, .int x_k0_2])), (k0l, .inl (ct 1, 16, .inl g_k0l)), (k0c, .inl (ct 0, 4096, .inl g_k0c)), (p0, .inr (7, [.ref p0r, .int x_p0_1])), (p0r, .inl (ct 2, 4000, .inr (.inl g_p0r))), (m0, .inr (4, [.ref m0r, .ref m0s, .ref k0, .int x_m0_3, .int x_m0_4, .int x_m0_5, .int x_m0_6, .int x_m0_7, .long x_m0_8, .int x_m0_9])), (m0r, .inl (ct 2, 32, .inr (.inl g_m0r)))] := hD
      refine go_l (k1 := 0) (n1 := 0) (wr := [(m0s, .inl (ct 0, 64, .inl g_m0s)), (k0, .inr (6, [.ref k0c, .ref k0l, .int x_k0_2])), (k0l, .inl (ct 1, 16, .inl g_k0l)), (k0c, .inl (ct 0, 4096, .inl g_k0c)), (p0, .inr (7, [.ref p0r, .int x_p0_1])), (p0r, .inl (ct 2, 4000, .inr (.inl g_p0r))), (m0, .inr (4, [.ref m0r, .ref m0s, .ref k0, .int x_m0_3, .int x_m0_4, .int x_m0_5, .int x_m0_6, .int x_m0_7, .long x_m0_8, .int x_m0_9])), (m0r, .inl (ct 2, 32, .inr (.inl g_m0r)))]) [] [0, 1, 2, 3, 4, 5, 6, 7] (rn_SN (As := [.int z50_1, .int r53_1, .long r59_1, .long r64_1]) (rest := [.int r39_1, .ref m0]) (c_X11_worked l D ct z50_1 r53_1 r59_1 r64_1 hp53_4 _) (cn_of (n := 4) hn mw_1104 mw_1 mw_1229 mhX11_worked ⟨(Nat.le_of_ble_eq_true rfl), (Nat.le_of_ble_eq_true rfl)⟩) hx hb hml hown hn hK hSK hZ hS mw_1103 rfl hl.1 (Nat.le_of_ble_eq_true rfl) dX7_step_67 ⟨(Nat.le_of_ble_eq_true rfl), (Nat.le_of_ble_eq_true rfl)⟩) hP hD hS hA rfl rfl (by decide) (by decide) (by decide) (Nat.le_of_ble_eq_true rfl) (Nat.le_of_ble_eq_true rfl) (fun r67_1 u67_2 H locs hp67_3 hP hD hS => ?_)
      have hP : va_P D vwCl [(m0s, .inl (ct 0, 64, .inl g_m0s)), (k0, .inr (6, [.ref k0c, .ref k0l, .int x_k0_2])), (k0l, .inl (ct 1, 16, .inl g_k0l)), (k0c, .inl (ct 0, 4096, .inl g_k0c)), (p0, .inr (7, [.ref p0r, .int x_p0_1])), (p0r, .inl (ct 2, 4000, .inr (.inl g_p0r))), (m0, .inr (4, [.ref m0r, .ref m0s, .ref k0, .int x_m0_3, .int x_m0_4, .int x_m0_5, .int x_m0_6, .int x_m0_7, .long x_m0_8, .int x_m0_9])), (m0r, .inl (ct 2, 32, .inr (.inl g_m0r)))] _ := hP
      have hD : va_D A [(m0s, .inl (ct 0, 64, .inl g_m0s)), (k0, .inr (6, [.ref k0c, .ref k0l, .int x_k0_2])), (k0l, .inl (ct 1, 16, .inl g_k0l)), (k0c, .inl (ct 0, 4096, .inl g_k0c)), (p0, .inr (7, [.ref p0r, .int x_p0_1])), (p0r, .inl (ct 2, 4000, .inr (.inl g_p0r))), (m0, .inr (4, [.ref m0r, .ref m0s, .ref k0, .int x_m0_3, .int x_m0_4, .int x_m0_5, .int x_m0_6, .int x_m0_7, .long x_m0_8, .int x_m0_9])), (m0r, .inl (ct 2, 32, .inr (.inl g_m0r)))] := hD
      refine go_v (k1 := 0) (n1 := 0) (wr := [(m0s, .inl (ct 0, 64, .inl g_m0s)), (k0, .inr (6, [.ref k0c, .ref k0l, .int x_k0_2])), (k0l, .inl (ct 1, 16, .inl g_k0l)), (k0c, .inl (ct 0, 4096, .inl g_k0c)), (p0, .inr (7, [.ref p0r, .int x_p0_1])), (p0r, .inl (ct 2, 4000, .inr (.inl g_p0r)))]) [6, 7] [0, 1, 2, 3, 4, 5] (rn_VN (As := [.int r39_1, .long r67_1]) (rest := []) (c_X4_set l D ct m0 r39_1 r67_1 m0r m0s k0 x_m0_3 x_m0_4 x_m0_5 x_m0_6 x_m0_7 x_m0_8 x_m0_9 g_m0r h_x_m0_9 _) (cn_of (n := 2) hn mw_1209 mw_4 mw_1206 mhX4_set ⟨(Nat.le_of_ble_eq_true rfl), (Nat.le_of_ble_eq_true rfl)⟩) hx hb hml hown hn hK hSK hZ hS mw_1208 mw_s132 (ci := 4) (q0 := 0) rfl rfl rfl rfl hl.1 (Nat.le_of_ble_eq_true rfl) dX7_step_70 ⟨(Nat.le_of_ble_eq_true rfl), (Nat.le_of_ble_eq_true rfl)⟩) hP hD hS hA rfl rfl (by decide) (by decide) (by decide) (Nat.le_of_ble_eq_true rfl) (Nat.le_of_ble_eq_true rfl) (fun u70_2 H locs hp70_3 hP hD hS => ?_)
      have hP : va_P D vwCl [(m0s, .inl (ct 0, 64, .inl g_m0s)), (k0, .inr (6, [.ref k0c, .ref k0l, .int x_k0_2])), (k0l, .inl (ct 1, 16, .inl g_k0l)), (k0c, .inl (ct 0, 4096, .inl g_k0c)), (p0, .inr (7, [.ref p0r, .int x_p0_1])), (p0r, .inl (ct 2, 4000, .inr (.inl g_p0r))), (m0, .inr (4, [.ref m0r, .ref m0s, .ref k0, .int x_m0_3, .int x_m0_4, .int x_m0_5, .int x_m0_6, .int x_m0_7, .long x_m0_8, .int x_m0_9])), (m0r, .inl (ct 2, 32, .inr (.inl u70_2)))] _ := hP
      have hD : va_D A [(m0s, .inl (ct 0, 64, .inl g_m0s)), (k0, .inr (6, [.ref k0c, .ref k0l, .int x_k0_2])), (k0l, .inl (ct 1, 16, .inl g_k0l)), (k0c, .inl (ct 0, 4096, .inl g_k0c)), (p0, .inr (7, [.ref p0r, .int x_p0_1])), (p0r, .inl (ct 2, 4000, .inr (.inl g_p0r))), (m0, .inr (4, [.ref m0r, .ref m0s, .ref k0, .int x_m0_3, .int x_m0_4, .int x_m0_5, .int x_m0_6, .int x_m0_7, .long x_m0_8, .int x_m0_9])), (m0r, .inl (ct 2, 32, .inr (.inl u70_2)))] := hD
      refine lv_goto (tgt := 173) hx hb dX7_step_73 (by decide) ?_
      exact endq_v hQ hx hb hr hlocks dX7_step_173 (x_m0_5, x_m0_8, x_m0_9, u70_2, g_m0s) ⟨h_x_m0_9, h_g_m0s⟩ hP hD hS [4, 6, 5, 7, 0, 1, 2, 3] rfl (by decide) rfl (Nat.le_of_ble_eq_true rfl) (Nat.le_of_ble_eq_true rfl)
  · have t19_2 := (i_eq c19_1)
    have r19_3 : rg r16_1 0 0 := rg_eqA t19_2 hp16_4 (show rg (0 : Int32) 0 0 from rg_l (by decide)) (by decide)
    refine lv_aload_n hx hb dX7_step_22 rfl (lv_at hl 3 rfl) ?_
    refine lv_iconst (v := 1) hx hb dX7_step_23 (by decide) ?_
    refine go_v (k1 := 0) (n1 := 0) (wr := [(m0r, .inl (ct 2, 32, .inr (.inl g_m0r))), (m0s, .inl (ct 0, 64, .inl g_m0s)), (k0, .inr (6, [.ref k0c, .ref k0l, .int x_k0_2])), (k0l, .inl (ct 1, 16, .inl g_k0l)), (k0c, .inl (ct 0, 4096, .inl g_k0c)), (p0, .inr (7, [.ref p0r, .int x_p0_1])), (p0r, .inl (ct 2, 4000, .inr (.inl g_p0r)))]) [0] [1, 2, 3, 4, 5, 6, 7] (rn_VN (As := [.int 1]) (rest := []) (c_X4_stop l D ct m0 (1 : Int32) m0r m0s k0 x_m0_3 x_m0_4 x_m0_5 x_m0_6 x_m0_7 x_m0_8 x_m0_9 h_x_m0_9 _) (cn_of (n := 1) hn mw_1214 mw_4 mw_1211 mhX4_stop ⟨(Nat.le_of_ble_eq_true rfl), (Nat.le_of_ble_eq_true rfl)⟩) hx hb hml hown hn hK hSK hZ hS mw_1213 mw_s133 (ci := 4) (q0 := 0) rfl rfl rfl rfl hl.1 (Nat.le_of_ble_eq_true rfl) dX7_step_24 ⟨(Nat.le_of_ble_eq_true rfl), (Nat.le_of_ble_eq_true rfl)⟩) hP hD hS hA rfl rfl (by decide) (by decide) (by decide) (Nat.le_of_ble_eq_true rfl) (Nat.le_of_ble_eq_true rfl) (fun u24_2 H locs hp24_3 hP hD hS => ?_)
    have hp24_4 := hp24_3
    have hp24_4 : u24_2.toInt = (1 : Int32).toInt := hp24_4
    have hP : va_P D vwCl [(m0r, .inl (ct 2, 32, .inr (.inl g_m0r))), (m0s, .inl (ct 0, 64, .inl g_m0s)), (k0, .inr (6, [.ref k0c, .ref k0l, .int x_k0_2])), (k0l, .inl (ct 1, 16, .inl g_k0l)), (k0c, .inl (ct 0, 4096, .inl g_k0c)), (p0, .inr (7, [.ref p0r, .int x_p0_1])), (p0r, .inl (ct 2, 4000, .inr (.inl g_p0r))), (m0, .inr (4, [.ref m0r, .ref m0s, .ref k0, .int x_m0_3, .int x_m0_4, .int u24_2, .int x_m0_6, .int x_m0_7, .long x_m0_8, .int 1]))] _ := hP
    have hD : va_D A [(m0r, .inl (ct 2, 32, .inr (.inl g_m0r))), (m0s, .inl (ct 0, 64, .inl g_m0s)), (k0, .inr (6, [.ref k0c, .ref k0l, .int x_k0_2])), (k0l, .inl (ct 1, 16, .inl g_k0l)), (k0c, .inl (ct 0, 4096, .inl g_k0c)), (p0, .inr (7, [.ref p0r, .int x_p0_1])), (p0r, .inl (ct 2, 4000, .inr (.inl g_p0r))), (m0, .inr (4, [.ref m0r, .ref m0s, .ref k0, .int x_m0_3, .int x_m0_4, .int u24_2, .int x_m0_6, .int x_m0_7, .long x_m0_8, .int 1]))] := hD
    refine lv_goto (tgt := 173) hx hb dX7_step_27 (by decide) ?_
    exact endq_v hQ hx hb hr hlocks dX7_step_173 (u24_2, x_m0_8, (1 : Int32), g_m0r, g_m0s) ⟨(rg_w (show rg (1 : Int32) 1 1 from rg_l (by decide)) (by decide)), h_g_m0s⟩ hP hD hS [5, 7, 6, 0, 1, 2, 3, 4] rfl (by decide) rfl (Nat.le_of_ble_eq_true rfl) (Nat.le_of_ble_eq_true rfl)
set_option maxHeartbeats 2000000 in
theorem c_X7_perform (l : Launch) (D : va_G) (ct : Nat → ClassId) (p0 : Nat) (m0 : Nat) (v1 : Int32) (v2 : Int32) (p0r : Nat) (x_p0_1 : Int32) (m0r : Nat) (m0s : Nat) (k0 : Nat) (x_m0_3 : Int32) (x_m0_4 : Int32) (x_m0_5 : Int32) (x_m0_6 : Int32) (x_m0_7 : Int32) (x_m0_8 : Int64) (x_m0_9 : Int32) (g_m0r : Nat → Int64) (g_m0s : Nat → Int32) (g_p0r : Nat → Int64) (k0c : Nat) (k0l : Nat) (x_k0_2 : Int32) (g_k0l : Nat → Int32) (g_k0c : Nat → Int32) (h_x_p0_1 : rg x_p0_1 0 4000) (h_x_m0_9 : rg x_m0_9 0 1) (h_g_m0s : Rg g_m0s 64 (-128) 127) (h_x_k0_2 : rg x_k0_2 0 16) (h_g_k0l : Rg g_k0l 16 0 256) (h_g_k0c : Rg g_k0c 4096 (-128) 127) : KL (S := Int32 × Int32 × Int32 × Int32 × Int32 × Int64 × Int32 × (Nat → Int64) × (Nat → Int32)) l yX7_perform cX7_perform 5 (some .long) 7 167 D ct [.ref p0, .ref m0, .int v1, .int v2] [(p0, .inr (7, [.ref p0r, .int x_p0_1])), (m0, .inr (4, [.ref m0r, .ref m0s, .ref k0, .int x_m0_3, .int x_m0_4, .int x_m0_5, .int x_m0_6, .int x_m0_7, .long x_m0_8, .int x_m0_9])), (m0r, .inl (ct 2, 32, .inr (.inl g_m0r))), (m0s, .inl (ct 0, 64, .inl g_m0s)), (p0r, .inl (ct 2, 4000, .inr (.inl g_p0r))), (k0, .inr (6, [.ref k0c, .ref k0l, .int x_k0_2])), (k0l, .inl (ct 1, 16, .inl g_k0l)), (k0c, .inl (ct 0, 4096, .inl g_k0c))] 0 0 (fun (r : Int64) (u : Int32 × Int32 × Int32 × Int32 × Int32 × Int64 × Int32 × (Nat → Int64) × (Nat → Int32)) => match u with | (y_m0_3, y_m0_4, y_m0_5, y_m0_6, y_m0_7, y_m0_8, y_m0_9, k_m0r, k_m0s) => rg y_m0_9 0 1 ∧ Rg k_m0s 64 (-128) 127 ∧ (y_m0_3.toInt = v1.toInt)) (fun (u : Int32 × Int32 × Int32 × Int32 × Int32 × Int64 × Int32 × (Nat → Int64) × (Nat → Int32)) => match u with | (y_m0_3, y_m0_4, y_m0_5, y_m0_6, y_m0_7, y_m0_8, y_m0_9, k_m0r, k_m0s) => [(p0, .inr (7, [.ref p0r, .int x_p0_1])), (m0, .inr (4, [.ref m0r, .ref m0s, .ref k0, .int y_m0_3, .int y_m0_4, .int y_m0_5, .int y_m0_6, .int y_m0_7, .long y_m0_8, .int y_m0_9])), (m0r, .inl (ct 2, 32, .inr (.inl k_m0r))), (m0s, .inl (ct 0, 64, .inl k_m0s)), (p0r, .inl (ct 2, 4000, .inr (.inl g_p0r))), (k0, .inr (6, [.ref k0c, .ref k0l, .int x_k0_2])), (k0l, .inl (ct 1, 16, .inl g_k0l)), (k0c, .inl (ct 0, 4096, .inl g_k0c))]) := by
  refine KLq_of (by decide) (Nat.le_of_ble_eq_true rfl) (fun p e s m below meth c A Q C0 hA H locs hS hP hD hQ ls hl => ?_)
  obtain ⟨hx, hb, hr, hown, hin, hml, hlocks, hn, hK, hZ, hSK⟩ := C0
  have hl : lv_has ls 5 [(0, .ref p0), (1, .ref m0), (2, .int v1), (3, .int v2)] := hl
  refine lv_aload_n hx hb dX7_perform_0 rfl (lv_at hl 1 rfl) ?_
  refine lv_bipush (v := 11) hx hb dX7_perform_1 (by decide) ?_
  refine lv_iload_n hx hb dX7_perform_3 rfl (lv_at hl 2 rfl) ?_
  refine go_v (k1 := 0) (n1 := 0) (wr := [(p0, .inr (7, [.ref p0r, .int x_p0_1])), (p0r, .inl (ct 2, 4000, .inr (.inl g_p0r))), (k0, .inr (6, [.ref k0c, .ref k0l, .int x_k0_2])), (k0l, .inl (ct 1, 16, .inl g_k0l)), (k0c, .inl (ct 0, 4096, .inl g_k0c))]) [1, 2, 3] [0, 4, 5, 6, 7] (rn_VN (As := [.int 11, .int v1]) (rest := []) (c_X4_begin l D ct m0 (11 : Int32) v1 m0r m0s k0 x_m0_3 x_m0_4 x_m0_5 x_m0_6 x_m0_7 x_m0_8 x_m0_9 g_m0r g_m0s h_x_m0_9 h_g_m0s _) (cn_of (n := 2) hn mw_1205 mw_4 mw_1202 mhX4_begin ⟨(Nat.le_of_ble_eq_true rfl), (Nat.le_of_ble_eq_true rfl)⟩) hx hb hml hown hn hK hSK hZ hS mw_1204 mw_s131 (ci := 4) (q0 := 0) rfl rfl rfl rfl hl.1 (Nat.le_of_ble_eq_true rfl) dX7_perform_4 ⟨(Nat.le_of_ble_eq_true rfl), (Nat.le_of_ble_eq_true rfl)⟩) hP hD hS hA rfl rfl (by decide) (by decide) (by decide) (Nat.le_of_ble_eq_true rfl) (Nat.le_of_ble_eq_true rfl) (fun u4_2 H locs hp4_3 hP hD hS => ?_)
  obtain ⟨y_m0_34_4, y_m0_44_5, k_m0r4_6, k_m0s4_7⟩ := u4_2
  obtain ⟨hp4_8, hp4_9, hp4_10⟩ := hp4_3
  have hp4_9 : y_m0_34_4.toInt = v1.toInt := hp4_9
  have hp4_10 : y_m0_44_5.toInt = (11 : Int32).toInt := hp4_10
  have hP : va_P D vwCl [(p0, .inr (7, [.ref p0r, .int x_p0_1])), (p0r, .inl (ct 2, 4000, .inr (.inl g_p0r))), (k0, .inr (6, [.ref k0c, .ref k0l, .int x_k0_2])), (k0l, .inl (ct 1, 16, .inl g_k0l)), (k0c, .inl (ct 0, 4096, .inl g_k0c)), (m0, .inr (4, [.ref m0r, .ref m0s, .ref k0, .int y_m0_34_4, .int y_m0_44_5, .int 0, .int 0, .int 0, .long 1, .int 0])), (m0r, .inl (ct 2, 32, .inr (.inl k_m0r4_6))), (m0s, .inl (ct 0, 64, .inl k_m0s4_7))] _ := hP
  have hD : va_D A [(p0, .inr (7, [.ref p0r, .int x_p0_1])), (p0r, .inl (ct 2, 4000, .inr (.inl g_p0r))), (k0, .inr (6, [.ref k0c, .ref k0l, .int x_k0_2])), (k0l, .inl (ct 1, 16, .inl g_k0l)), (k0c, .inl (ct 0, 4096, .inl g_k0c)), (m0, .inr (4, [.ref m0r, .ref m0s, .ref k0, .int y_m0_34_4, .int y_m0_44_5, .int 0, .int 0, .int 0, .long 1, .int 0])), (m0r, .inl (ct 2, 32, .inr (.inl k_m0r4_6))), (m0s, .inl (ct 0, 64, .inl k_m0s4_7))] := hD
  refine lv_aload_n hx hb dX7_perform_7 rfl (lv_at hl 1 rfl) ?_
  refine lv_iconst (v := 1) hx hb dX7_perform_8 (by decide) ?_
  refine lv_iload_n hx hb dX7_perform_9 rfl (lv_at hl 3 rfl) ?_
  refine lv_i2l hx hb dX7_perform_10 rfl ?_
  refine lv_topl (fun z10_1 ez10_1 => ?_)
  have r10_2 : rl z10_1 (-2147483648) 2147483647 := rl_i2l ez10_1 (rg_any v2)
  refine go_v (k1 := 0) (n1 := 0) (wr := [(p0, .inr (7, [.ref p0r, .int x_p0_1])), (p0r, .inl (ct 2, 4000, .inr (.inl g_p0r))), (k0, .inr (6, [.ref k0c, .ref k0l, .int x_k0_2])), (k0l, .inl (ct 1, 16, .inl g_k0l)), (k0c, .inl (ct 0, 4096, .inl g_k0c)), (m0s, .inl (ct 0, 64, .inl k_m0s4_7))]) [5, 6] [0, 1, 2, 3, 4, 7] (rn_VN (As := [.int 1, .long z10_1]) (rest := []) (c_X4_set l D ct m0 (1 : Int32) z10_1 m0r m0s k0 y_m0_34_4 y_m0_44_5 (0 : Int32) (0 : Int32) (0 : Int32) (1 : Int64) (0 : Int32) k_m0r4_6 (rg_w (show rg (0 : Int32) 0 0 from rg_l (by decide)) (by decide)) _) (cn_of (n := 2) hn mw_1209 mw_4 mw_1206 mhX4_set ⟨(Nat.le_of_ble_eq_true rfl), (Nat.le_of_ble_eq_true rfl)⟩) hx hb hml hown hn hK hSK hZ hS mw_1208 mw_s132 (ci := 4) (q0 := 0) rfl rfl rfl rfl hl.1 (Nat.le_of_ble_eq_true rfl) dX7_perform_11 ⟨(Nat.le_of_ble_eq_true rfl), (Nat.le_of_ble_eq_true rfl)⟩) hP hD hS hA rfl rfl (by decide) (by decide) (by decide) (Nat.le_of_ble_eq_true rfl) (Nat.le_of_ble_eq_true rfl) (fun u11_2 H locs hp11_3 hP hD hS => ?_)
  have hP : va_P D vwCl [(p0, .inr (7, [.ref p0r, .int x_p0_1])), (p0r, .inl (ct 2, 4000, .inr (.inl g_p0r))), (k0, .inr (6, [.ref k0c, .ref k0l, .int x_k0_2])), (k0l, .inl (ct 1, 16, .inl g_k0l)), (k0c, .inl (ct 0, 4096, .inl g_k0c)), (m0s, .inl (ct 0, 64, .inl k_m0s4_7)), (m0, .inr (4, [.ref m0r, .ref m0s, .ref k0, .int y_m0_34_4, .int y_m0_44_5, .int 0, .int 0, .int 0, .long 1, .int 0])), (m0r, .inl (ct 2, 32, .inr (.inl u11_2)))] _ := hP
  have hD : va_D A [(p0, .inr (7, [.ref p0r, .int x_p0_1])), (p0r, .inl (ct 2, 4000, .inr (.inl g_p0r))), (k0, .inr (6, [.ref k0c, .ref k0l, .int x_k0_2])), (k0l, .inl (ct 1, 16, .inl g_k0l)), (k0c, .inl (ct 0, 4096, .inl g_k0c)), (m0s, .inl (ct 0, 64, .inl k_m0s4_7)), (m0, .inr (4, [.ref m0r, .ref m0s, .ref k0, .int y_m0_34_4, .int y_m0_44_5, .int 0, .int 0, .int 0, .long 1, .int 0])), (m0r, .inl (ct 2, 32, .inr (.inl u11_2)))] := hD
  refine lv_aload_n hx hb dX7_perform_14 rfl (lv_at hl 1 rfl) ?_
  refine lv_bipush (v := 10) hx hb dX7_perform_15 (by decide) ?_
  refine lv_ldc2 (v := 131136) hx hb hown (hn.get mw_1210 rfl) dX7_perform_17 ?_
  refine go_v (k1 := 0) (n1 := 0) (wr := [(p0, .inr (7, [.ref p0r, .int x_p0_1])), (p0r, .inl (ct 2, 4000, .inr (.inl g_p0r))), (k0, .inr (6, [.ref k0c, .ref k0l, .int x_k0_2])), (k0l, .inl (ct 1, 16, .inl g_k0l)), (k0c, .inl (ct 0, 4096, .inl g_k0c)), (m0s, .inl (ct 0, 64, .inl k_m0s4_7))]) [6, 7] [0, 1, 2, 3, 4, 5] (rn_VN (As := [.int 10, .long 131136]) (rest := []) (c_X4_set l D ct m0 (10 : Int32) (131136 : Int64) m0r m0s k0 y_m0_34_4 y_m0_44_5 (0 : Int32) (0 : Int32) (0 : Int32) (1 : Int64) (0 : Int32) u11_2 (rg_w (show rg (0 : Int32) 0 0 from rg_l (by decide)) (by decide)) _) (cn_of (n := 2) hn mw_1209 mw_4 mw_1206 mhX4_set ⟨(Nat.le_of_ble_eq_true rfl), (Nat.le_of_ble_eq_true rfl)⟩) hx hb hml hown hn hK hSK hZ hS mw_1208 mw_s132 (ci := 4) (q0 := 0) rfl rfl rfl rfl hl.1 (Nat.le_of_ble_eq_true rfl) dX7_perform_20 ⟨(Nat.le_of_ble_eq_true rfl), (Nat.le_of_ble_eq_true rfl)⟩) hP hD hS hA rfl rfl (by decide) (by decide) (by decide) (Nat.le_of_ble_eq_true rfl) (Nat.le_of_ble_eq_true rfl) (fun u20_2 H locs hp20_3 hP hD hS => ?_)
  have hP : va_P D vwCl [(p0, .inr (7, [.ref p0r, .int x_p0_1])), (p0r, .inl (ct 2, 4000, .inr (.inl g_p0r))), (k0, .inr (6, [.ref k0c, .ref k0l, .int x_k0_2])), (k0l, .inl (ct 1, 16, .inl g_k0l)), (k0c, .inl (ct 0, 4096, .inl g_k0c)), (m0s, .inl (ct 0, 64, .inl k_m0s4_7)), (m0, .inr (4, [.ref m0r, .ref m0s, .ref k0, .int y_m0_34_4, .int y_m0_44_5, .int 0, .int 0, .int 0, .long 1, .int 0])), (m0r, .inl (ct 2, 32, .inr (.inl u20_2)))] _ := hP
  have hD : va_D A [(p0, .inr (7, [.ref p0r, .int x_p0_1])), (p0r, .inl (ct 2, 4000, .inr (.inl g_p0r))), (k0, .inr (6, [.ref k0c, .ref k0l, .int x_k0_2])), (k0l, .inl (ct 1, 16, .inl g_k0l)), (k0c, .inl (ct 0, 4096, .inl g_k0c)), (m0s, .inl (ct 0, 64, .inl k_m0s4_7)), (m0, .inr (4, [.ref m0r, .ref m0s, .ref k0, .int y_m0_34_4, .int y_m0_44_5, .int 0, .int 0, .int 0, .long 1, .int 0])), (m0r, .inl (ct 2, 32, .inr (.inl u20_2)))] := hD
  refine lv_iconst (v := 0) hx hb dX7_perform_23 (by decide) ?_
  refine lv_istore (lv' := [(4, .int 0), (0, .ref p0), (1, .ref m0), (2, .int v1), (3, .int v2)]) hx hb dX7_perform_24 hl (by decide) rfl (fun ls hl => ?_)
  have b26 : ∀ (n : Nat) (j26_l4 : Int32) (j26_cm0s : Nat → Int32) (j26_fm0_5 : Int32) (j26_fm0_6 : Int32) (j26_fm0_7 : Int32) (j26_fm0_8 : Int64) (j26_fm0_9 : Int32) (j26_cm0r : Nat → Int64) (H : Heap) (locs : List Loc) (ls : Array Slot), (rg j26_l4 0 10001) → (Rg j26_cm0s 64 (-128) 127) → (rg j26_fm0_9 0 1) → ((2147483647 : Int) - j26_l4.toInt).toNat < n → lv_has ls 5 [(0, .ref p0), (1, .ref m0), (4, .int j26_l4)] → va_P D vwCl [(p0, .inr (7, [.ref p0r, .int x_p0_1])), (p0r, .inl (ct 2, 4000, .inr (.inl g_p0r))), (k0, .inr (6, [.ref k0c, .ref k0l, .int x_k0_2])), (k0l, .inl (ct 1, 16, .inl g_k0l)), (k0c, .inl (ct 0, 4096, .inl g_k0c)), (m0s, .inl (ct 0, 64, .inl j26_cm0s)), (m0, .inr (4, [.ref m0r, .ref m0s, .ref k0, .int y_m0_34_4, .int y_m0_44_5, .int j26_fm0_5, .int j26_fm0_6, .int j26_fm0_7, .long j26_fm0_8, .int j26_fm0_9])), (m0r, .inl (ct 2, 32, .inr (.inl j26_cm0r)))] H → va_D A [(p0, .inr (7, [.ref p0r, .int x_p0_1])), (p0r, .inl (ct 2, 4000, .inr (.inl g_p0r))), (k0, .inr (6, [.ref k0c, .ref k0l, .int x_k0_2])), (k0l, .inl (ct 1, 16, .inl g_k0l)), (k0c, .inl (ct 0, 4096, .inl g_k0c)), (m0s, .inl (ct 0, 64, .inl j26_cm0s)), (m0, .inr (4, [.ref m0r, .ref m0s, .ref k0, .int y_m0_34_4, .int y_m0_44_5, .int j26_fm0_5, .int j26_fm0_6, .int j26_fm0_7, .long j26_fm0_8, .int j26_fm0_9])), (m0r, .inl (ct 2, 32, .inr (.inl j26_cm0r)))] → va_S A s.heap H locs → W p l e ({ frames := 7, cells := 0, slots := 0, locals := 167 }) s m [.ref p0, .ref m0, .int v1, .int v2].toArray below meth c H locs 0 0 Q (F0 m 26 ls []) := by
    intro n
    induction n with
    | zero => intros; rename_i hms _ _ _ _; exact absurd hms (Nat.not_lt_zero _)
    | succ n ih =>
      intro j26_l4 j26_cm0s j26_fm0_5 j26_fm0_6 j26_fm0_7 j26_fm0_8 j26_fm0_9 j26_cm0r H locs ls r26_1001 hc26_1002 r26_1003 hms hl hP hD hS
      refine lv_aload_n hx hb dX7_perform_26 rfl (lv_at hl 1 rfl) ?_
      refine va_getN (D := D) (ci := 4) (v := .int j26_fm0_9) (C := RX4) (T := TX4) (N := 10) hx hb (htX4 hn) (fun _ h => h) hown hK hP 6 rfl rfl 9 (by decide) (hn.get mw_101 rfl) (fun _ h9 => h9) rfl dX7_perform_27 ?_
      have b77 : ∀  (H : Heap) (locs : List Loc) (ls : Array Slot), lv_has ls 5 [(1, .ref m0)] → va_P D vwCl [(p0, .inr (7, [.ref p0r, .int x_p0_1])), (p0r, .inl (ct 2, 4000, .inr (.inl g_p0r))), (k0, .inr (6, [.ref k0c, .ref k0l, .int x_k0_2])), (k0l, .inl (ct 1, 16, .inl g_k0l)), (k0c, .inl (ct 0, 4096, .inl g_k0c)), (m0s, .inl (ct 0, 64, .inl j26_cm0s)), (m0, .inr (4, [.ref m0r, .ref m0s, .ref k0, .int y_m0_34_4, .int y_m0_44_5, .int j26_fm0_5, .int j26_fm0_6, .int j26_fm0_7, .long j26_fm0_8, .int j26_fm0_9])), (m0r, .inl (ct 2, 32, .inr (.inl j26_cm0r)))] H → va_D A [(p0, .inr (7, [.ref p0r, .int x_p0_1])), (p0r, .inl (ct 2, 4000, .inr (.inl g_p0r))), (k0, .inr (6, [.ref k0c, .ref k0l, .int x_k0_2])), (k0l, .inl (ct 1, 16, .inl g_k0l)), (k0c, .inl (ct 0, 4096, .inl g_k0c)), (m0s, .inl (ct 0, 64, .inl j26_cm0s)), (m0, .inr (4, [.ref m0r, .ref m0s, .ref k0, .int y_m0_34_4, .int y_m0_44_5, .int j26_fm0_5, .int j26_fm0_6, .int j26_fm0_7, .long j26_fm0_8, .int j26_fm0_9])), (m0r, .inl (ct 2, 32, .inr (.inl j26_cm0r)))] → va_S A s.heap H locs → W p l e ({ frames := 7, cells := 0, slots := 0, locals := 167 }) s m [.ref p0, .ref m0, .int v1, .int v2].toArray below meth c H locs 0 0 Q (F0 m 77 ls []) := by
        intro  H locs ls  hl hP hD hS
        refine lv_aload_n hx hb dX7_perform_77 rfl (lv_at hl 0 rfl) ?_
        refine va_getN (D := D) (ci := 4) (v := .int j26_fm0_5) (C := RX4) (T := TX4) (N := 10) hx hb (htX4 hn) (fun _ h => h) hown hK hP 6 rfl rfl 5 (by decide) (hn.get mw_89 rfl) (fun _ h9 => h9) rfl dX7_perform_78 ?_
        refine lv_if_ne (tgt := 92) hx hb dX7_perform_81 (by decide) (fun c81_1 => ?_) (fun c81_1 => ?_)
        · have t81_2 := (i_ne c81_1)
          refine lv_lconst (v := 0) hx hb dX7_perform_92 (by decide) ?_
          exact endq_l hQ hx hb hr hlocks dX7_perform_93 (y_m0_34_4, y_m0_44_5, j26_fm0_5, j26_fm0_6, j26_fm0_7, j26_fm0_8, j26_fm0_9, j26_cm0r, j26_cm0s) ⟨r26_1003, hc26_1002, (show y_m0_34_4.toInt = v1.toInt by have q0 := (rg_any v1).1; have q1 := (rg_any v1).2; have q2 := (rg_any y_m0_34_4).1; have q3 := (rg_any y_m0_34_4).2; have q4 := hp4_9; omega)⟩ hP hD hS [0, 6, 7, 5, 1, 2, 3, 4] rfl (by decide) rfl (Nat.le_of_ble_eq_true rfl) (Nat.le_of_ble_eq_true rfl)
        · have t81_2 := (i_eq c81_1)
          have r81_3 : rg j26_fm0_5 0 0 := rg_eqA t81_2 (rg_any j26_fm0_5) (show rg (0 : Int32) 0 0 from rg_l (by decide)) (by decide)
          refine lv_aload_n hx hb dX7_perform_84 rfl (lv_at hl 0 rfl) ?_
          refine lv_iconst (v := 0) hx hb dX7_perform_85 (by decide) ?_
          refine go_l (k1 := 0) (n1 := 0) (wr := [(p0, .inr (7, [.ref p0r, .int x_p0_1])), (p0r, .inl (ct 2, 4000, .inr (.inl g_p0r))), (k0, .inr (6, [.ref k0c, .ref k0l, .int x_k0_2])), (k0l, .inl (ct 1, 16, .inl g_k0l)), (k0c, .inl (ct 0, 4096, .inl g_k0c)), (m0s, .inl (ct 0, 64, .inl j26_cm0s))]) [6, 7] [0, 1, 2, 3, 4, 5] (rn_VN (As := [.int 0]) (rest := []) (c_X4_get l D ct m0 (0 : Int32) m0r m0s k0 y_m0_34_4 y_m0_44_5 j26_fm0_5 j26_fm0_6 j26_fm0_7 j26_fm0_8 j26_fm0_9 j26_cm0r r26_1003 _) (cn_of (n := 1) hn mw_1225 mw_4 mw_1222 mhX4_get ⟨(Nat.le_of_ble_eq_true rfl), (Nat.le_of_ble_eq_true rfl)⟩) hx hb hml hown hn hK hSK hZ hS mw_1224 mw_s135 (ci := 4) (q0 := 0) rfl rfl rfl rfl hl.1 (Nat.le_of_ble_eq_true rfl) dX7_perform_86 ⟨(Nat.le_of_ble_eq_true rfl), (Nat.le_of_ble_eq_true rfl)⟩) hP hD hS hA rfl rfl (by decide) (by decide) (by decide) (Nat.le_of_ble_eq_true rfl) (Nat.le_of_ble_eq_true rfl) (fun r86_1 u86_2 H locs hp86_3 hP hD hS => ?_)
          have hP : va_P D vwCl [(p0, .inr (7, [.ref p0r, .int x_p0_1])), (p0r, .inl (ct 2, 4000, .inr (.inl g_p0r))), (k0, .inr (6, [.ref k0c, .ref k0l, .int x_k0_2])), (k0l, .inl (ct 1, 16, .inl g_k0l)), (k0c, .inl (ct 0, 4096, .inl g_k0c)), (m0s, .inl (ct 0, 64, .inl j26_cm0s)), (m0, .inr (4, [.ref m0r, .ref m0s, .ref k0, .int y_m0_34_4, .int y_m0_44_5, .int j26_fm0_5, .int j26_fm0_6, .int j26_fm0_7, .long j26_fm0_8, .int j26_fm0_9])), (m0r, .inl (ct 2, 32, .inr (.inl j26_cm0r)))] _ := hP
          have hD : va_D A [(p0, .inr (7, [.ref p0r, .int x_p0_1])), (p0r, .inl (ct 2, 4000, .inr (.inl g_p0r))), (k0, .inr (6, [.ref k0c, .ref k0l, .int x_k0_2])), (k0l, .inl (ct 1, 16, .inl g_k0l)), (k0c, .inl (ct 0, 4096, .inl g_k0c)), (m0s, .inl (ct 0, 64, .inl j26_cm0s)), (m0, .inr (4, [.ref m0r, .ref m0s, .ref k0, .int y_m0_34_4, .int y_m0_44_5, .int j26_fm0_5, .int j26_fm0_6, .int j26_fm0_7, .long j26_fm0_8, .int j26_fm0_9])), (m0r, .inl (ct 2, 32, .inr (.inl j26_cm0r)))] := hD
          refine lv_goto (tgt := 93) hx hb dX7_perform_89 (by decide) ?_
          exact endq_l hQ hx hb hr hlocks dX7_perform_93 (y_m0_34_4, y_m0_44_5, j26_fm0_5, j26_fm0_6, j26_fm0_7, j26_fm0_8, j26_fm0_9, j26_cm0r, j26_cm0s) ⟨r26_1003, hc26_1002, (show y_m0_34_4.toInt = v1.toInt by have q0 := (rg_any v1).1; have q1 := (rg_any v1).2; have q2 := (rg_any y_m0_34_4).1; have q3 := (rg_any y_m0_34_4).2; have q4 := hp4_9; omega)⟩ hP hD hS [0, 6, 7, 5, 1, 2, 3, 4] rfl (by decide) rfl (Nat.le_of_ble_eq_true rfl) (Nat.le_of_ble_eq_true rfl)
      refine lv_if_ne (tgt := 77) hx hb dX7_perform_30 (by decide) (fun c30_1 => ?_) (fun c30_1 => ?_)
      · have t30_2 := (i_ne c30_1)
        have r30_3 : rg j26_fm0_9 1 1 := rg_neAl t30_2 r26_1003 (show rg (0 : Int32) 0 0 from rg_l (by decide)) (by decide)
        exact b77  H locs ls  (lv_sub hl [1] rfl) hP hD hS
      · have t30_2 := (i_eq c30_1)
        have r30_3 : rg j26_fm0_9 0 0 := rg_eqA t30_2 r26_1003 (show rg (0 : Int32) 0 0 from rg_l (by decide)) (by decide)
        refine lv_iload hx hb dX7_perform_33 (lv_at hl 2 rfl) ?_
        refine lv_sipush (v := 10000) hx hb dX7_perform_35 (by decide) ?_
        refine lv_icmp_gt (tgt := 77) hx hb dX7_perform_38 (by decide) (fun c38_1 => ?_) (fun c38_1 => ?_)
        · have t38_2 := (i_lt c38_1)
          have r38_3 : rg j26_l4 10001 10001 := rg_ltB t38_2 (show rg (10000 : Int32) 10000 10000 from rg_l (by decide)) r26_1001 (by decide)
          exact b77  H locs ls  (lv_sub hl [1] rfl) hP hD hS
        · have t38_2 := (i_nlt c38_1)
          have r38_3 : rg j26_l4 0 10000 := rg_leA t38_2 r26_1001 (show rg (10000 : Int32) 10000 10000 from rg_l (by decide)) (by decide)
          refine lv_iload hx hb dX7_perform_41 (lv_at hl 2 rfl) ?_
          refine lv_sipush (v := 10000) hx hb dX7_perform_43 (by decide) ?_
          have b71 : ∀ (j71_cm0r : Nat → Int64) (j71_cm0s : Nat → Int32) (j71_fm0_5 : Int32) (j71_fm0_6 : Int32) (j71_fm0_7 : Int32) (j71_fm0_8 : Int64) (j71_fm0_9 : Int32) (H : Heap) (locs : List Loc) (ls : Array Slot), (Rg j71_cm0s 64 (-128) 127) → (rg j71_fm0_9 0 1) → lv_has ls 5 [(0, .ref p0), (1, .ref m0), (4, .int j26_l4)] → va_P D vwCl [(p0, .inr (7, [.ref p0r, .int x_p0_1])), (p0r, .inl (ct 2, 4000, .inr (.inl g_p0r))), (m0r, .inl (ct 2, 32, .inr (.inl j71_cm0r))), (m0s, .inl (ct 0, 64, .inl j71_cm0s)), (k0, .inr (6, [.ref k0c, .ref k0l, .int x_k0_2])), (k0l, .inl (ct 1, 16, .inl g_k0l)), (k0c, .inl (ct 0, 4096, .inl g_k0c)), (m0, .inr (4, [.ref m0r, .ref m0s, .ref k0, .int y_m0_34_4, .int y_m0_44_5, .int j71_fm0_5, .int j71_fm0_6, .int j71_fm0_7, .long j71_fm0_8, .int j71_fm0_9]))] H → va_D A [(p0, .inr (7, [.ref p0r, .int x_p0_1])), (p0r, .inl (ct 2, 4000, .inr (.inl g_p0r))), (m0r, .inl (ct 2, 32, .inr (.inl j71_cm0r))), (m0s, .inl (ct 0, 64, .inl j71_cm0s)), (k0, .inr (6, [.ref k0c, .ref k0l, .int x_k0_2])), (k0l, .inl (ct 1, 16, .inl g_k0l)), (k0c, .inl (ct 0, 4096, .inl g_k0c)), (m0, .inr (4, [.ref m0r, .ref m0s, .ref k0, .int y_m0_34_4, .int y_m0_44_5, .int j71_fm0_5, .int j71_fm0_6, .int j71_fm0_7, .long j71_fm0_8, .int j71_fm0_9]))] → va_S A s.heap H locs → W p l e ({ frames := 7, cells := 0, slots := 0, locals := 167 }) s m [.ref p0, .ref m0, .int v1, .int v2].toArray below meth c H locs 0 0 Q (F0 m 71 ls []) := by
            intro j71_cm0r j71_cm0s j71_fm0_5 j71_fm0_6 j71_fm0_7 j71_fm0_8 j71_fm0_9 H locs ls hc71_1001 r71_1002 hl hP hD hS
            obtain ⟨x71_1, ex71_1⟩ : ∃ z : Int32, z = j26_l4 + 1 := ⟨_, rfl⟩
            have r71_2 : rg x71_1 1 10001 := rg_add ex71_1 r38_3 (show rg (1 : Int32) 1 1 from rg_l (by decide)) (by decide)
            refine lv_iinc (v := x71_1) (lv' := [(4, .int x71_1), (0, .ref p0), (1, .ref m0)]) hx hb dX7_perform_71 hl (k := 2) rfl (by rw [ex71_1]; rfl) (by decide) rfl (fun ls hl => ?_)
            refine lv_goto (tgt := 26) hx hb dX7_perform_74 (by decide) ?_
            have hP := hP.sub (ws' := [(p0, .inr (7, [.ref p0r, .int x_p0_1])), (p0r, .inl (ct 2, 4000, .inr (.inl g_p0r))), (k0, .inr (6, [.ref k0c, .ref k0l, .int x_k0_2])), (k0l, .inl (ct 1, 16, .inl g_k0l)), (k0c, .inl (ct 0, 4096, .inl g_k0c)), (m0s, .inl (ct 0, 64, .inl j71_cm0s)), (m0, .inr (4, [.ref m0r, .ref m0s, .ref k0, .int y_m0_34_4, .int y_m0_44_5, .int j71_fm0_5, .int j71_fm0_6, .int j71_fm0_7, .long j71_fm0_8, .int j71_fm0_9])), (m0r, .inl (ct 2, 32, .inr (.inl j71_cm0r)))]) [0, 1, 4, 5, 6, 3, 7, 2] rfl
            have hD := hD.sub (ws' := [(p0, .inr (7, [.ref p0r, .int x_p0_1])), (p0r, .inl (ct 2, 4000, .inr (.inl g_p0r))), (k0, .inr (6, [.ref k0c, .ref k0l, .int x_k0_2])), (k0l, .inl (ct 1, 16, .inl g_k0l)), (k0c, .inl (ct 0, 4096, .inl g_k0c)), (m0s, .inl (ct 0, 64, .inl j71_cm0s)), (m0, .inr (4, [.ref m0r, .ref m0s, .ref k0, .int y_m0_34_4, .int y_m0_44_5, .int j71_fm0_5, .int j71_fm0_6, .int j71_fm0_7, .long j71_fm0_8, .int j71_fm0_9])), (m0r, .inl (ct 2, 32, .inr (.inl j71_cm0r)))]) [0, 1, 4, 5, 6, 3, 7, 2] (by decide) rfl
            exact ih x71_1 j71_cm0s j71_fm0_5 j71_fm0_6 j71_fm0_7 j71_fm0_8 j71_fm0_9 j71_cm0r H locs ls (rg_w r71_2 (by decide)) hc71_1001 r71_1002 (show ((2147483647 : Int) - x71_1.toInt).toNat < n by have q0 := r38_3.1; have q1 := r38_3.2; have q2 := r71_2.1; have q3 := r71_2.2; have q4 := (eq_add ex71_1 r38_3 (show rg (1 : Int32) 1 1 from rg_l (by decide)) (by decide)); have q5 := (show rg (1 : Int32) 1 1 from rg_l (by decide)).1; have q6 := (show rg (1 : Int32) 1 1 from rg_l (by decide)).2; have q7 := (show rg (10000 : Int32) 10000 10000 from rg_l (by decide)).1; have q8 := (show rg (10000 : Int32) 10000 10000 from rg_l (by decide)).2; have q9 := t38_2; have q10 := hms; omega) (lv_sub hl [1, 2, 0] rfl) hP hD hS
          refine lv_icmp_ne (tgt := 58) hx hb dX7_perform_46 (by decide) (fun c46_1 => ?_) (fun c46_1 => ?_)
          · have t46_2 := (i_ne c46_1)
            have r46_3 : rg j26_l4 0 9999 := rg_neAh t46_2 r38_3 (show rg (10000 : Int32) 10000 10000 from rg_l (by decide)) (by decide)
            refine lv_aload_n hx hb dX7_perform_58 rfl (lv_at hl 0 rfl) ?_
            refine lv_aload_n hx hb dX7_perform_59 rfl (lv_at hl 1 rfl) ?_
            refine go_v (k1 := 0) (n1 := 0) (wr := []) [0, 6, 1, 7, 5, 2, 3, 4] [] (rn_V (As := [.ref m0]) (rest := []) (c_X7_step l D ct p0 m0 p0r x_p0_1 m0r m0s k0 y_m0_34_4 y_m0_44_5 j26_fm0_5 j26_fm0_6 j26_fm0_7 j26_fm0_8 j26_fm0_9 g_p0r j26_cm0r j26_cm0s k0c k0l x_k0_2 g_k0l g_k0c h_x_p0_1 (rg_w r30_3 (by decide)) hc26_1002 h_x_k0_2 h_g_k0l h_g_k0c _) (cb_of (n := 1) hn mw_1218 mw_7 mw_1215 mhX7_step ⟨(Nat.le_of_ble_eq_true rfl), (Nat.le_of_ble_eq_true rfl)⟩) hx hb hml hown hn hK hSK hZ hS mw_1217 mw_s134 (ci := 7) (q0 := 0) rfl rfl rfl rfl hl.1 (Nat.le_of_ble_eq_true rfl) dX7_perform_60 ⟨(Nat.le_of_ble_eq_true rfl), (Nat.le_of_ble_eq_true rfl)⟩) hP hD hS hA rfl rfl (by decide) (by decide) (by decide) (Nat.le_of_ble_eq_true rfl) (Nat.le_of_ble_eq_true rfl) (fun u60_2 H locs hp60_3 hP hD hS => ?_)
            obtain ⟨y_m0_560_4, y_m0_860_5, y_m0_960_6, k_m0r60_7, k_m0s60_8⟩ := u60_2
            obtain ⟨hp60_9, hp60_10⟩ := hp60_3
            have hp60_9 : rg y_m0_960_6 0 1 := hp60_9
            have hP : va_P D vwCl [(p0, .inr (7, [.ref p0r, .int x_p0_1])), (m0, .inr (4, [.ref m0r, .ref m0s, .ref k0, .int y_m0_34_4, .int y_m0_44_5, .int y_m0_560_4, .int j26_fm0_6, .int j26_fm0_7, .long y_m0_860_5, .int y_m0_960_6])), (p0r, .inl (ct 2, 4000, .inr (.inl g_p0r))), (m0r, .inl (ct 2, 32, .inr (.inl k_m0r60_7))), (m0s, .inl (ct 0, 64, .inl k_m0s60_8)), (k0, .inr (6, [.ref k0c, .ref k0l, .int x_k0_2])), (k0l, .inl (ct 1, 16, .inl g_k0l)), (k0c, .inl (ct 0, 4096, .inl g_k0c))] _ := hP
            have hD : va_D A [(p0, .inr (7, [.ref p0r, .int x_p0_1])), (m0, .inr (4, [.ref m0r, .ref m0s, .ref k0, .int y_m0_34_4, .int y_m0_44_5, .int y_m0_560_4, .int j26_fm0_6, .int j26_fm0_7, .long y_m0_860_5, .int y_m0_960_6])), (p0r, .inl (ct 2, 4000, .inr (.inl g_p0r))), (m0r, .inl (ct 2, 32, .inr (.inl k_m0r60_7))), (m0s, .inl (ct 0, 64, .inl k_m0s60_8)), (k0, .inr (6, [.ref k0c, .ref k0l, .int x_k0_2])), (k0l, .inl (ct 1, 16, .inl g_k0l)), (k0c, .inl (ct 0, 4096, .inl g_k0c))] := hD
            refine lv_aload_n hx hb dX7_perform_63 rfl (lv_at hl 1 rfl) ?_
            refine lv_aload_n hx hb dX7_perform_64 rfl (lv_at hl 0 rfl) ?_
            refine va_get (D := D) (ci := 7) (v := .int x_p0_1) (C := RX7) (T := TX7) (N := 2) hx hb (htX7 hn) (fun _ h => h) hown hK hP 0 rfl rfl 1 (by decide) (hn.get mw_226 rfl) (fun _ h9 => h9) rfl dX7_perform_65 ?_
            refine go_v (k1 := 0) (n1 := 0) (wr := [(p0, .inr (7, [.ref p0r, .int x_p0_1])), (p0r, .inl (ct 2, 4000, .inr (.inl g_p0r))), (m0r, .inl (ct 2, 32, .inr (.inl k_m0r60_7))), (m0s, .inl (ct 0, 64, .inl k_m0s60_8)), (k0, .inr (6, [.ref k0c, .ref k0l, .int x_k0_2])), (k0l, .inl (ct 1, 16, .inl g_k0l)), (k0c, .inl (ct 0, 4096, .inl g_k0c))]) [1] [0, 2, 3, 4, 5, 6, 7] (rn_VN (As := [.int x_p0_1]) (rest := []) (c_X4_stepOn l D ct m0 x_p0_1 m0r m0s k0 y_m0_34_4 y_m0_44_5 y_m0_560_4 j26_fm0_6 j26_fm0_7 y_m0_860_5 y_m0_960_6 hp60_9 _) (cn_of (n := 1) hn mw_1280 mw_4 mw_1277 mhX4_stepOn ⟨(Nat.le_of_ble_eq_true rfl), (Nat.le_of_ble_eq_true rfl)⟩) hx hb hml hown hn hK hSK hZ hS mw_1279 mw_s143 (ci := 4) (q0 := 0) rfl rfl rfl rfl hl.1 (Nat.le_of_ble_eq_true rfl) dX7_perform_68 ⟨(Nat.le_of_ble_eq_true rfl), (Nat.le_of_ble_eq_true rfl)⟩) hP hD hS hA rfl rfl (by decide) (by decide) (by decide) (Nat.le_of_ble_eq_true rfl) (Nat.le_of_ble_eq_true rfl) (fun u68_2 H locs hp68_3 hP hD hS => ?_)
            obtain ⟨y_m0_568_4, y_m0_668_5, y_m0_768_6, y_m0_868_7, y_m0_968_8⟩ := u68_2
            have hp68_9 := hp68_3
            have hp68_9 : rg y_m0_968_8 0 1 := hp68_9
            have hP : va_P D vwCl [(p0, .inr (7, [.ref p0r, .int x_p0_1])), (p0r, .inl (ct 2, 4000, .inr (.inl g_p0r))), (m0r, .inl (ct 2, 32, .inr (.inl k_m0r60_7))), (m0s, .inl (ct 0, 64, .inl k_m0s60_8)), (k0, .inr (6, [.ref k0c, .ref k0l, .int x_k0_2])), (k0l, .inl (ct 1, 16, .inl g_k0l)), (k0c, .inl (ct 0, 4096, .inl g_k0c)), (m0, .inr (4, [.ref m0r, .ref m0s, .ref k0, .int y_m0_34_4, .int y_m0_44_5, .int y_m0_568_4, .int y_m0_668_5, .int y_m0_768_6, .long y_m0_868_7, .int y_m0_968_8]))] _ := hP
            have hD : va_D A [(p0, .inr (7, [.ref p0r, .int x_p0_1])), (p0r, .inl (ct 2, 4000, .inr (.inl g_p0r))), (m0r, .inl (ct 2, 32, .inr (.inl k_m0r60_7))), (m0s, .inl (ct 0, 64, .inl k_m0s60_8)), (k0, .inr (6, [.ref k0c, .ref k0l, .int x_k0_2])), (k0l, .inl (ct 1, 16, .inl g_k0l)), (k0c, .inl (ct 0, 4096, .inl g_k0c)), (m0, .inr (4, [.ref m0r, .ref m0s, .ref k0, .int y_m0_34_4, .int y_m0_44_5, .int y_m0_568_4, .int y_m0_668_5, .int y_m0_768_6, .long y_m0_868_7, .int y_m0_968_8]))] := hD
            exact b71 k_m0r60_7 k_m0s60_8 y_m0_568_4 y_m0_668_5 y_m0_768_6 y_m0_868_7 y_m0_968_8 H locs ls hp60_10 hp68_9 (lv_sub hl [0, 1, 2] rfl) hP hD hS
          · have t46_2 := (i_eq c46_1)
            have r46_3 : rg j26_l4 10000 10000 := rg_eqA t46_2 r38_3 (show rg (10000 : Int32) 10000 10000 from rg_l (by decide)) (by decide)
            refine lv_aload_n hx hb dX7_perform_49 rfl (lv_at hl 1 rfl) ?_
            refine lv_bipush (v := 9) hx hb dX7_perform_50 (by decide) ?_
            refine go_v (k1 := 0) (n1 := 0) (wr := [(p0, .inr (7, [.ref p0r, .int x_p0_1])), (p0r, .inl (ct 2, 4000, .inr (.inl g_p0r))), (k0, .inr (6, [.ref k0c, .ref k0l, .int x_k0_2])), (k0l, .inl (ct 1, 16, .inl g_k0l)), (k0c, .inl (ct 0, 4096, .inl g_k0c)), (m0s, .inl (ct 0, 64, .inl j26_cm0s)), (m0r, .inl (ct 2, 32, .inr (.inl j26_cm0r)))]) [6] [0, 1, 2, 3, 4, 5, 7] (rn_VN (As := [.int 9]) (rest := []) (c_X4_stop l D ct m0 (9 : Int32) m0r m0s k0 y_m0_34_4 y_m0_44_5 j26_fm0_5 j26_fm0_6 j26_fm0_7 j26_fm0_8 j26_fm0_9 (rg_w r30_3 (by decide)) _) (cn_of (n := 1) hn mw_1214 mw_4 mw_1211 mhX4_stop ⟨(Nat.le_of_ble_eq_true rfl), (Nat.le_of_ble_eq_true rfl)⟩) hx hb hml hown hn hK hSK hZ hS mw_1213 mw_s133 (ci := 4) (q0 := 0) rfl rfl rfl rfl hl.1 (Nat.le_of_ble_eq_true rfl) dX7_perform_52 ⟨(Nat.le_of_ble_eq_true rfl), (Nat.le_of_ble_eq_true rfl)⟩) hP hD hS hA rfl rfl (by decide) (by decide) (by decide) (Nat.le_of_ble_eq_true rfl) (Nat.le_of_ble_eq_true rfl) (fun u52_2 H locs hp52_3 hP hD hS => ?_)
            have hp52_4 := hp52_3
            have hp52_4 : u52_2.toInt = (9 : Int32).toInt := hp52_4
            have hP : va_P D vwCl [(p0, .inr (7, [.ref p0r, .int x_p0_1])), (p0r, .inl (ct 2, 4000, .inr (.inl g_p0r))), (k0, .inr (6, [.ref k0c, .ref k0l, .int x_k0_2])), (k0l, .inl (ct 1, 16, .inl g_k0l)), (k0c, .inl (ct 0, 4096, .inl g_k0c)), (m0s, .inl (ct 0, 64, .inl j26_cm0s)), (m0r, .inl (ct 2, 32, .inr (.inl j26_cm0r))), (m0, .inr (4, [.ref m0r, .ref m0s, .ref k0, .int y_m0_34_4, .int y_m0_44_5, .int u52_2, .int j26_fm0_6, .int j26_fm0_7, .long j26_fm0_8, .int 1]))] _ := hP
            have hD : va_D A [(p0, .inr (7, [.ref p0r, .int x_p0_1])), (p0r, .inl (ct 2, 4000, .inr (.inl g_p0r))), (k0, .inr (6, [.ref k0c, .ref k0l, .int x_k0_2])), (k0l, .inl (ct 1, 16, .inl g_k0l)), (k0c, .inl (ct 0, 4096, .inl g_k0c)), (m0s, .inl (ct 0, 64, .inl j26_cm0s)), (m0r, .inl (ct 2, 32, .inr (.inl j26_cm0r))), (m0, .inr (4, [.ref m0r, .ref m0s, .ref k0, .int y_m0_34_4, .int y_m0_44_5, .int u52_2, .int j26_fm0_6, .int j26_fm0_7, .long j26_fm0_8, .int 1]))] := hD
            refine lv_goto (tgt := 71) hx hb dX7_perform_55 (by decide) ?_
            have hP := hP.sub (ws' := [(p0, .inr (7, [.ref p0r, .int x_p0_1])), (p0r, .inl (ct 2, 4000, .inr (.inl g_p0r))), (m0r, .inl (ct 2, 32, .inr (.inl j26_cm0r))), (m0s, .inl (ct 0, 64, .inl j26_cm0s)), (k0, .inr (6, [.ref k0c, .ref k0l, .int x_k0_2])), (k0l, .inl (ct 1, 16, .inl g_k0l)), (k0c, .inl (ct 0, 4096, .inl g_k0c)), (m0, .inr (4, [.ref m0r, .ref m0s, .ref k0, .int y_m0_34_4, .int y_m0_44_5, .int u52_2, .int j26_fm0_6, .int j26_fm0_7, .long j26_fm0_8, .int 1]))]) [0, 1, 6, 5, 2, 3, 4, 7] rfl
            have hD := hD.sub (ws' := [(p0, .inr (7, [.ref p0r, .int x_p0_1])), (p0r, .inl (ct 2, 4000, .inr (.inl g_p0r))), (m0r, .inl (ct 2, 32, .inr (.inl j26_cm0r))), (m0s, .inl (ct 0, 64, .inl j26_cm0s)), (k0, .inr (6, [.ref k0c, .ref k0l, .int x_k0_2])), (k0l, .inl (ct 1, 16, .inl g_k0l)), (k0c, .inl (ct 0, 4096, .inl g_k0c)), (m0, .inr (4, [.ref m0r, .ref m0s, .ref k0, .int y_m0_34_4, .int y_m0_44_5, .int u52_2, .int j26_fm0_6, .int j26_fm0_7, .long j26_fm0_8, .int 1]))]) [0, 1, 6, 5, 2, 3, 4, 7] (by decide) rfl
            exact b71 j26_cm0r j26_cm0s u52_2 j26_fm0_6 j26_fm0_7 j26_fm0_8 (1 : Int32) H locs ls hc26_1002 (rg_w (show rg (1 : Int32) 1 1 from rg_l (by decide)) (by decide)) (lv_sub hl [0, 1, 2] rfl) hP hD hS
  exact b26 _ (0 : Int32) k_m0s4_7 (0 : Int32) (0 : Int32) (0 : Int32) (1 : Int64) (0 : Int32) u20_2 H locs ls (rg_w (show rg (0 : Int32) 0 0 from rg_l (by decide)) (by decide)) hp4_8 (rg_w (show rg (0 : Int32) 0 0 from rg_l (by decide)) (by decide)) (Nat.lt_succ_self _) (lv_sub hl [1, 2, 0] rfl) hP hD hS
set_option maxHeartbeats 2000000 in
theorem c_X5_highPart (l : Launch) (D : va_G) (ct : Nat → ClassId) (v0 : Int32)  : KI (S := Unit) l yX5_highPart cX5_highPart 1 (some .int) 1 20 D ct [.int v0] [] 0 0 (fun (r : Int32) (_ : Unit) => rg r 0 127) (fun (_ : Unit) => []) := by
  refine KIq_of (by decide) (Nat.le_of_ble_eq_true rfl) (fun p e s m below meth c A Q C0 hA H locs hS hP hD hQ ls hl => ?_)
  obtain ⟨hx, hb, hr, hown, hin, hml, hlocks, hn, hK, hZ, hSK⟩ := C0
  have hl : lv_has ls 1 [(0, .int v0)] := hl
  refine lv_iload_n hx hb dX5_highPart_0 rfl (lv_at hl 0 rfl) ?_
  refine lv_bipush (v := 25) hx hb dX5_highPart_1 (by decide) ?_
  refine lv_iushr hx hb dX5_highPart_3 rfl ?_
  refine lv_topi (fun z3_1 ez3_1 => ?_)
  have r3_2 : rg z3_1 0 127 := rg_ushr (k := 25) ez3_1 (by decide) (by decide)
  exact endq_i hQ hx hb hr hlocks dX5_highPart_4 rfl () r3_2 hP hD hS [] rfl (by decide) rfl (Nat.le_of_ble_eq_true rfl) (Nat.le_of_ble_eq_true rfl)
set_option maxHeartbeats 2000000 in
theorem c_X5_middlePart (l : Launch) (D : va_G) (ct : Nat → ClassId) (v0 : Int32)  : KI (S := Unit) l yX5_middlePart cX5_middlePart 1 (some .int) 1 20 D ct [.int v0] [] 0 0 (fun (r : Int32) (_ : Unit) => rg r 0 7) (fun (_ : Unit) => []) := by
  refine KIq_of (by decide) (Nat.le_of_ble_eq_true rfl) (fun p e s m below meth c A Q C0 hA H locs hS hP hD hQ ls hl => ?_)
  obtain ⟨hx, hb, hr, hown, hin, hml, hlocks, hn, hK, hZ, hSK⟩ := C0
  have hl : lv_has ls 1 [(0, .int v0)] := hl
  refine lv_iload_n hx hb dX5_middlePart_0 rfl (lv_at hl 0 rfl) ?_
  refine lv_bipush (v := 12) hx hb dX5_middlePart_1 (by decide) ?_
  refine lv_ishr hx hb dX5_middlePart_3 ?_
  refine lv_topi (fun z3_1 ez3_1 => ?_)
  have r3_2 : rg z3_1 (-524288) 524287 := rg_shr (k := 12) ez3_1 (by decide) (rg_any v0) (by decide)
  refine lv_bipush (v := 7) hx hb dX5_middlePart_4 (by decide) ?_
  refine lv_iand hx hb dX5_middlePart_6 ?_
  refine lv_topi (fun z6_1 ez6_1 => ?_)
  have r6_2 : rg z6_1 0 7 := rg_andr ez6_1 (show rg (7 : Int32) 7 7 from rg_l (by decide)) (by decide)
  exact endq_i hQ hx hb hr hlocks dX5_middlePart_7 rfl () r6_2 hP hD hS [] rfl (by decide) rfl (Nat.le_of_ble_eq_true rfl) (Nat.le_of_ble_eq_true rfl)
set_option maxHeartbeats 2000000 in
theorem c_X5_exists (l : Launch) (D : va_G) (ct : Nat → ClassId) (v0 : Int32)  : KI (S := Unit) l yX5_exists cX5_exists 3 (some .boolean) 2 40 D ct [.int v0] [] 0 0 (fun (r : Int32) (_ : Unit) => rg r 0 1) (fun (_ : Unit) => []) := by
  refine KIq_of (by decide) (Nat.le_of_ble_eq_true rfl) (fun p e s m below meth c A Q C0 hA H locs hS hP hD hQ ls hl => ?_)
  obtain ⟨hx, hb, hr, hown, hin, hml, hlocks, hn, hK, hZ, hSK⟩ := C0
  have hl : lv_has ls 3 [(0, .int v0)] := hl
  refine lv_iload_n hx hb dX5_exists_0 rfl (lv_at hl 0 rfl) ?_
  refine go_i (k1 := 0) (n1 := 0) (wr := []) [] [] (rn_S (As := [.int v0]) (rest := []) (c_X5_middlePart l D ct v0  _) (cb_of (n := 1) hn mw_1425 mw_5 mw_1423 mhX5_middlePart ⟨(Nat.le_of_ble_eq_true rfl), (Nat.le_of_ble_eq_true rfl)⟩) hx hb hml hown hn hK hSK hZ hS mw_1424 rfl hl.1 (Nat.le_of_ble_eq_true rfl) dX5_exists_1 ⟨(Nat.le_of_ble_eq_true rfl), (Nat.le_of_ble_eq_true rfl)⟩) hP hD hS hA rfl rfl (by decide) (by decide) (by decide) (Nat.le_of_ble_eq_true rfl) (Nat.le_of_ble_eq_true rfl) (fun r1_1 u1_2 H locs hp1_3 hP hD hS => ?_)
  have hp1_4 := hp1_3
  have hp1_4 : rg r1_1 0 7 := hp1_4
  have hP : va_P D vwCl [] _ := hP
  have hD : va_D A [] := hD
  refine lv_istore_n (lv' := [(1, .int r1_1), (0, .int v0)]) hx hb dX5_exists_4 rfl hl (by decide) rfl (fun ls hl => ?_)
  refine lv_iload_n hx hb dX5_exists_5 rfl (lv_at hl 1 rfl) ?_
  refine go_i (k1 := 0) (n1 := 0) (wr := []) [] [] (rn_S (As := [.int v0]) (rest := []) (c_X5_highPart l D ct v0  _) (cb_of (n := 1) hn mw_1428 mw_5 mw_1426 mhX5_highPart ⟨(Nat.le_of_ble_eq_true rfl), (Nat.le_of_ble_eq_true rfl)⟩) hx hb hml hown hn hK hSK hZ hS mw_1427 rfl hl.1 (Nat.le_of_ble_eq_true rfl) dX5_exists_6 ⟨(Nat.le_of_ble_eq_true rfl), (Nat.le_of_ble_eq_true rfl)⟩) hP hD hS hA rfl rfl (by decide) (by decide) (by decide) (Nat.le_of_ble_eq_true rfl) (Nat.le_of_ble_eq_true rfl) (fun r6_1 u6_2 H locs hp6_3 hP hD hS => ?_)
  have hp6_4 := hp6_3
  have hp6_4 : rg r6_1 0 127 := hp6_4
  have hP : va_P D vwCl [] _ := hP
  have hD : va_D A [] := hD
  refine lv_istore_n (lv' := [(2, .int r6_1), (1, .int r1_1), (0, .int v0)]) hx hb dX5_exists_9 rfl hl (by decide) rfl (fun ls hl => ?_)
  refine lv_iload_n hx hb dX5_exists_10 rfl (lv_at hl 2 rfl) ?_
  refine lv_bipush (v := 127) hx hb dX5_exists_11 (by decide) ?_
  refine lv_iand hx hb dX5_exists_13 ?_
  refine lv_topi (fun z13_1 ez13_1 => ?_)
  have r13_2 : rg z13_1 0 127 := rg_andr ez13_1 (show rg (127 : Int32) 127 127 from rg_l (by decide)) (by decide)
  by_cases h14_101 : z13_1.toInt = 3
  · have r14_102 : rg z13_1 3 3 := rg_at h14_101
    refine lv_lookup (off := 118) (tgt := 132) hx hb dX5_exists_14 (by decide) (by rw [h14_101]; rfl) (by decide) ?_
    refine lv_iload_n hx hb dX5_exists_132 rfl (lv_at hl 1 rfl) ?_
    refine lv_bipush (v := 7) hx hb dX5_exists_133 (by decide) ?_
    refine lv_icmp_eq (tgt := 142) hx hb dX5_exists_135 (by decide) (fun c135_1 => ?_) (fun c135_1 => ?_)
    · have t135_2 := (i_eq c135_1)
      have r135_3 : rg r1_1 7 7 := rg_eqA t135_2 hp1_4 (show rg (7 : Int32) 7 7 from rg_l (by decide)) (by decide)
      refine lv_iconst (v := 0) hx hb dX5_exists_142 (by decide) ?_
      exact endq_i hQ hx hb hr hlocks dX5_exists_143 (by decide) () (rg_w (show rg (0 : Int32) 0 0 from rg_l (by decide)) (by decide)) hP hD hS [] rfl (by decide) rfl (Nat.le_of_ble_eq_true rfl) (Nat.le_of_ble_eq_true rfl)
    · have t135_2 := (i_ne c135_1)
      have r135_3 : rg r1_1 0 6 := rg_neAh t135_2 hp1_4 (show rg (7 : Int32) 7 7 from rg_l (by decide)) (by decide)
      refine lv_iconst (v := 1) hx hb dX5_exists_138 (by decide) ?_
      refine lv_goto (tgt := 143) hx hb dX5_exists_139 (by decide) ?_
      exact endq_i hQ hx hb hr hlocks dX5_exists_143 (by decide) () (rg_w (show rg (1 : Int32) 1 1 from rg_l (by decide)) (by decide)) hP hD hS [] rfl (by decide) rfl (Nat.le_of_ble_eq_true rfl) (Nat.le_of_ble_eq_true rfl)
  by_cases h14_111 : z13_1.toInt = 19
  · have r14_112 : rg z13_1 19 19 := rg_at h14_111
    refine lv_lookup (off := 141) (tgt := 155) hx hb dX5_exists_14 (by decide) (by rw [h14_111]; rfl) (by decide) ?_
    refine lv_iload_n hx hb dX5_exists_155 rfl (lv_at hl 1 rfl) ?_
    refine lv_iconst (v := 1) hx hb dX5_exists_156 (by decide) ?_
    refine lv_icmp_ne (tgt := 174) hx hb dX5_exists_157 (by decide) (fun c157_1 => ?_) (fun c157_1 => ?_)
    · have t157_2 := (i_ne c157_1)
      refine lv_iload_n hx hb dX5_exists_174 rfl (lv_at hl 1 rfl) ?_
      refine lv_iconst (v := 5) hx hb dX5_exists_175 (by decide) ?_
      refine lv_icmp_ne (tgt := 193) hx hb dX5_exists_176 (by decide) (fun c176_1 => ?_) (fun c176_1 => ?_)
      · have t176_2 := (i_ne c176_1)
        refine lv_iconst (v := 1) hx hb dX5_exists_193 (by decide) ?_
        refine lv_goto (tgt := 198) hx hb dX5_exists_194 (by decide) ?_
        exact endq_i hQ hx hb hr hlocks dX5_exists_198 (by decide) () (rg_w (show rg (1 : Int32) 1 1 from rg_l (by decide)) (by decide)) hP hD hS [] rfl (by decide) rfl (Nat.le_of_ble_eq_true rfl) (Nat.le_of_ble_eq_true rfl)
      · have t176_2 := (i_eq c176_1)
        have r176_3 : rg r1_1 5 5 := rg_eqA t176_2 hp1_4 (show rg (5 : Int32) 5 5 from rg_l (by decide)) (by decide)
        refine lv_iload_n hx hb dX5_exists_179 rfl (lv_at hl 0 rfl) ?_
        refine lv_iconst (v := 1) hx hb dX5_exists_180 (by decide) ?_
        refine lv_ishr hx hb dX5_exists_181 ?_
        refine lv_topi (fun z181_1 ez181_1 => ?_)
        have r181_2 : rg z181_1 0 63 := rg_shr (k := 1) ez181_1 (by decide) hp6_4 (by decide)
        refine lv_if_eq (tgt := 193) hx hb dX5_exists_182 (by decide) (fun c182_1 => ?_) (fun c182_1 => ?_)
        · have t182_2 := (i_eq c182_1)
          have r182_3 : rg z181_1 0 0 := rg_eqA t182_2 r181_2 (show rg (0 : Int32) 0 0 from rg_l (by decide)) (by decide)
          refine lv_iconst (v := 1) hx hb dX5_exists_193 (by decide) ?_
          refine lv_goto (tgt := 198) hx hb dX5_exists_194 (by decide) ?_
          exact endq_i hQ hx hb hr hlocks dX5_exists_198 (by decide) () (rg_w (show rg (1 : Int32) 1 1 from rg_l (by decide)) (by decide)) hP hD hS [] rfl (by decide) rfl (Nat.le_of_ble_eq_true rfl) (Nat.le_of_ble_eq_true rfl)
        · have t182_2 := (i_ne c182_1)
          have r182_3 : rg z181_1 1 63 := rg_neAl t182_2 r181_2 (show rg (0 : Int32) 0 0 from rg_l (by decide)) (by decide)
          refine lv_iload_n hx hb dX5_exists_185 rfl (lv_at hl 0 rfl) ?_
          refine lv_iconst (v := 1) hx hb dX5_exists_186 (by decide) ?_
          refine lv_ishr hx hb dX5_exists_187 ?_
          refine lv_topi (fun z187_1 ez187_1 => ?_)
          have r187_2 : rg z187_1 0 63 := rg_shr (k := 1) ez187_1 (by decide) hp6_4 (by decide)
          refine lv_bipush (v := 16) hx hb dX5_exists_188 (by decide) ?_
          refine lv_icmp_ne (tgt := 197) hx hb dX5_exists_190 (by decide) (fun c190_1 => ?_) (fun c190_1 => ?_)
          · have t190_2 := (i_ne c190_1)
            refine lv_iconst (v := 0) hx hb dX5_exists_197 (by decide) ?_
            exact endq_i hQ hx hb hr hlocks dX5_exists_198 (by decide) () (rg_w (show rg (0 : Int32) 0 0 from rg_l (by decide)) (by decide)) hP hD hS [] rfl (by decide) rfl (Nat.le_of_ble_eq_true rfl) (Nat.le_of_ble_eq_true rfl)
          · have t190_2 := (i_eq c190_1)
            have r190_3 : rg z187_1 16 16 := rg_eqA t190_2 r187_2 (show rg (16 : Int32) 16 16 from rg_l (by decide)) (by decide)
            refine lv_iconst (v := 1) hx hb dX5_exists_193 (by decide) ?_
            refine lv_goto (tgt := 198) hx hb dX5_exists_194 (by decide) ?_
            exact endq_i hQ hx hb hr hlocks dX5_exists_198 (by decide) () (rg_w (show rg (1 : Int32) 1 1 from rg_l (by decide)) (by decide)) hP hD hS [] rfl (by decide) rfl (Nat.le_of_ble_eq_true rfl) (Nat.le_of_ble_eq_true rfl)
    · have t157_2 := (i_eq c157_1)
      have r157_3 : rg r1_1 1 1 := rg_eqA t157_2 hp1_4 (show rg (1 : Int32) 1 1 from rg_l (by decide)) (by decide)
      refine lv_iload_n hx hb dX5_exists_160 rfl (lv_at hl 0 rfl) ?_
      refine lv_iconst (v := 1) hx hb dX5_exists_161 (by decide) ?_
      refine lv_ishr hx hb dX5_exists_162 ?_
      refine lv_topi (fun z162_1 ez162_1 => ?_)
      have r162_2 : rg z162_1 0 63 := rg_shr (k := 1) ez162_1 (by decide) hp6_4 (by decide)
      refine lv_if_ne (tgt := 170) hx hb dX5_exists_163 (by decide) (fun c163_1 => ?_) (fun c163_1 => ?_)
      · have t163_2 := (i_ne c163_1)
        have r163_3 : rg z162_1 1 63 := rg_neAl t163_2 r162_2 (show rg (0 : Int32) 0 0 from rg_l (by decide)) (by decide)
        refine lv_iconst (v := 0) hx hb dX5_exists_170 (by decide) ?_
        refine lv_goto (tgt := 198) hx hb dX5_exists_171 (by decide) ?_
        exact endq_i hQ hx hb hr hlocks dX5_exists_198 (by decide) () (rg_w (show rg (0 : Int32) 0 0 from rg_l (by decide)) (by decide)) hP hD hS [] rfl (by decide) rfl (Nat.le_of_ble_eq_true rfl) (Nat.le_of_ble_eq_true rfl)
      · have t163_2 := (i_eq c163_1)
        have r163_3 : rg z162_1 0 0 := rg_eqA t163_2 r162_2 (show rg (0 : Int32) 0 0 from rg_l (by decide)) (by decide)
        refine lv_iconst (v := 1) hx hb dX5_exists_166 (by decide) ?_
        refine lv_goto (tgt := 198) hx hb dX5_exists_167 (by decide) ?_
        exact endq_i hQ hx hb hr hlocks dX5_exists_198 (by decide) () (rg_w (show rg (1 : Int32) 1 1 from rg_l (by decide)) (by decide)) hP hD hS [] rfl (by decide) rfl (Nat.le_of_ble_eq_true rfl) (Nat.le_of_ble_eq_true rfl)
  by_cases h14_121 : z13_1.toInt = 27
  · have r14_122 : rg z13_1 27 27 := rg_at h14_121
    refine lv_lookup (off := 230) (tgt := 244) hx hb dX5_exists_14 (by decide) (by rw [h14_121]; rfl) (by decide) ?_
    refine lv_iload_n hx hb dX5_exists_244 rfl (lv_at hl 1 rfl) ?_
    refine lv_if_eq (tgt := 272) hx hb dX5_exists_245 (by decide) (fun c245_1 => ?_) (fun c245_1 => ?_)
    · have t245_2 := (i_eq c245_1)
      have r245_3 : rg r1_1 0 0 := rg_eqA t245_2 hp1_4 (show rg (0 : Int32) 0 0 from rg_l (by decide)) (by decide)
      refine lv_iconst (v := 1) hx hb dX5_exists_272 (by decide) ?_
      refine lv_goto (tgt := 277) hx hb dX5_exists_273 (by decide) ?_
      exact endq_i hQ hx hb hr hlocks dX5_exists_277 (by decide) () (rg_w (show rg (1 : Int32) 1 1 from rg_l (by decide)) (by decide)) hP hD hS [] rfl (by decide) rfl (Nat.le_of_ble_eq_true rfl) (Nat.le_of_ble_eq_true rfl)
    · have t245_2 := (i_ne c245_1)
      have r245_3 : rg r1_1 1 7 := rg_neAl t245_2 hp1_4 (show rg (0 : Int32) 0 0 from rg_l (by decide)) (by decide)
      refine lv_iload_n hx hb dX5_exists_248 rfl (lv_at hl 1 rfl) ?_
      refine lv_iconst (v := 1) hx hb dX5_exists_249 (by decide) ?_
      have b257 : ∀  (H : Heap) (locs : List Loc) (ls : Array Slot), lv_has ls 3 [(1, .int r1_1), (2, .int r6_1)] → va_P D vwCl [] H → va_D A [] → va_S A s.heap H locs → W p l e ({ frames := 2, cells := 0, slots := 0, locals := 40 }) s m [.int v0].toArray below meth c H locs 0 0 Q (F0 m 257 ls []) := by
        intro  H locs ls  hl hP hD hS
        refine lv_iload_n hx hb dX5_exists_257 rfl (lv_at hl 0 rfl) ?_
        refine lv_iconst (v := 5) hx hb dX5_exists_258 (by decide) ?_
        refine lv_icmp_ne (tgt := 276) hx hb dX5_exists_259 (by decide) (fun c259_1 => ?_) (fun c259_1 => ?_)
        · have t259_2 := (i_ne c259_1)
          refine lv_iconst (v := 0) hx hb dX5_exists_276 (by decide) ?_
          exact endq_i hQ hx hb hr hlocks dX5_exists_277 (by decide) () (rg_w (show rg (0 : Int32) 0 0 from rg_l (by decide)) (by decide)) hP hD hS [] rfl (by decide) rfl (Nat.le_of_ble_eq_true rfl) (Nat.le_of_ble_eq_true rfl)
        · have t259_2 := (i_eq c259_1)
          have r259_3 : rg r1_1 5 5 := rg_eqA t259_2 r245_3 (show rg (5 : Int32) 5 5 from rg_l (by decide)) (by decide)
          refine lv_iload_n hx hb dX5_exists_262 rfl (lv_at hl 1 rfl) ?_
          refine lv_if_eq (tgt := 272) hx hb dX5_exists_263 (by decide) (fun c263_1 => ?_) (fun c263_1 => ?_)
          · have t263_2 := (i_eq c263_1)
            have r263_3 : rg r6_1 0 0 := rg_eqA t263_2 hp6_4 (show rg (0 : Int32) 0 0 from rg_l (by decide)) (by decide)
            refine lv_iconst (v := 1) hx hb dX5_exists_272 (by decide) ?_
            refine lv_goto (tgt := 277) hx hb dX5_exists_273 (by decide) ?_
            exact endq_i hQ hx hb hr hlocks dX5_exists_277 (by decide) () (rg_w (show rg (1 : Int32) 1 1 from rg_l (by decide)) (by decide)) hP hD hS [] rfl (by decide) rfl (Nat.le_of_ble_eq_true rfl) (Nat.le_of_ble_eq_true rfl)
          · have t263_2 := (i_ne c263_1)
            have r263_3 : rg r6_1 1 127 := rg_neAl t263_2 hp6_4 (show rg (0 : Int32) 0 0 from rg_l (by decide)) (by decide)
            refine lv_iload_n hx hb dX5_exists_266 rfl (lv_at hl 1 rfl) ?_
            refine lv_bipush (v := 32) hx hb dX5_exists_267 (by decide) ?_
            refine lv_icmp_ne (tgt := 276) hx hb dX5_exists_269 (by decide) (fun c269_1 => ?_) (fun c269_1 => ?_)
            · have t269_2 := (i_ne c269_1)
              refine lv_iconst (v := 0) hx hb dX5_exists_276 (by decide) ?_
              exact endq_i hQ hx hb hr hlocks dX5_exists_277 (by decide) () (rg_w (show rg (0 : Int32) 0 0 from rg_l (by decide)) (by decide)) hP hD hS [] rfl (by decide) rfl (Nat.le_of_ble_eq_true rfl) (Nat.le_of_ble_eq_true rfl)
            · have t269_2 := (i_eq c269_1)
              have r269_3 : rg r6_1 32 32 := rg_eqA t269_2 r263_3 (show rg (32 : Int32) 32 32 from rg_l (by decide)) (by decide)
              refine lv_iconst (v := 1) hx hb dX5_exists_272 (by decide) ?_
              refine lv_goto (tgt := 277) hx hb dX5_exists_273 (by decide) ?_
              exact endq_i hQ hx hb hr hlocks dX5_exists_277 (by decide) () (rg_w (show rg (1 : Int32) 1 1 from rg_l (by decide)) (by decide)) hP hD hS [] rfl (by decide) rfl (Nat.le_of_ble_eq_true rfl) (Nat.le_of_ble_eq_true rfl)
      refine lv_icmp_ne (tgt := 257) hx hb dX5_exists_250 (by decide) (fun c250_1 => ?_) (fun c250_1 => ?_)
      · have t250_2 := (i_ne c250_1)
        have r250_3 : rg r1_1 2 7 := rg_neAl t250_2 r245_3 (show rg (1 : Int32) 1 1 from rg_l (by decide)) (by decide)
        exact b257  H locs ls  (lv_sub hl [1, 0] rfl) hP hD hS
      · have t250_2 := (i_eq c250_1)
        have r250_3 : rg r1_1 1 1 := rg_eqA t250_2 r245_3 (show rg (1 : Int32) 1 1 from rg_l (by decide)) (by decide)
        refine lv_iload_n hx hb dX5_exists_253 rfl (lv_at hl 0 rfl) ?_
        refine lv_if_eq (tgt := 272) hx hb dX5_exists_254 (by decide) (fun c254_1 => ?_) (fun c254_1 => ?_)
        · have t254_2 := (i_eq c254_1)
          have r254_3 : rg r6_1 0 0 := rg_eqA t254_2 hp6_4 (show rg (0 : Int32) 0 0 from rg_l (by decide)) (by decide)
          refine lv_iconst (v := 1) hx hb dX5_exists_272 (by decide) ?_
          refine lv_goto (tgt := 277) hx hb dX5_exists_273 (by decide) ?_
          exact endq_i hQ hx hb hr hlocks dX5_exists_277 (by decide) () (rg_w (show rg (1 : Int32) 1 1 from rg_l (by decide)) (by decide)) hP hD hS [] rfl (by decide) rfl (Nat.le_of_ble_eq_true rfl) (Nat.le_of_ble_eq_true rfl)
        · have t254_2 := (i_ne c254_1)
          have r254_3 : rg r6_1 1 127 := rg_neAl t254_2 hp6_4 (show rg (0 : Int32) 0 0 from rg_l (by decide)) (by decide)
          exact b257  H locs ls  (lv_sub hl [1, 0] rfl) hP hD hS
  by_cases h14_131 : z13_1.toInt = 35
  · have r14_132 : rg z13_1 35 35 := rg_at h14_131
    refine lv_lookup (off := 130) (tgt := 144) hx hb dX5_exists_14 (by decide) (by rw [h14_131]; rfl) (by decide) ?_
    refine lv_iload_n hx hb dX5_exists_144 rfl (lv_at hl 1 rfl) ?_
    refine lv_iconst (v := 3) hx hb dX5_exists_145 (by decide) ?_
    refine lv_icmp_gt (tgt := 153) hx hb dX5_exists_146 (by decide) (fun c146_1 => ?_) (fun c146_1 => ?_)
    · have t146_2 := (i_lt c146_1)
      have r146_3 : rg r1_1 4 7 := rg_ltB t146_2 (show rg (3 : Int32) 3 3 from rg_l (by decide)) hp1_4 (by decide)
      refine lv_iconst (v := 0) hx hb dX5_exists_153 (by decide) ?_
      exact endq_i hQ hx hb hr hlocks dX5_exists_154 (by decide) () (rg_w (show rg (0 : Int32) 0 0 from rg_l (by decide)) (by decide)) hP hD hS [] rfl (by decide) rfl (Nat.le_of_ble_eq_true rfl) (Nat.le_of_ble_eq_true rfl)
    · have t146_2 := (i_nlt c146_1)
      have r146_3 : rg r1_1 0 3 := rg_leA t146_2 hp1_4 (show rg (3 : Int32) 3 3 from rg_l (by decide)) (by decide)
      refine lv_iconst (v := 1) hx hb dX5_exists_149 (by decide) ?_
      refine lv_goto (tgt := 154) hx hb dX5_exists_150 (by decide) ?_
      exact endq_i hQ hx hb hr hlocks dX5_exists_154 (by decide) () (rg_w (show rg (1 : Int32) 1 1 from rg_l (by decide)) (by decide)) hP hD hS [] rfl (by decide) rfl (Nat.le_of_ble_eq_true rfl) (Nat.le_of_ble_eq_true rfl)
  by_cases h14_141 : z13_1.toInt = 51
  · have r14_142 : rg z13_1 51 51 := rg_at h14_141
    refine lv_lookup (off := 185) (tgt := 199) hx hb dX5_exists_14 (by decide) (by rw [h14_141]; rfl) (by decide) ?_
    refine lv_iload_n hx hb dX5_exists_199 rfl (lv_at hl 0 rfl) ?_
    refine lv_if_eq (tgt := 238) hx hb dX5_exists_200 (by decide) (fun c200_1 => ?_) (fun c200_1 => ?_)
    · have t200_2 := (i_eq c200_1)
      have r200_3 : rg r6_1 0 0 := rg_eqA t200_2 hp6_4 (show rg (0 : Int32) 0 0 from rg_l (by decide)) (by decide)
      refine lv_iconst (v := 1) hx hb dX5_exists_238 (by decide) ?_
      refine lv_goto (tgt := 243) hx hb dX5_exists_239 (by decide) ?_
      exact endq_i hQ hx hb hr hlocks dX5_exists_243 (by decide) () (rg_w (show rg (1 : Int32) 1 1 from rg_l (by decide)) (by decide)) hP hD hS [] rfl (by decide) rfl (Nat.le_of_ble_eq_true rfl) (Nat.le_of_ble_eq_true rfl)
    · have t200_2 := (i_ne c200_1)
      have r200_3 : rg r6_1 1 127 := rg_neAl t200_2 hp6_4 (show rg (0 : Int32) 0 0 from rg_l (by decide)) (by decide)
      refine lv_iload_n hx hb dX5_exists_203 rfl (lv_at hl 0 rfl) ?_
      refine lv_iconst (v := 1) hx hb dX5_exists_204 (by decide) ?_
      have b223 : ∀  (H : Heap) (locs : List Loc) (ls : Array Slot), lv_has ls 3 [(1, .int r1_1), (2, .int r6_1)] → va_P D vwCl [] H → va_D A [] → va_S A s.heap H locs → W p l e ({ frames := 2, cells := 0, slots := 0, locals := 40 }) s m [.int v0].toArray below meth c H locs 0 0 Q (F0 m 223 ls []) := by
        intro  H locs ls  hl hP hD hS
        refine lv_iload_n hx hb dX5_exists_223 rfl (lv_at hl 1 rfl) ?_
        refine lv_bipush (v := 32) hx hb dX5_exists_224 (by decide) ?_
        refine lv_icmp_ne (tgt := 242) hx hb dX5_exists_226 (by decide) (fun c226_1 => ?_) (fun c226_1 => ?_)
        · have t226_2 := (i_ne c226_1)
          refine lv_iconst (v := 0) hx hb dX5_exists_242 (by decide) ?_
          exact endq_i hQ hx hb hr hlocks dX5_exists_243 (by decide) () (rg_w (show rg (0 : Int32) 0 0 from rg_l (by decide)) (by decide)) hP hD hS [] rfl (by decide) rfl (Nat.le_of_ble_eq_true rfl) (Nat.le_of_ble_eq_true rfl)
        · have t226_2 := (i_eq c226_1)
          have r226_3 : rg r6_1 32 32 := rg_eqA t226_2 r200_3 (show rg (32 : Int32) 32 32 from rg_l (by decide)) (by decide)
          refine lv_iload_n hx hb dX5_exists_229 rfl (lv_at hl 0 rfl) ?_
          refine lv_if_eq (tgt := 238) hx hb dX5_exists_230 (by decide) (fun c230_1 => ?_) (fun c230_1 => ?_)
          · have t230_2 := (i_eq c230_1)
            have r230_3 : rg r1_1 0 0 := rg_eqA t230_2 hp1_4 (show rg (0 : Int32) 0 0 from rg_l (by decide)) (by decide)
            refine lv_iconst (v := 1) hx hb dX5_exists_238 (by decide) ?_
            refine lv_goto (tgt := 243) hx hb dX5_exists_239 (by decide) ?_
            exact endq_i hQ hx hb hr hlocks dX5_exists_243 (by decide) () (rg_w (show rg (1 : Int32) 1 1 from rg_l (by decide)) (by decide)) hP hD hS [] rfl (by decide) rfl (Nat.le_of_ble_eq_true rfl) (Nat.le_of_ble_eq_true rfl)
          · have t230_2 := (i_ne c230_1)
            have r230_3 : rg r1_1 1 7 := rg_neAl t230_2 hp1_4 (show rg (0 : Int32) 0 0 from rg_l (by decide)) (by decide)
            refine lv_iload_n hx hb dX5_exists_233 rfl (lv_at hl 0 rfl) ?_
            refine lv_iconst (v := 5) hx hb dX5_exists_234 (by decide) ?_
            refine lv_icmp_ne (tgt := 242) hx hb dX5_exists_235 (by decide) (fun c235_1 => ?_) (fun c235_1 => ?_)
            · have t235_2 := (i_ne c235_1)
              refine lv_iconst (v := 0) hx hb dX5_exists_242 (by decide) ?_
              exact endq_i hQ hx hb hr hlocks dX5_exists_243 (by decide) () (rg_w (show rg (0 : Int32) 0 0 from rg_l (by decide)) (by decide)) hP hD hS [] rfl (by decide) rfl (Nat.le_of_ble_eq_true rfl) (Nat.le_of_ble_eq_true rfl)
            · have t235_2 := (i_eq c235_1)
              have r235_3 : rg r1_1 5 5 := rg_eqA t235_2 r230_3 (show rg (5 : Int32) 5 5 from rg_l (by decide)) (by decide)
              refine lv_iconst (v := 1) hx hb dX5_exists_238 (by decide) ?_
              refine lv_goto (tgt := 243) hx hb dX5_exists_239 (by decide) ?_
              exact endq_i hQ hx hb hr hlocks dX5_exists_243 (by decide) () (rg_w (show rg (1 : Int32) 1 1 from rg_l (by decide)) (by decide)) hP hD hS [] rfl (by decide) rfl (Nat.le_of_ble_eq_true rfl) (Nat.le_of_ble_eq_true rfl)
      refine lv_icmp_ne (tgt := 223) hx hb dX5_exists_205 (by decide) (fun c205_1 => ?_) (fun c205_1 => ?_)
      · have t205_2 := (i_ne c205_1)
        have r205_3 : rg r6_1 2 127 := rg_neAl t205_2 r200_3 (show rg (1 : Int32) 1 1 from rg_l (by decide)) (by decide)
        exact b223  H locs ls  (lv_sub hl [1, 0] rfl) hP hD hS
      · have t205_2 := (i_eq c205_1)
        have r205_3 : rg r6_1 1 1 := rg_eqA t205_2 r200_3 (show rg (1 : Int32) 1 1 from rg_l (by decide)) (by decide)
        refine lv_iload_n hx hb dX5_exists_208 rfl (lv_at hl 1 rfl) ?_
        refine lv_if_eq (tgt := 238) hx hb dX5_exists_209 (by decide) (fun c209_1 => ?_) (fun c209_1 => ?_)
        · have t209_2 := (i_eq c209_1)
          have r209_3 : rg r1_1 0 0 := rg_eqA t209_2 hp1_4 (show rg (0 : Int32) 0 0 from rg_l (by decide)) (by decide)
          refine lv_iconst (v := 1) hx hb dX5_exists_238 (by decide) ?_
          refine lv_goto (tgt := 243) hx hb dX5_exists_239 (by decide) ?_
          exact endq_i hQ hx hb hr hlocks dX5_exists_243 (by decide) () (rg_w (show rg (1 : Int32) 1 1 from rg_l (by decide)) (by decide)) hP hD hS [] rfl (by decide) rfl (Nat.le_of_ble_eq_true rfl) (Nat.le_of_ble_eq_true rfl)
        · have t209_2 := (i_ne c209_1)
          have r209_3 : rg r1_1 1 7 := rg_neAl t209_2 hp1_4 (show rg (0 : Int32) 0 0 from rg_l (by decide)) (by decide)
          refine lv_iload_n hx hb dX5_exists_212 rfl (lv_at hl 1 rfl) ?_
          refine lv_iconst (v := 5) hx hb dX5_exists_213 (by decide) ?_
          refine lv_icmp_eq (tgt := 238) hx hb dX5_exists_214 (by decide) (fun c214_1 => ?_) (fun c214_1 => ?_)
          · have t214_2 := (i_eq c214_1)
            have r214_3 : rg r1_1 5 5 := rg_eqA t214_2 r209_3 (show rg (5 : Int32) 5 5 from rg_l (by decide)) (by decide)
            refine lv_iconst (v := 1) hx hb dX5_exists_238 (by decide) ?_
            refine lv_goto (tgt := 243) hx hb dX5_exists_239 (by decide) ?_
            exact endq_i hQ hx hb hr hlocks dX5_exists_243 (by decide) () (rg_w (show rg (1 : Int32) 1 1 from rg_l (by decide)) (by decide)) hP hD hS [] rfl (by decide) rfl (Nat.le_of_ble_eq_true rfl) (Nat.le_of_ble_eq_true rfl)
          · have t214_2 := (i_ne c214_1)
            refine lv_iload_n hx hb dX5_exists_217 rfl (lv_at hl 1 rfl) ?_
            refine lv_bipush (v := 7) hx hb dX5_exists_218 (by decide) ?_
            refine lv_icmp_eq (tgt := 238) hx hb dX5_exists_220 (by decide) (fun c220_1 => ?_) (fun c220_1 => ?_)
            · have t220_2 := (i_eq c220_1)
              have r220_3 : rg r1_1 7 7 := rg_eqA t220_2 r209_3 (show rg (7 : Int32) 7 7 from rg_l (by decide)) (by decide)
              refine lv_iconst (v := 1) hx hb dX5_exists_238 (by decide) ?_
              refine lv_goto (tgt := 243) hx hb dX5_exists_239 (by decide) ?_
              exact endq_i hQ hx hb hr hlocks dX5_exists_243 (by decide) () (rg_w (show rg (1 : Int32) 1 1 from rg_l (by decide)) (by decide)) hP hD hS [] rfl (by decide) rfl (Nat.le_of_ble_eq_true rfl) (Nat.le_of_ble_eq_true rfl)
            · have t220_2 := (i_ne c220_1)
              have r220_3 : rg r1_1 1 6 := rg_neAh t220_2 r209_3 (show rg (7 : Int32) 7 7 from rg_l (by decide)) (by decide)
              exact b223  H locs ls  (lv_sub hl [1, 0] rfl) hP hD hS
  by_cases h14_151 : z13_1.toInt = 55
  · have r14_152 : rg z13_1 55 55 := rg_at h14_151
    refine lv_lookup (off := 90) (tgt := 104) hx hb dX5_exists_14 (by decide) (by rw [h14_151]; rfl) (by decide) ?_
    refine lv_iconst (v := 1) hx hb dX5_exists_104 (by decide) ?_
    exact endq_i hQ hx hb hr hlocks dX5_exists_105 (by decide) () (rg_w (show rg (1 : Int32) 1 1 from rg_l (by decide)) (by decide)) hP hD hS [] rfl (by decide) rfl (Nat.le_of_ble_eq_true rfl) (Nat.le_of_ble_eq_true rfl)
  by_cases h14_161 : z13_1.toInt = 59
  · have r14_162 : rg z13_1 59 59 := rg_at h14_161
    refine lv_lookup (off := 264) (tgt := 278) hx hb dX5_exists_14 (by decide) (by rw [h14_161]; rfl) (by decide) ?_
    refine lv_iload_n hx hb dX5_exists_278 rfl (lv_at hl 0 rfl) ?_
    have b296 : ∀  (H : Heap) (locs : List Loc) (ls : Array Slot), lv_has ls 3 [(1, .int r1_1), (2, .int r6_1)] → va_P D vwCl [] H → va_D A [] → va_S A s.heap H locs → W p l e ({ frames := 2, cells := 0, slots := 0, locals := 40 }) s m [.int v0].toArray below meth c H locs 0 0 Q (F0 m 296 ls []) := by
      intro  H locs ls  hl hP hD hS
      refine lv_iload_n hx hb dX5_exists_296 rfl (lv_at hl 1 rfl) ?_
      refine lv_iconst (v := 1) hx hb dX5_exists_297 (by decide) ?_
      have b316 : ∀  (H : Heap) (locs : List Loc) (ls : Array Slot), lv_has ls 3 [(1, .int r1_1), (2, .int r6_1)] → va_P D vwCl [] H → va_D A [] → va_S A s.heap H locs → W p l e ({ frames := 2, cells := 0, slots := 0, locals := 40 }) s m [.int v0].toArray below meth c H locs 0 0 Q (F0 m 316 ls []) := by
        intro  H locs ls  hl hP hD hS
        refine lv_iload_n hx hb dX5_exists_316 rfl (lv_at hl 1 rfl) ?_
        refine lv_bipush (v := 32) hx hb dX5_exists_317 (by decide) ?_
        refine lv_icmp_ne (tgt := 335) hx hb dX5_exists_319 (by decide) (fun c319_1 => ?_) (fun c319_1 => ?_)
        · have t319_2 := (i_ne c319_1)
          refine lv_iconst (v := 0) hx hb dX5_exists_335 (by decide) ?_
          exact endq_i hQ hx hb hr hlocks dX5_exists_336 (by decide) () (rg_w (show rg (0 : Int32) 0 0 from rg_l (by decide)) (by decide)) hP hD hS [] rfl (by decide) rfl (Nat.le_of_ble_eq_true rfl) (Nat.le_of_ble_eq_true rfl)
        · have t319_2 := (i_eq c319_1)
          have r319_3 : rg r6_1 32 32 := rg_eqA t319_2 hp6_4 (show rg (32 : Int32) 32 32 from rg_l (by decide)) (by decide)
          refine lv_iload_n hx hb dX5_exists_322 rfl (lv_at hl 0 rfl) ?_
          refine lv_if_eq (tgt := 331) hx hb dX5_exists_323 (by decide) (fun c323_1 => ?_) (fun c323_1 => ?_)
          · have t323_2 := (i_eq c323_1)
            have r323_3 : rg r1_1 0 0 := rg_eqA t323_2 hp1_4 (show rg (0 : Int32) 0 0 from rg_l (by decide)) (by decide)
            refine lv_iconst (v := 1) hx hb dX5_exists_331 (by decide) ?_
            refine lv_goto (tgt := 336) hx hb dX5_exists_332 (by decide) ?_
            exact endq_i hQ hx hb hr hlocks dX5_exists_336 (by decide) () (rg_w (show rg (1 : Int32) 1 1 from rg_l (by decide)) (by decide)) hP hD hS [] rfl (by decide) rfl (Nat.le_of_ble_eq_true rfl) (Nat.le_of_ble_eq_true rfl)
          · have t323_2 := (i_ne c323_1)
            have r323_3 : rg r1_1 1 7 := rg_neAl t323_2 hp1_4 (show rg (0 : Int32) 0 0 from rg_l (by decide)) (by decide)
            refine lv_iload_n hx hb dX5_exists_326 rfl (lv_at hl 0 rfl) ?_
            refine lv_iconst (v := 5) hx hb dX5_exists_327 (by decide) ?_
            refine lv_icmp_ne (tgt := 335) hx hb dX5_exists_328 (by decide) (fun c328_1 => ?_) (fun c328_1 => ?_)
            · have t328_2 := (i_ne c328_1)
              refine lv_iconst (v := 0) hx hb dX5_exists_335 (by decide) ?_
              exact endq_i hQ hx hb hr hlocks dX5_exists_336 (by decide) () (rg_w (show rg (0 : Int32) 0 0 from rg_l (by decide)) (by decide)) hP hD hS [] rfl (by decide) rfl (Nat.le_of_ble_eq_true rfl) (Nat.le_of_ble_eq_true rfl)
            · have t328_2 := (i_eq c328_1)
              have r328_3 : rg r1_1 5 5 := rg_eqA t328_2 r323_3 (show rg (5 : Int32) 5 5 from rg_l (by decide)) (by decide)
              refine lv_iconst (v := 1) hx hb dX5_exists_331 (by decide) ?_
              refine lv_goto (tgt := 336) hx hb dX5_exists_332 (by decide) ?_
              exact endq_i hQ hx hb hr hlocks dX5_exists_336 (by decide) () (rg_w (show rg (1 : Int32) 1 1 from rg_l (by decide)) (by decide)) hP hD hS [] rfl (by decide) rfl (Nat.le_of_ble_eq_true rfl) (Nat.le_of_ble_eq_true rfl)
      refine lv_icmp_ne (tgt := 316) hx hb dX5_exists_298 (by decide) (fun c298_1 => ?_) (fun c298_1 => ?_)
      · have t298_2 := (i_ne c298_1)
        exact b316  H locs ls  (lv_sub hl [0, 1] rfl) hP hD hS
      · have t298_2 := (i_eq c298_1)
        have r298_3 : rg r6_1 1 1 := rg_eqA t298_2 hp6_4 (show rg (1 : Int32) 1 1 from rg_l (by decide)) (by decide)
        refine lv_iload_n hx hb dX5_exists_301 rfl (lv_at hl 0 rfl) ?_
        refine lv_if_eq (tgt := 331) hx hb dX5_exists_302 (by decide) (fun c302_1 => ?_) (fun c302_1 => ?_)
        · have t302_2 := (i_eq c302_1)
          have r302_3 : rg r1_1 0 0 := rg_eqA t302_2 hp1_4 (show rg (0 : Int32) 0 0 from rg_l (by decide)) (by decide)
          refine lv_iconst (v := 1) hx hb dX5_exists_331 (by decide) ?_
          refine lv_goto (tgt := 336) hx hb dX5_exists_332 (by decide) ?_
          exact endq_i hQ hx hb hr hlocks dX5_exists_336 (by decide) () (rg_w (show rg (1 : Int32) 1 1 from rg_l (by decide)) (by decide)) hP hD hS [] rfl (by decide) rfl (Nat.le_of_ble_eq_true rfl) (Nat.le_of_ble_eq_true rfl)
        · have t302_2 := (i_ne c302_1)
          have r302_3 : rg r1_1 1 7 := rg_neAl t302_2 hp1_4 (show rg (0 : Int32) 0 0 from rg_l (by decide)) (by decide)
          refine lv_iload_n hx hb dX5_exists_305 rfl (lv_at hl 0 rfl) ?_
          refine lv_iconst (v := 5) hx hb dX5_exists_306 (by decide) ?_
          refine lv_icmp_eq (tgt := 331) hx hb dX5_exists_307 (by decide) (fun c307_1 => ?_) (fun c307_1 => ?_)
          · have t307_2 := (i_eq c307_1)
            have r307_3 : rg r1_1 5 5 := rg_eqA t307_2 r302_3 (show rg (5 : Int32) 5 5 from rg_l (by decide)) (by decide)
            refine lv_iconst (v := 1) hx hb dX5_exists_331 (by decide) ?_
            refine lv_goto (tgt := 336) hx hb dX5_exists_332 (by decide) ?_
            exact endq_i hQ hx hb hr hlocks dX5_exists_336 (by decide) () (rg_w (show rg (1 : Int32) 1 1 from rg_l (by decide)) (by decide)) hP hD hS [] rfl (by decide) rfl (Nat.le_of_ble_eq_true rfl) (Nat.le_of_ble_eq_true rfl)
          · have t307_2 := (i_ne c307_1)
            refine lv_iload_n hx hb dX5_exists_310 rfl (lv_at hl 0 rfl) ?_
            refine lv_bipush (v := 7) hx hb dX5_exists_311 (by decide) ?_
            refine lv_icmp_eq (tgt := 331) hx hb dX5_exists_313 (by decide) (fun c313_1 => ?_) (fun c313_1 => ?_)
            · have t313_2 := (i_eq c313_1)
              have r313_3 : rg r1_1 7 7 := rg_eqA t313_2 r302_3 (show rg (7 : Int32) 7 7 from rg_l (by decide)) (by decide)
              refine lv_iconst (v := 1) hx hb dX5_exists_331 (by decide) ?_
              refine lv_goto (tgt := 336) hx hb dX5_exists_332 (by decide) ?_
              exact endq_i hQ hx hb hr hlocks dX5_exists_336 (by decide) () (rg_w (show rg (1 : Int32) 1 1 from rg_l (by decide)) (by decide)) hP hD hS [] rfl (by decide) rfl (Nat.le_of_ble_eq_true rfl) (Nat.le_of_ble_eq_true rfl)
            · have t313_2 := (i_ne c313_1)
              have r313_3 : rg r1_1 1 6 := rg_neAh t313_2 r302_3 (show rg (7 : Int32) 7 7 from rg_l (by decide)) (by decide)
              exact b316  H locs ls  (lv_sub hl [0, 1] rfl) hP hD hS
    refine lv_if_ne (tgt := 296) hx hb dX5_exists_279 (by decide) (fun c279_1 => ?_) (fun c279_1 => ?_)
    · have t279_2 := (i_ne c279_1)
      have r279_3 : rg r6_1 1 127 := rg_neAl t279_2 hp6_4 (show rg (0 : Int32) 0 0 from rg_l (by decide)) (by decide)
      exact b296  H locs ls  (lv_sub hl [1, 0] rfl) hP hD hS
    · have t279_2 := (i_eq c279_1)
      have r279_3 : rg r6_1 0 0 := rg_eqA t279_2 hp6_4 (show rg (0 : Int32) 0 0 from rg_l (by decide)) (by decide)
      refine lv_iload_n hx hb dX5_exists_282 rfl (lv_at hl 1 rfl) ?_
      refine lv_if_eq (tgt := 331) hx hb dX5_exists_283 (by decide) (fun c283_1 => ?_) (fun c283_1 => ?_)
      · have t283_2 := (i_eq c283_1)
        have r283_3 : rg r1_1 0 0 := rg_eqA t283_2 hp1_4 (show rg (0 : Int32) 0 0 from rg_l (by decide)) (by decide)
        refine lv_iconst (v := 1) hx hb dX5_exists_331 (by decide) ?_
        refine lv_goto (tgt := 336) hx hb dX5_exists_332 (by decide) ?_
        exact endq_i hQ hx hb hr hlocks dX5_exists_336 (by decide) () (rg_w (show rg (1 : Int32) 1 1 from rg_l (by decide)) (by decide)) hP hD hS [] rfl (by decide) rfl (Nat.le_of_ble_eq_true rfl) (Nat.le_of_ble_eq_true rfl)
      · have t283_2 := (i_ne c283_1)
        have r283_3 : rg r1_1 1 7 := rg_neAl t283_2 hp1_4 (show rg (0 : Int32) 0 0 from rg_l (by decide)) (by decide)
        refine lv_iload_n hx hb dX5_exists_286 rfl (lv_at hl 1 rfl) ?_
        refine lv_iconst (v := 1) hx hb dX5_exists_287 (by decide) ?_
        refine lv_icmp_eq (tgt := 331) hx hb dX5_exists_288 (by decide) (fun c288_1 => ?_) (fun c288_1 => ?_)
        · have t288_2 := (i_eq c288_1)
          have r288_3 : rg r1_1 1 1 := rg_eqA t288_2 r283_3 (show rg (1 : Int32) 1 1 from rg_l (by decide)) (by decide)
          refine lv_iconst (v := 1) hx hb dX5_exists_331 (by decide) ?_
          refine lv_goto (tgt := 336) hx hb dX5_exists_332 (by decide) ?_
          exact endq_i hQ hx hb hr hlocks dX5_exists_336 (by decide) () (rg_w (show rg (1 : Int32) 1 1 from rg_l (by decide)) (by decide)) hP hD hS [] rfl (by decide) rfl (Nat.le_of_ble_eq_true rfl) (Nat.le_of_ble_eq_true rfl)
        · have t288_2 := (i_ne c288_1)
          have r288_3 : rg r1_1 2 7 := rg_neAl t288_2 r283_3 (show rg (1 : Int32) 1 1 from rg_l (by decide)) (by decide)
          refine lv_iload_n hx hb dX5_exists_291 rfl (lv_at hl 1 rfl) ?_
          refine lv_iconst (v := 5) hx hb dX5_exists_292 (by decide) ?_
          refine lv_icmp_eq (tgt := 331) hx hb dX5_exists_293 (by decide) (fun c293_1 => ?_) (fun c293_1 => ?_)
          · have t293_2 := (i_eq c293_1)
            have r293_3 : rg r1_1 5 5 := rg_eqA t293_2 r288_3 (show rg (5 : Int32) 5 5 from rg_l (by decide)) (by decide)
            refine lv_iconst (v := 1) hx hb dX5_exists_331 (by decide) ?_
            refine lv_goto (tgt := 336) hx hb dX5_exists_332 (by decide) ?_
            exact endq_i hQ hx hb hr hlocks dX5_exists_336 (by decide) () (rg_w (show rg (1 : Int32) 1 1 from rg_l (by decide)) (by decide)) hP hD hS [] rfl (by decide) rfl (Nat.le_of_ble_eq_true rfl) (Nat.le_of_ble_eq_true rfl)
          · have t293_2 := (i_ne c293_1)
            exact b296  H locs ls  (lv_sub hl [1, 0] rfl) hP hD hS
  by_cases h14_171 : z13_1.toInt = 99
  · have r14_172 : rg z13_1 99 99 := rg_at h14_171
    refine lv_lookup (off := 102) (tgt := 116) hx hb dX5_exists_14 (by decide) (by rw [h14_171]; rfl) (by decide) ?_
    refine lv_iload_n hx hb dX5_exists_116 rfl (lv_at hl 1 rfl) ?_
    refine lv_iconst (v := 2) hx hb dX5_exists_117 (by decide) ?_
    refine lv_icmp_eq (tgt := 130) hx hb dX5_exists_118 (by decide) (fun c118_1 => ?_) (fun c118_1 => ?_)
    · have t118_2 := (i_eq c118_1)
      have r118_3 : rg r1_1 2 2 := rg_eqA t118_2 hp1_4 (show rg (2 : Int32) 2 2 from rg_l (by decide)) (by decide)
      refine lv_iconst (v := 0) hx hb dX5_exists_130 (by decide) ?_
      exact endq_i hQ hx hb hr hlocks dX5_exists_131 (by decide) () (rg_w (show rg (0 : Int32) 0 0 from rg_l (by decide)) (by decide)) hP hD hS [] rfl (by decide) rfl (Nat.le_of_ble_eq_true rfl) (Nat.le_of_ble_eq_true rfl)
    · have t118_2 := (i_ne c118_1)
      refine lv_iload_n hx hb dX5_exists_121 rfl (lv_at hl 1 rfl) ?_
      refine lv_iconst (v := 3) hx hb dX5_exists_122 (by decide) ?_
      refine lv_icmp_eq (tgt := 130) hx hb dX5_exists_123 (by decide) (fun c123_1 => ?_) (fun c123_1 => ?_)
      · have t123_2 := (i_eq c123_1)
        have r123_3 : rg r1_1 3 3 := rg_eqA t123_2 hp1_4 (show rg (3 : Int32) 3 3 from rg_l (by decide)) (by decide)
        refine lv_iconst (v := 0) hx hb dX5_exists_130 (by decide) ?_
        exact endq_i hQ hx hb hr hlocks dX5_exists_131 (by decide) () (rg_w (show rg (0 : Int32) 0 0 from rg_l (by decide)) (by decide)) hP hD hS [] rfl (by decide) rfl (Nat.le_of_ble_eq_true rfl) (Nat.le_of_ble_eq_true rfl)
      · have t123_2 := (i_ne c123_1)
        refine lv_iconst (v := 1) hx hb dX5_exists_126 (by decide) ?_
        refine lv_goto (tgt := 131) hx hb dX5_exists_127 (by decide) ?_
        exact endq_i hQ hx hb hr hlocks dX5_exists_131 (by decide) () (rg_w (show rg (1 : Int32) 1 1 from rg_l (by decide)) (by decide)) hP hD hS [] rfl (by decide) rfl (Nat.le_of_ble_eq_true rfl) (Nat.le_of_ble_eq_true rfl)
  by_cases h14_181 : z13_1.toInt = 103
  · have r14_182 : rg z13_1 103 103 := rg_at h14_181
    refine lv_lookup (off := 92) (tgt := 106) hx hb dX5_exists_14 (by decide) (by rw [h14_181]; rfl) (by decide) ?_
    refine lv_iload_n hx hb dX5_exists_106 rfl (lv_at hl 1 rfl) ?_
    refine lv_if_ne (tgt := 114) hx hb dX5_exists_107 (by decide) (fun c107_1 => ?_) (fun c107_1 => ?_)
    · have t107_2 := (i_ne c107_1)
      have r107_3 : rg r1_1 1 7 := rg_neAl t107_2 hp1_4 (show rg (0 : Int32) 0 0 from rg_l (by decide)) (by decide)
      refine lv_iconst (v := 0) hx hb dX5_exists_114 (by decide) ?_
      exact endq_i hQ hx hb hr hlocks dX5_exists_115 (by decide) () (rg_w (show rg (0 : Int32) 0 0 from rg_l (by decide)) (by decide)) hP hD hS [] rfl (by decide) rfl (Nat.le_of_ble_eq_true rfl) (Nat.le_of_ble_eq_true rfl)
    · have t107_2 := (i_eq c107_1)
      have r107_3 : rg r1_1 0 0 := rg_eqA t107_2 hp1_4 (show rg (0 : Int32) 0 0 from rg_l (by decide)) (by decide)
      refine lv_iconst (v := 1) hx hb dX5_exists_110 (by decide) ?_
      refine lv_goto (tgt := 115) hx hb dX5_exists_111 (by decide) ?_
      exact endq_i hQ hx hb hr hlocks dX5_exists_115 (by decide) () (rg_w (show rg (1 : Int32) 1 1 from rg_l (by decide)) (by decide)) hP hD hS [] rfl (by decide) rfl (Nat.le_of_ble_eq_true rfl) (Nat.le_of_ble_eq_true rfl)
  by_cases h14_191 : z13_1.toInt = 111
  · have r14_192 : rg z13_1 111 111 := rg_at h14_191
    refine lv_lookup (off := 90) (tgt := 104) hx hb dX5_exists_14 (by decide) (by rw [h14_191]; rfl) (by decide) ?_
    refine lv_iconst (v := 1) hx hb dX5_exists_104 (by decide) ?_
    exact endq_i hQ hx hb hr hlocks dX5_exists_105 (by decide) () (rg_w (show rg (1 : Int32) 1 1 from rg_l (by decide)) (by decide)) hP hD hS [] rfl (by decide) rfl (Nat.le_of_ble_eq_true rfl) (Nat.le_of_ble_eq_true rfl)
  refine lv_lookup (off := 323) (tgt := 337) hx hb dX5_exists_14 (by decide) (by simp [Op.lookupswitch.offset, (show ¬ (3 : Int) = z13_1.toInt from fun q => h14_101 q.symm), (show ¬ (19 : Int) = z13_1.toInt from fun q => h14_111 q.symm), (show ¬ (27 : Int) = z13_1.toInt from fun q => h14_121 q.symm), (show ¬ (35 : Int) = z13_1.toInt from fun q => h14_131 q.symm), (show ¬ (51 : Int) = z13_1.toInt from fun q => h14_141 q.symm), (show ¬ (55 : Int) = z13_1.toInt from fun q => h14_151 q.symm), (show ¬ (59 : Int) = z13_1.toInt from fun q => h14_161 q.symm), (show ¬ (99 : Int) = z13_1.toInt from fun q => h14_171 q.symm), (show ¬ (103 : Int) = z13_1.toInt from fun q => h14_181 q.symm), (show ¬ (111 : Int) = z13_1.toInt from fun q => h14_191 q.symm)]) (by decide) ?_
  refine lv_iload_n hx hb dX5_exists_337 rfl (lv_at hl 2 rfl) ?_
  refine lv_bipush (v := 115) hx hb dX5_exists_338 (by decide) ?_
  refine lv_icmp_ne (tgt := 347) hx hb dX5_exists_340 (by decide) (fun c340_1 => ?_) (fun c340_1 => ?_)
  · have t340_2 := (i_ne c340_1)
    refine lv_iconst (v := 0) hx hb dX5_exists_347 (by decide) ?_
    exact endq_i hQ hx hb hr hlocks dX5_exists_348 (by decide) () (rg_w (show rg (0 : Int32) 0 0 from rg_l (by decide)) (by decide)) hP hD hS [] rfl (by decide) rfl (Nat.le_of_ble_eq_true rfl) (Nat.le_of_ble_eq_true rfl)
  · have t340_2 := (i_eq c340_1)
    have r340_3 : rg v0 115 115 := rg_eqA t340_2 (rg_any v0) (show rg (115 : Int32) 115 115 from rg_l (by decide)) (by decide)
    refine lv_iconst (v := 1) hx hb dX5_exists_343 (by decide) ?_
    refine lv_goto (tgt := 348) hx hb dX5_exists_344 (by decide) ?_
    exact endq_i hQ hx hb hr hlocks dX5_exists_348 (by decide) () (rg_w (show rg (1 : Int32) 1 1 from rg_l (by decide)) (by decide)) hP hD hS [] rfl (by decide) rfl (Nat.le_of_ble_eq_true rfl) (Nat.le_of_ble_eq_true rfl)
set_option maxHeartbeats 2000000 in
theorem c_X5_shiftHigh (l : Launch) (D : va_G) (ct : Nat → ClassId) (v0 : Int32)  : KI (S := Unit) l yX5_shiftHigh cX5_shiftHigh 1 (some .int) 2 40 D ct [.int v0] [] 0 0 (fun (r : Int32) (_ : Unit) => rg r 0 32) (fun (_ : Unit) => []) := by
  refine KIq_of (by decide) (Nat.le_of_ble_eq_true rfl) (fun p e s m below meth c A Q C0 hA H locs hS hP hD hQ ls hl => ?_)
  obtain ⟨hx, hb, hr, hown, hin, hml, hlocks, hn, hK, hZ, hSK⟩ := C0
  have hl : lv_has ls 1 [(0, .int v0)] := hl
  refine lv_iload_n hx hb dX5_shiftHigh_0 rfl (lv_at hl 0 rfl) ?_
  refine go_i (k1 := 0) (n1 := 0) (wr := []) [] [] (rn_S (As := [.int v0]) (rest := []) (c_X5_middlePart l D ct v0  _) (cb_of (n := 1) hn mw_1425 mw_5 mw_1423 mhX5_middlePart ⟨(Nat.le_of_ble_eq_true rfl), (Nat.le_of_ble_eq_true rfl)⟩) hx hb hml hown hn hK hSK hZ hS mw_1424 rfl hl.1 (Nat.le_of_ble_eq_true rfl) dX5_shiftHigh_1 ⟨(Nat.le_of_ble_eq_true rfl), (Nat.le_of_ble_eq_true rfl)⟩) hP hD hS hA rfl rfl (by decide) (by decide) (by decide) (Nat.le_of_ble_eq_true rfl) (Nat.le_of_ble_eq_true rfl) (fun r1_1 u1_2 H locs hp1_3 hP hD hS => ?_)
  have hp1_4 := hp1_3
  have hp1_4 : rg r1_1 0 7 := hp1_4
  have hP : va_P D vwCl [] _ := hP
  have hD : va_D A [] := hD
  refine lv_iconst (v := 5) hx hb dX5_shiftHigh_4 (by decide) ?_
  refine lv_icmp_ne (tgt := 18) hx hb dX5_shiftHigh_5 (by decide) (fun c5_1 => ?_) (fun c5_1 => ?_)
  · have t5_2 := (i_ne c5_1)
    refine lv_iconst (v := 0) hx hb dX5_shiftHigh_18 (by decide) ?_
    exact endq_i hQ hx hb hr hlocks dX5_shiftHigh_19 rfl () (rg_w (show rg (0 : Int32) 0 0 from rg_l (by decide)) (by decide)) hP hD hS [] rfl (by decide) rfl (Nat.le_of_ble_eq_true rfl) (Nat.le_of_ble_eq_true rfl)
  · have t5_2 := (i_eq c5_1)
    have r5_3 : rg r1_1 5 5 := rg_eqA t5_2 hp1_4 (show rg (5 : Int32) 5 5 from rg_l (by decide)) (by decide)
    refine lv_iload_n hx hb dX5_shiftHigh_8 rfl (lv_at hl 0 rfl) ?_
    refine go_i (k1 := 0) (n1 := 0) (wr := []) [] [] (rn_S (As := [.int v0]) (rest := []) (c_X5_highPart l D ct v0  _) (cb_of (n := 1) hn mw_1428 mw_5 mw_1426 mhX5_highPart ⟨(Nat.le_of_ble_eq_true rfl), (Nat.le_of_ble_eq_true rfl)⟩) hx hb hml hown hn hK hSK hZ hS mw_1427 rfl hl.1 (Nat.le_of_ble_eq_true rfl) dX5_shiftHigh_9 ⟨(Nat.le_of_ble_eq_true rfl), (Nat.le_of_ble_eq_true rfl)⟩) hP hD hS hA rfl rfl (by decide) (by decide) (by decide) (Nat.le_of_ble_eq_true rfl) (Nat.le_of_ble_eq_true rfl) (fun r9_1 u9_2 H locs hp9_3 hP hD hS => ?_)
    have hp9_4 := hp9_3
    have hp9_4 : rg r9_1 0 127 := hp9_4
    have hP : va_P D vwCl [] _ := hP
    have hD : va_D A [] := hD
    refine lv_bipush (v := 32) hx hb dX5_shiftHigh_12 (by decide) ?_
    refine lv_iand hx hb dX5_shiftHigh_14 ?_
    refine lv_topi (fun z14_1 ez14_1 => ?_)
    have r14_2 : rg z14_1 0 32 := rg_andr ez14_1 (show rg (32 : Int32) 32 32 from rg_l (by decide)) (by decide)
    refine lv_goto (tgt := 19) hx hb dX5_shiftHigh_15 (by decide) ?_
    exact endq_i hQ hx hb hr hlocks dX5_shiftHigh_19 rfl () r14_2 hP hD hS [] rfl (by decide) rfl (Nat.le_of_ble_eq_true rfl) (Nat.le_of_ble_eq_true rfl)
set_option maxHeartbeats 2000000 in
theorem c_X5_farNumber (l : Launch) (D : va_G) (ct : Nat → ClassId) (v0 : Int32)  : KI (S := Unit) l yX5_farNumber cX5_farNumber 1 (some .int) 1 20 D ct [.int v0] [] 0 0 (fun (r : Int32) (_ : Unit) => True) (fun (_ : Unit) => []) := by
  refine KIq_of (by decide) (Nat.le_of_ble_eq_true rfl) (fun p e s m below meth c A Q C0 hA H locs hS hP hD hQ ls hl => ?_)
  obtain ⟨hx, hb, hr, hown, hin, hml, hlocks, hn, hK, hZ, hSK⟩ := C0
  have hl : lv_has ls 1 [(0, .int v0)] := hl
  refine lv_iload_n hx hb dX5_farNumber_0 rfl (lv_at hl 0 rfl) ?_
  refine lv_bipush (v := 31) hx hb dX5_farNumber_1 (by decide) ?_
  refine lv_ishr hx hb dX5_farNumber_3 ?_
  refine lv_topi (fun z3_1 ez3_1 => ?_)
  refine lv_bipush (v := 20) hx hb dX5_farNumber_4 (by decide) ?_
  refine lv_ishl hx hb dX5_farNumber_6 ?_
  refine lv_topi (fun z6_1 ez6_1 => ?_)
  refine lv_iload_n hx hb dX5_farNumber_7 rfl (lv_at hl 0 rfl) ?_
  refine lv_ldc (v := 1044480) hx hb hown (hn.get mw_1437 rfl) dX5_farNumber_8 ?_
  refine lv_iand hx hb dX5_farNumber_10 ?_
  refine lv_topi (fun z10_1 ez10_1 => ?_)
  have r10_2 : rg z10_1 0 1044480 := rg_andr ez10_1 (show rg (1044480 : Int32) 1044480 1044480 from rg_l (by decide)) (by decide)
  refine lv_ior hx hb dX5_farNumber_11 ?_
  refine lv_topi (fun z11_1 ez11_1 => ?_)
  refine lv_iload_n hx hb dX5_farNumber_12 rfl (lv_at hl 0 rfl) ?_
  refine lv_bipush (v := 20) hx hb dX5_farNumber_13 (by decide) ?_
  refine lv_ishr hx hb dX5_farNumber_15 ?_
  refine lv_topi (fun z15_1 ez15_1 => ?_)
  have r15_2 : rg z15_1 (-2048) 2047 := rg_shr (k := 20) ez15_1 (by decide) (rg_any v0) (by decide)
  refine lv_iconst (v := 1) hx hb dX5_farNumber_16 (by decide) ?_
  refine lv_iand hx hb dX5_farNumber_17 ?_
  refine lv_topi (fun z17_1 ez17_1 => ?_)
  have r17_2 : rg z17_1 0 1 := rg_andr ez17_1 (show rg (1 : Int32) 1 1 from rg_l (by decide)) (by decide)
  refine lv_bipush (v := 11) hx hb dX5_farNumber_18 (by decide) ?_
  refine lv_ishl hx hb dX5_farNumber_20 ?_
  refine lv_topi (fun z20_1 ez20_1 => ?_)
  have r20_2 : rg z20_1 0 2048 := rg_shl (c := 2048) (k := 11) ez20_1 (by decide) r17_2 (by decide)
  refine lv_ior hx hb dX5_farNumber_21 ?_
  refine lv_topi (fun z21_1 ez21_1 => ?_)
  refine lv_iload_n hx hb dX5_farNumber_22 rfl (lv_at hl 0 rfl) ?_
  refine lv_bipush (v := 21) hx hb dX5_farNumber_23 (by decide) ?_
  refine lv_ishr hx hb dX5_farNumber_25 ?_
  refine lv_topi (fun z25_1 ez25_1 => ?_)
  have r25_2 : rg z25_1 (-1024) 1023 := rg_shr (k := 21) ez25_1 (by decide) (rg_any v0) (by decide)
  refine lv_sipush (v := 1023) hx hb dX5_farNumber_26 (by decide) ?_
  refine lv_iand hx hb dX5_farNumber_29 ?_
  refine lv_topi (fun z29_1 ez29_1 => ?_)
  have r29_2 : rg z29_1 0 1023 := rg_andr ez29_1 (show rg (1023 : Int32) 1023 1023 from rg_l (by decide)) (by decide)
  refine lv_iconst (v := 1) hx hb dX5_farNumber_30 (by decide) ?_
  refine lv_ishl hx hb dX5_farNumber_31 ?_
  refine lv_topi (fun z31_1 ez31_1 => ?_)
  have r31_2 : rg z31_1 0 2046 := rg_shl (c := 2) (k := 1) ez31_1 (by decide) r29_2 (by decide)
  refine lv_ior hx hb dX5_farNumber_32 ?_
  refine lv_topi (fun z32_1 ez32_1 => ?_)
  exact endq_i hQ hx hb hr hlocks dX5_farNumber_33 rfl () trivial hP hD hS [] rfl (by decide) rfl (Nat.le_of_ble_eq_true rfl) (Nat.le_of_ble_eq_true rfl)
set_option maxHeartbeats 2000000 in
theorem c_X5_branchNumber (l : Launch) (D : va_G) (ct : Nat → ClassId) (v0 : Int32)  : KI (S := Unit) l yX5_branchNumber cX5_branchNumber 1 (some .int) 1 20 D ct [.int v0] [] 0 0 (fun (r : Int32) (_ : Unit) => True) (fun (_ : Unit) => []) := by
  refine KIq_of (by decide) (Nat.le_of_ble_eq_true rfl) (fun p e s m below meth c A Q C0 hA H locs hS hP hD hQ ls hl => ?_)
  obtain ⟨hx, hb, hr, hown, hin, hml, hlocks, hn, hK, hZ, hSK⟩ := C0
  have hl : lv_has ls 1 [(0, .int v0)] := hl
  refine lv_iload_n hx hb dX5_branchNumber_0 rfl (lv_at hl 0 rfl) ?_
  refine lv_bipush (v := 31) hx hb dX5_branchNumber_1 (by decide) ?_
  refine lv_ishr hx hb dX5_branchNumber_3 ?_
  refine lv_topi (fun z3_1 ez3_1 => ?_)
  refine lv_bipush (v := 12) hx hb dX5_branchNumber_4 (by decide) ?_
  refine lv_ishl hx hb dX5_branchNumber_6 ?_
  refine lv_topi (fun z6_1 ez6_1 => ?_)
  refine lv_iload_n hx hb dX5_branchNumber_7 rfl (lv_at hl 0 rfl) ?_
  refine lv_bipush (v := 7) hx hb dX5_branchNumber_8 (by decide) ?_
  refine lv_ishr hx hb dX5_branchNumber_10 ?_
  refine lv_topi (fun z10_1 ez10_1 => ?_)
  have r10_2 : rg z10_1 (-16777216) 16777215 := rg_shr (k := 7) ez10_1 (by decide) (rg_any v0) (by decide)
  refine lv_iconst (v := 1) hx hb dX5_branchNumber_11 (by decide) ?_
  refine lv_iand hx hb dX5_branchNumber_12 ?_
  refine lv_topi (fun z12_1 ez12_1 => ?_)
  have r12_2 : rg z12_1 0 1 := rg_andr ez12_1 (show rg (1 : Int32) 1 1 from rg_l (by decide)) (by decide)
  refine lv_bipush (v := 11) hx hb dX5_branchNumber_13 (by decide) ?_
  refine lv_ishl hx hb dX5_branchNumber_15 ?_
  refine lv_topi (fun z15_1 ez15_1 => ?_)
  have r15_2 : rg z15_1 0 2048 := rg_shl (c := 2048) (k := 11) ez15_1 (by decide) r12_2 (by decide)
  refine lv_ior hx hb dX5_branchNumber_16 ?_
  refine lv_topi (fun z16_1 ez16_1 => ?_)
  refine lv_iload_n hx hb dX5_branchNumber_17 rfl (lv_at hl 0 rfl) ?_
  refine lv_bipush (v := 25) hx hb dX5_branchNumber_18 (by decide) ?_
  refine lv_ishr hx hb dX5_branchNumber_20 ?_
  refine lv_topi (fun z20_1 ez20_1 => ?_)
  have r20_2 : rg z20_1 (-64) 63 := rg_shr (k := 25) ez20_1 (by decide) (rg_any v0) (by decide)
  refine lv_bipush (v := 63) hx hb dX5_branchNumber_21 (by decide) ?_
  refine lv_iand hx hb dX5_branchNumber_23 ?_
  refine lv_topi (fun z23_1 ez23_1 => ?_)
  have r23_2 : rg z23_1 0 63 := rg_andr ez23_1 (show rg (63 : Int32) 63 63 from rg_l (by decide)) (by decide)
  refine lv_iconst (v := 5) hx hb dX5_branchNumber_24 (by decide) ?_
  refine lv_ishl hx hb dX5_branchNumber_25 ?_
  refine lv_topi (fun z25_1 ez25_1 => ?_)
  have r25_2 : rg z25_1 0 2016 := rg_shl (c := 32) (k := 5) ez25_1 (by decide) r23_2 (by decide)
  refine lv_ior hx hb dX5_branchNumber_26 ?_
  refine lv_topi (fun z26_1 ez26_1 => ?_)
  refine lv_iload_n hx hb dX5_branchNumber_27 rfl (lv_at hl 0 rfl) ?_
  refine lv_bipush (v := 8) hx hb dX5_branchNumber_28 (by decide) ?_
  refine lv_ishr hx hb dX5_branchNumber_30 ?_
  refine lv_topi (fun z30_1 ez30_1 => ?_)
  have r30_2 : rg z30_1 (-8388608) 8388607 := rg_shr (k := 8) ez30_1 (by decide) (rg_any v0) (by decide)
  refine lv_bipush (v := 15) hx hb dX5_branchNumber_31 (by decide) ?_
  refine lv_iand hx hb dX5_branchNumber_33 ?_
  refine lv_topi (fun z33_1 ez33_1 => ?_)
  have r33_2 : rg z33_1 0 15 := rg_andr ez33_1 (show rg (15 : Int32) 15 15 from rg_l (by decide)) (by decide)
  refine lv_iconst (v := 1) hx hb dX5_branchNumber_34 (by decide) ?_
  refine lv_ishl hx hb dX5_branchNumber_35 ?_
  refine lv_topi (fun z35_1 ez35_1 => ?_)
  have r35_2 : rg z35_1 0 30 := rg_shl (c := 2) (k := 1) ez35_1 (by decide) r33_2 (by decide)
  refine lv_ior hx hb dX5_branchNumber_36 ?_
  refine lv_topi (fun z36_1 ez36_1 => ?_)
  exact endq_i hQ hx hb hr hlocks dX5_branchNumber_37 rfl () trivial hP hD hS [] rfl (by decide) rfl (Nat.le_of_ble_eq_true rfl) (Nat.le_of_ble_eq_true rfl)
set_option maxHeartbeats 2000000 in
theorem c_X5_storeNumber (l : Launch) (D : va_G) (ct : Nat → ClassId) (v0 : Int32)  : KI (S := Unit) l yX5_storeNumber cX5_storeNumber 1 (some .int) 1 20 D ct [.int v0] [] 0 0 (fun (r : Int32) (_ : Unit) => True) (fun (_ : Unit) => []) := by
  refine KIq_of (by decide) (Nat.le_of_ble_eq_true rfl) (fun p e s m below meth c A Q C0 hA H locs hS hP hD hQ ls hl => ?_)
  obtain ⟨hx, hb, hr, hown, hin, hml, hlocks, hn, hK, hZ, hSK⟩ := C0
  have hl : lv_has ls 1 [(0, .int v0)] := hl
  refine lv_iload_n hx hb dX5_storeNumber_0 rfl (lv_at hl 0 rfl) ?_
  refine lv_bipush (v := 25) hx hb dX5_storeNumber_1 (by decide) ?_
  refine lv_ishr hx hb dX5_storeNumber_3 ?_
  refine lv_topi (fun z3_1 ez3_1 => ?_)
  have r3_2 : rg z3_1 (-64) 63 := rg_shr (k := 25) ez3_1 (by decide) (rg_any v0) (by decide)
  refine lv_iconst (v := 5) hx hb dX5_storeNumber_4 (by decide) ?_
  refine lv_ishl hx hb dX5_storeNumber_5 ?_
  refine lv_topi (fun z5_1 ez5_1 => ?_)
  refine lv_iload_n hx hb dX5_storeNumber_6 rfl (lv_at hl 0 rfl) ?_
  refine lv_bipush (v := 7) hx hb dX5_storeNumber_7 (by decide) ?_
  refine lv_ishr hx hb dX5_storeNumber_9 ?_
  refine lv_topi (fun z9_1 ez9_1 => ?_)
  have r9_2 : rg z9_1 (-16777216) 16777215 := rg_shr (k := 7) ez9_1 (by decide) (rg_any v0) (by decide)
  refine lv_bipush (v := 31) hx hb dX5_storeNumber_10 (by decide) ?_
  refine lv_iand hx hb dX5_storeNumber_12 ?_
  refine lv_topi (fun z12_1 ez12_1 => ?_)
  have r12_2 : rg z12_1 0 31 := rg_andr ez12_1 (show rg (31 : Int32) 31 31 from rg_l (by decide)) (by decide)
  refine lv_ior hx hb dX5_storeNumber_13 ?_
  refine lv_topi (fun z13_1 ez13_1 => ?_)
  exact endq_i hQ hx hb hr hlocks dX5_storeNumber_14 rfl () trivial hP hD hS [] rfl (by decide) rfl (Nat.le_of_ble_eq_true rfl) (Nat.le_of_ble_eq_true rfl)
set_option maxHeartbeats 2000000 in
theorem c_X5_branches (l : Launch) (D : va_G) (ct : Nat → ClassId) (v0 : Int32) (v1 : Int64) (v2 : Int64)  : KI (S := Unit) l yX5_branches cX5_branches 5 (some .boolean) 2 43 D ct [.int v0, .long v1, .long v2] [] 0 0 (fun (r : Int32) (_ : Unit) => rg r 0 1) (fun (_ : Unit) => []) := by
  refine KIq_of (by decide) (Nat.le_of_ble_eq_true rfl) (fun p e s m below meth c A Q C0 hA H locs hS hP hD hQ ls hl => ?_)
  obtain ⟨hx, hb, hr, hown, hin, hml, hlocks, hn, hK, hZ, hSK⟩ := C0
  have hl : lv_has ls 5 [(0, .int v0), (1, .long v1), (3, .long v2)] := hl
  refine lv_iload_n hx hb dX5_branches_0 rfl (lv_at hl 0 rfl) ?_
  have b98 : ∀  (H : Heap) (locs : List Loc) (ls : Array Slot), lv_has ls 5 [(1, .long v1), (3, .long v2)] → va_P D vwCl [] H → va_D A [] → va_S A s.heap H locs → W p l e ({ frames := 2, cells := 0, slots := 0, locals := 43 }) s m [.int v0, .long v1, .long v2].toArray below meth c H locs 0 0 Q (F0 m 98 ls []) := by
    intro  H locs ls  hl hP hD hS
    refine lv_lload_n hx hb dX5_branches_98 rfl (lv_at hl 0 rfl) ?_
    refine lv_lload_n hx hb dX5_branches_99 rfl (lv_at hl 1 rfl) ?_
    refine go_i (k1 := 0) (n1 := 0) (wr := []) [] [] (rn_SN (As := [.long v1, .long v2]) (rest := []) (c_X11_below l D ct v1 v2  _) (cn_of (n := 2) hn mw_1040 mw_1 mw_1450 mhX11_below ⟨(Nat.le_of_ble_eq_true rfl), (Nat.le_of_ble_eq_true rfl)⟩) hx hb hml hown hn hK hSK hZ hS mw_1039 rfl hl.1 (Nat.le_of_ble_eq_true rfl) dX5_branches_100 ⟨(Nat.le_of_ble_eq_true rfl), (Nat.le_of_ble_eq_true rfl)⟩) hP hD hS hA rfl rfl (by decide) (by decide) (by decide) (Nat.le_of_ble_eq_true rfl) (Nat.le_of_ble_eq_true rfl) (fun r100_1 u100_2 H locs hp100_3 hP hD hS => ?_)
    have hp100_4 := hp100_3
    have hp100_4 : rg r100_1 0 1 := hp100_4
    have hP : va_P D vwCl [] _ := hP
    have hD : va_D A [] := hD
    refine lv_if_ne (tgt := 110) hx hb dX5_branches_103 (by decide) (fun c103_1 => ?_) (fun c103_1 => ?_)
    · have t103_2 := (i_ne c103_1)
      have r103_3 : rg r100_1 1 1 := rg_neAl t103_2 hp100_4 (show rg (0 : Int32) 0 0 from rg_l (by decide)) (by decide)
      refine lv_iconst (v := 0) hx hb dX5_branches_110 (by decide) ?_
      exact endq_i hQ hx hb hr hlocks dX5_branches_111 (by decide) () (rg_w (show rg (0 : Int32) 0 0 from rg_l (by decide)) (by decide)) hP hD hS [] rfl (by decide) rfl (Nat.le_of_ble_eq_true rfl) (Nat.le_of_ble_eq_true rfl)
    · have t103_2 := (i_eq c103_1)
      have r103_3 : rg r100_1 0 0 := rg_eqA t103_2 hp100_4 (show rg (0 : Int32) 0 0 from rg_l (by decide)) (by decide)
      refine lv_iconst (v := 1) hx hb dX5_branches_106 (by decide) ?_
      refine lv_goto (tgt := 111) hx hb dX5_branches_107 (by decide) ?_
      exact endq_i hQ hx hb hr hlocks dX5_branches_111 (by decide) () (rg_w (show rg (1 : Int32) 1 1 from rg_l (by decide)) (by decide)) hP hD hS [] rfl (by decide) rfl (Nat.le_of_ble_eq_true rfl) (Nat.le_of_ble_eq_true rfl)
  by_cases h1_101 : v0.toInt = 0
  · have r1_102 : rg v0 0 0 := rg_at h1_101
    refine lv_tableIn (off := 43) (tgt := 44) hx hb dX5_branches_1 (by rw [h1_101]; decide) (by rw [h1_101]; decide) (by rw [h1_101]; rfl) (by decide) ?_
    refine lv_lload_n hx hb dX5_branches_44 rfl (lv_at hl 1 rfl) ?_
    refine lv_lload_n hx hb dX5_branches_45 rfl (lv_at hl 2 rfl) ?_
    refine W.lcmp hx hb dX5_branches_46 ?_
    refine lv_topi (fun z46_1 ez46_1 => ?_)
    refine lv_if_ne (tgt := 54) hx hb dX5_branches_47 (by decide) (fun c47_1 => ?_) (fun c47_1 => ?_)
    · have t47_2 := (l_ne ez46_1 c47_1)
      refine lv_iconst (v := 0) hx hb dX5_branches_54 (by decide) ?_
      exact endq_i hQ hx hb hr hlocks dX5_branches_55 (by decide) () (rg_w (show rg (0 : Int32) 0 0 from rg_l (by decide)) (by decide)) hP hD hS [] rfl (by decide) rfl (Nat.le_of_ble_eq_true rfl) (Nat.le_of_ble_eq_true rfl)
    · have t47_2 := (l_eq ez46_1 c47_1)
      refine lv_iconst (v := 1) hx hb dX5_branches_50 (by decide) ?_
      refine lv_goto (tgt := 55) hx hb dX5_branches_51 (by decide) ?_
      exact endq_i hQ hx hb hr hlocks dX5_branches_55 (by decide) () (rg_w (show rg (1 : Int32) 1 1 from rg_l (by decide)) (by decide)) hP hD hS [] rfl (by decide) rfl (Nat.le_of_ble_eq_true rfl) (Nat.le_of_ble_eq_true rfl)
  by_cases h1_111 : v0.toInt = 1
  · have r1_112 : rg v0 1 1 := rg_at h1_111
    refine lv_tableIn (off := 55) (tgt := 56) hx hb dX5_branches_1 (by rw [h1_111]; decide) (by rw [h1_111]; decide) (by rw [h1_111]; rfl) (by decide) ?_
    refine lv_lload_n hx hb dX5_branches_56 rfl (lv_at hl 1 rfl) ?_
    refine lv_lload_n hx hb dX5_branches_57 rfl (lv_at hl 2 rfl) ?_
    refine W.lcmp hx hb dX5_branches_58 ?_
    refine lv_topi (fun z58_1 ez58_1 => ?_)
    refine lv_if_eq (tgt := 66) hx hb dX5_branches_59 (by decide) (fun c59_1 => ?_) (fun c59_1 => ?_)
    · have t59_2 := (l_eq ez58_1 c59_1)
      refine lv_iconst (v := 0) hx hb dX5_branches_66 (by decide) ?_
      exact endq_i hQ hx hb hr hlocks dX5_branches_67 (by decide) () (rg_w (show rg (0 : Int32) 0 0 from rg_l (by decide)) (by decide)) hP hD hS [] rfl (by decide) rfl (Nat.le_of_ble_eq_true rfl) (Nat.le_of_ble_eq_true rfl)
    · have t59_2 := (l_neq ez58_1 c59_1)
      refine lv_iconst (v := 1) hx hb dX5_branches_62 (by decide) ?_
      refine lv_goto (tgt := 67) hx hb dX5_branches_63 (by decide) ?_
      exact endq_i hQ hx hb hr hlocks dX5_branches_67 (by decide) () (rg_w (show rg (1 : Int32) 1 1 from rg_l (by decide)) (by decide)) hP hD hS [] rfl (by decide) rfl (Nat.le_of_ble_eq_true rfl) (Nat.le_of_ble_eq_true rfl)
  by_cases h1_121 : v0.toInt = 2
  · have r1_122 : rg v0 2 2 := rg_at h1_121
    refine lv_tableIn (off := 97) (tgt := 98) hx hb dX5_branches_1 (by rw [h1_121]; decide) (by rw [h1_121]; decide) (by rw [h1_121]; rfl) (by decide) ?_
    exact b98  H locs ls  (lv_sub hl [1, 2] rfl) hP hD hS
  by_cases h1_131 : v0.toInt = 3
  · have r1_132 : rg v0 3 3 := rg_at h1_131
    refine lv_tableIn (off := 97) (tgt := 98) hx hb dX5_branches_1 (by rw [h1_131]; decide) (by rw [h1_131]; decide) (by rw [h1_131]; rfl) (by decide) ?_
    exact b98  H locs ls  (lv_sub hl [1, 2] rfl) hP hD hS
  by_cases h1_141 : v0.toInt = 4
  · have r1_142 : rg v0 4 4 := rg_at h1_141
    refine lv_tableIn (off := 67) (tgt := 68) hx hb dX5_branches_1 (by rw [h1_141]; decide) (by rw [h1_141]; decide) (by rw [h1_141]; rfl) (by decide) ?_
    refine lv_lload_n hx hb dX5_branches_68 rfl (lv_at hl 1 rfl) ?_
    refine lv_lload_n hx hb dX5_branches_69 rfl (lv_at hl 2 rfl) ?_
    refine W.lcmp hx hb dX5_branches_70 ?_
    refine lv_topi (fun z70_1 ez70_1 => ?_)
    refine lv_if_ge (tgt := 78) hx hb dX5_branches_71 (by decide) (fun c71_1 => ?_) (fun c71_1 => ?_)
    · have t71_2 := (l_ge ez70_1 c71_1)
      refine lv_iconst (v := 0) hx hb dX5_branches_78 (by decide) ?_
      exact endq_i hQ hx hb hr hlocks dX5_branches_79 (by decide) () (rg_w (show rg (0 : Int32) 0 0 from rg_l (by decide)) (by decide)) hP hD hS [] rfl (by decide) rfl (Nat.le_of_ble_eq_true rfl) (Nat.le_of_ble_eq_true rfl)
    · have t71_2 := (l_nge ez70_1 c71_1)
      have r71_3 : rl v1 (-9223372036854775808) 9223372036854775806 := rl_ltA t71_2 (rl_any v1) (rl_any v2) (by decide)
      have r71_4 : rl v2 (-9223372036854775807) 9223372036854775807 := rl_ltB t71_2 (rl_any v1) (rl_any v2) (by decide)
      refine lv_iconst (v := 1) hx hb dX5_branches_74 (by decide) ?_
      refine lv_goto (tgt := 79) hx hb dX5_branches_75 (by decide) ?_
      exact endq_i hQ hx hb hr hlocks dX5_branches_79 (by decide) () (rg_w (show rg (1 : Int32) 1 1 from rg_l (by decide)) (by decide)) hP hD hS [] rfl (by decide) rfl (Nat.le_of_ble_eq_true rfl) (Nat.le_of_ble_eq_true rfl)
  by_cases h1_151 : v0.toInt = 5
  · have r1_152 : rg v0 5 5 := rg_at h1_151
    refine lv_tableIn (off := 79) (tgt := 80) hx hb dX5_branches_1 (by rw [h1_151]; decide) (by rw [h1_151]; decide) (by rw [h1_151]; rfl) (by decide) ?_
    refine lv_lload_n hx hb dX5_branches_80 rfl (lv_at hl 1 rfl) ?_
    refine lv_lload_n hx hb dX5_branches_81 rfl (lv_at hl 2 rfl) ?_
    refine W.lcmp hx hb dX5_branches_82 ?_
    refine lv_topi (fun z82_1 ez82_1 => ?_)
    refine lv_if_lt (tgt := 90) hx hb dX5_branches_83 (by decide) (fun c83_1 => ?_) (fun c83_1 => ?_)
    · have t83_2 := (l_lt ez82_1 c83_1)
      have r83_3 : rl v1 (-9223372036854775808) 9223372036854775806 := rl_ltA t83_2 (rl_any v1) (rl_any v2) (by decide)
      have r83_4 : rl v2 (-9223372036854775807) 9223372036854775807 := rl_ltB t83_2 (rl_any v1) (rl_any v2) (by decide)
      refine lv_iconst (v := 0) hx hb dX5_branches_90 (by decide) ?_
      exact endq_i hQ hx hb hr hlocks dX5_branches_91 (by decide) () (rg_w (show rg (0 : Int32) 0 0 from rg_l (by decide)) (by decide)) hP hD hS [] rfl (by decide) rfl (Nat.le_of_ble_eq_true rfl) (Nat.le_of_ble_eq_true rfl)
    · have t83_2 := (l_nlt ez82_1 c83_1)
      refine lv_iconst (v := 1) hx hb dX5_branches_86 (by decide) ?_
      refine lv_goto (tgt := 91) hx hb dX5_branches_87 (by decide) ?_
      exact endq_i hQ hx hb hr hlocks dX5_branches_91 (by decide) () (rg_w (show rg (1 : Int32) 1 1 from rg_l (by decide)) (by decide)) hP hD hS [] rfl (by decide) rfl (Nat.le_of_ble_eq_true rfl) (Nat.le_of_ble_eq_true rfl)
  by_cases h1_161 : v0.toInt = 6
  · have r1_162 : rg v0 6 6 := rg_at h1_161
    refine lv_tableIn (off := 91) (tgt := 92) hx hb dX5_branches_1 (by rw [h1_161]; decide) (by rw [h1_161]; decide) (by rw [h1_161]; rfl) (by decide) ?_
    refine lv_lload_n hx hb dX5_branches_92 rfl (lv_at hl 1 rfl) ?_
    refine lv_lload_n hx hb dX5_branches_93 rfl (lv_at hl 2 rfl) ?_
    refine go_i (k1 := 0) (n1 := 0) (wr := []) [] [] (rn_SN (As := [.long v1, .long v2]) (rest := []) (c_X11_below l D ct v1 v2  _) (cn_of (n := 2) hn mw_1040 mw_1 mw_1450 mhX11_below ⟨(Nat.le_of_ble_eq_true rfl), (Nat.le_of_ble_eq_true rfl)⟩) hx hb hml hown hn hK hSK hZ hS mw_1039 rfl hl.1 (Nat.le_of_ble_eq_true rfl) dX5_branches_94 ⟨(Nat.le_of_ble_eq_true rfl), (Nat.le_of_ble_eq_true rfl)⟩) hP hD hS hA rfl rfl (by decide) (by decide) (by decide) (Nat.le_of_ble_eq_true rfl) (Nat.le_of_ble_eq_true rfl) (fun r94_1 u94_2 H locs hp94_3 hP hD hS => ?_)
    have hp94_4 := hp94_3
    have hp94_4 : rg r94_1 0 1 := hp94_4
    have hP : va_P D vwCl [] _ := hP
    have hD : va_D A [] := hD
    exact endq_i hQ hx hb hr hlocks dX5_branches_97 (nar_bool hp94_4) () hp94_4 hP hD hS [] rfl (by decide) rfl (Nat.le_of_ble_eq_true rfl) (Nat.le_of_ble_eq_true rfl)
  refine lv_tableOut (tgt := 98) hx hb dX5_branches_1 (by have q0 := (rg_any v0); have q1 := q0.1; have q2 := q0.2; omega) (by decide) ?_
  exact b98  H locs ls  (lv_sub hl [1, 2] rfl) hP hD hS
set_option maxHeartbeats 2000000 in
theorem c_X5_divided (l : Launch) (D : va_G) (ct : Nat → ClassId) (v0 : Int64) (v1 : Int64)  : KL (S := Unit) l yX5_divided cX5_divided 4 (some .long) 2 48 D ct [.long v0, .long v1] [] 0 0 (fun (r : Int64) (_ : Unit) => True) (fun (_ : Unit) => []) := by
  refine KLq_of (by decide) (Nat.le_of_ble_eq_true rfl) (fun p e s m below meth c A Q C0 hA H locs hS hP hD hQ ls hl => ?_)
  obtain ⟨hx, hb, hr, hown, hin, hml, hlocks, hn, hK, hZ, hSK⟩ := C0
  have hl : lv_has ls 4 [(0, .long v0), (2, .long v1)] := hl
  refine lv_lload_n hx hb dX5_divided_0 rfl (lv_at hl 1 rfl) ?_
  refine lv_lconst (v := 0) hx hb dX5_divided_1 (by decide) ?_
  refine W.lcmp hx hb dX5_divided_2 ?_
  refine lv_topi (fun z2_1 ez2_1 => ?_)
  refine lv_if_ne (tgt := 12) hx hb dX5_divided_3 (by decide) (fun c3_1 => ?_) (fun c3_1 => ?_)
  · have t3_2 := (l_ne ez2_1 c3_1)
    refine lv_lload_n hx hb dX5_divided_12 rfl (lv_at hl 0 rfl) ?_
    refine lv_lload_n hx hb dX5_divided_13 rfl (lv_at hl 1 rfl) ?_
    refine go_l (k1 := 0) (n1 := 0) (wr := []) [] [] (rn_SN (As := [.long v0, .long v1]) (rest := []) (c_X11_quotient l D ct v0 v1  _) (cn_of (n := 2) hn mw_1108 mw_1 mw_1476 mhX11_quotient ⟨(Nat.le_of_ble_eq_true rfl), (Nat.le_of_ble_eq_true rfl)⟩) hx hb hml hown hn hK hSK hZ hS mw_1107 rfl hl.1 (Nat.le_of_ble_eq_true rfl) dX5_divided_14 ⟨(Nat.le_of_ble_eq_true rfl), (Nat.le_of_ble_eq_true rfl)⟩) hP hD hS hA rfl rfl (by decide) (by decide) (by decide) (Nat.le_of_ble_eq_true rfl) (Nat.le_of_ble_eq_true rfl) (fun r14_1 u14_2 H locs hp14_3 hP hD hS => ?_)
    have hP : va_P D vwCl [] _ := hP
    have hD : va_D A [] := hD
    exact endq_l hQ hx hb hr hlocks dX5_divided_17 () trivial hP hD hS [] rfl (by decide) rfl (Nat.le_of_ble_eq_true rfl) (Nat.le_of_ble_eq_true rfl)
  · have t3_2 := (l_eq ez2_1 c3_1)
    have r3_3 : rl v1 0 0 := rl_eqA t3_2 (rl_any v1) (show rl (0 : Int64) 0 0 from rl_l (by decide)) (by decide)
    refine lv_ldc2 (v := (-1)) hx hb hown (hn.get mw_1445 rfl) dX5_divided_6 ?_
    refine lv_goto (tgt := 17) hx hb dX5_divided_9 (by decide) ?_
    exact endq_l hQ hx hb hr hlocks dX5_divided_17 () trivial hP hD hS [] rfl (by decide) rfl (Nat.le_of_ble_eq_true rfl) (Nat.le_of_ble_eq_true rfl)
set_option maxHeartbeats 2000000 in
theorem c_X5_made (l : Launch) (D : va_G) (ct : Nat → ClassId) (v0 : Int32) (v1 : Int32) (v2 : Int64) (v3 : Int64)  : KL (S := Unit) l yX5_made cX5_made 7 (some .long) 3 71 D ct [.int v0, .int v1, .long v2, .long v3] [] 0 0 (fun (r : Int64) (_ : Unit) => True) (fun (_ : Unit) => []) := by
  refine KLq_of (by decide) (Nat.le_of_ble_eq_true rfl) (fun p e s m below meth c A Q C0 hA H locs hS hP hD hQ ls hl => ?_)
  obtain ⟨hx, hb, hr, hown, hin, hml, hlocks, hn, hK, hZ, hSK⟩ := C0
  have hl : lv_has ls 7 [(0, .int v0), (1, .int v1), (2, .long v2), (4, .long v3)] := hl
  refine lv_iload_n hx hb dX5_made_0 rfl (lv_at hl 1 rfl) ?_
  refine lv_iconst (v := 1) hx hb dX5_made_1 (by decide) ?_
  refine lv_icmp_ne (tgt := 53) hx hb dX5_made_2 (by decide) (fun c2_1 => ?_) (fun c2_1 => ?_)
  · have t2_2 := (i_ne c2_1)
    refine lv_lload hx hb dX5_made_53 (lv_at hl 3 rfl) ?_
    refine lv_ldc2 (v := 63) hx hb hown (hn.get mw_1477 rfl) dX5_made_55 ?_
    refine lv_land hx hb dX5_made_58 ?_
    refine lv_topl (fun z58_1 ez58_1 => ?_)
    have r58_2 : rl z58_1 0 63 := rgL_andr ez58_1 (show rl (63 : Int64) 63 63 from rl_l (by decide)) (by decide)
    refine lv_l2i hx hb dX5_made_59 rfl ?_
    refine lv_topi (fun z59_1 ez59_1 => ?_)
    have r59_2 : rg z59_1 0 63 := rg_l2i ez59_1 r58_2 (by decide)
    refine lv_istore (lv' := [(6, .int z59_1), (0, .int v0), (1, .int v1), (2, .long v2), (4, .long v3)]) hx hb dX5_made_60 hl (by decide) rfl (fun ls hl => ?_)
    refine lv_iload_n hx hb dX5_made_62 rfl (lv_at hl 1 rfl) ?_
    by_cases h63_101 : v0.toInt = 0
    · have r63_102 : rg v0 0 0 := rg_at h63_101
      refine lv_tableIn (off := 41) (tgt := 104) hx hb dX5_made_63 (by rw [h63_101]; decide) (by rw [h63_101]; decide) (by rw [h63_101]; rfl) (by decide) ?_
      refine lv_iload_n hx hb dX5_made_104 rfl (lv_at hl 2 rfl) ?_
      refine lv_bipush (v := 32) hx hb dX5_made_105 (by decide) ?_
      refine lv_icmp_ne (tgt := 117) hx hb dX5_made_107 (by decide) (fun c107_1 => ?_) (fun c107_1 => ?_)
      · have t107_2 := (i_ne c107_1)
        refine lv_lload_n hx hb dX5_made_117 rfl (lv_at hl 3 rfl) ?_
        refine lv_lload hx hb dX5_made_118 (lv_at hl 4 rfl) ?_
        refine lv_ladd hx hb dX5_made_120 ?_
        refine lv_topl (fun z120_1 ez120_1 => ?_)
        exact endq_l hQ hx hb hr hlocks dX5_made_121 () trivial hP hD hS [] rfl (by decide) rfl (Nat.le_of_ble_eq_true rfl) (Nat.le_of_ble_eq_true rfl)
      · have t107_2 := (i_eq c107_1)
        have r107_3 : rg v1 32 32 := rg_eqA t107_2 (rg_any v1) (show rg (32 : Int32) 32 32 from rg_l (by decide)) (by decide)
        refine lv_lload_n hx hb dX5_made_110 rfl (lv_at hl 3 rfl) ?_
        refine lv_lload hx hb dX5_made_111 (lv_at hl 4 rfl) ?_
        refine lv_lsub hx hb dX5_made_113 ?_
        refine lv_topl (fun z113_1 ez113_1 => ?_)
        refine lv_goto (tgt := 121) hx hb dX5_made_114 (by decide) ?_
        exact endq_l hQ hx hb hr hlocks dX5_made_121 () trivial hP hD hS [] rfl (by decide) rfl (Nat.le_of_ble_eq_true rfl) (Nat.le_of_ble_eq_true rfl)
    by_cases h63_111 : v0.toInt = 1
    · have r63_112 : rg v0 1 1 := rg_at h63_111
      refine lv_tableIn (off := 59) (tgt := 122) hx hb dX5_made_63 (by rw [h63_111]; decide) (by rw [h63_111]; decide) (by rw [h63_111]; rfl) (by decide) ?_
      refine lv_lload_n hx hb dX5_made_122 rfl (lv_at hl 3 rfl) ?_
      refine lv_iload hx hb dX5_made_123 (lv_at hl 0 rfl) ?_
      refine lv_lshl hx hb dX5_made_125 rfl ?_
      refine lv_topl (fun z125_1 ez125_1 => ?_)
      exact endq_l hQ hx hb hr hlocks dX5_made_126 () trivial hP hD hS [] rfl (by decide) rfl (Nat.le_of_ble_eq_true rfl) (Nat.le_of_ble_eq_true rfl)
    by_cases h63_121 : v0.toInt = 2
    · have r63_122 : rg v0 2 2 := rg_at h63_121
      refine lv_tableIn (off := 64) (tgt := 127) hx hb dX5_made_63 (by rw [h63_121]; decide) (by rw [h63_121]; decide) (by rw [h63_121]; rfl) (by decide) ?_
      refine lv_lload_n hx hb dX5_made_127 rfl (lv_at hl 3 rfl) ?_
      refine lv_lload hx hb dX5_made_128 (lv_at hl 4 rfl) ?_
      refine W.lcmp hx hb dX5_made_130 ?_
      refine lv_topi (fun z130_1 ez130_1 => ?_)
      refine lv_if_ge (tgt := 138) hx hb dX5_made_131 (by decide) (fun c131_1 => ?_) (fun c131_1 => ?_)
      · have t131_2 := (l_ge ez130_1 c131_1)
        refine lv_lconst (v := 0) hx hb dX5_made_138 (by decide) ?_
        exact endq_l hQ hx hb hr hlocks dX5_made_139 () trivial hP hD hS [] rfl (by decide) rfl (Nat.le_of_ble_eq_true rfl) (Nat.le_of_ble_eq_true rfl)
      · have t131_2 := (l_nge ez130_1 c131_1)
        have r131_3 : rl v2 (-9223372036854775808) 9223372036854775806 := rl_ltA t131_2 (rl_any v2) (rl_any v3) (by decide)
        have r131_4 : rl v3 (-9223372036854775807) 9223372036854775807 := rl_ltB t131_2 (rl_any v2) (rl_any v3) (by decide)
        refine lv_lconst (v := 1) hx hb dX5_made_134 (by decide) ?_
        refine lv_goto (tgt := 139) hx hb dX5_made_135 (by decide) ?_
        exact endq_l hQ hx hb hr hlocks dX5_made_139 () trivial hP hD hS [] rfl (by decide) rfl (Nat.le_of_ble_eq_true rfl) (Nat.le_of_ble_eq_true rfl)
    by_cases h63_131 : v0.toInt = 3
    · have r63_132 : rg v0 3 3 := rg_at h63_131
      refine lv_tableIn (off := 77) (tgt := 140) hx hb dX5_made_63 (by rw [h63_131]; decide) (by rw [h63_131]; decide) (by rw [h63_131]; rfl) (by decide) ?_
      refine lv_lload_n hx hb dX5_made_140 rfl (lv_at hl 3 rfl) ?_
      refine lv_lload hx hb dX5_made_141 (lv_at hl 4 rfl) ?_
      refine go_i (k1 := 0) (n1 := 0) (wr := []) [] [] (rn_SN (As := [.long v2, .long v3]) (rest := []) (c_X11_below l D ct v2 v3  _) (cn_of (n := 2) hn mw_1040 mw_1 mw_1450 mhX11_below ⟨(Nat.le_of_ble_eq_true rfl), (Nat.le_of_ble_eq_true rfl)⟩) hx hb hml hown hn hK hSK hZ hS mw_1039 rfl hl.1 (Nat.le_of_ble_eq_true rfl) dX5_made_143 ⟨(Nat.le_of_ble_eq_true rfl), (Nat.le_of_ble_eq_true rfl)⟩) hP hD hS hA rfl rfl (by decide) (by decide) (by decide) (Nat.le_of_ble_eq_true rfl) (Nat.le_of_ble_eq_true rfl) (fun r143_1 u143_2 H locs hp143_3 hP hD hS => ?_)
      have hp143_4 := hp143_3
      have hp143_4 : rg r143_1 0 1 := hp143_4
      have hP : va_P D vwCl [] _ := hP
      have hD : va_D A [] := hD
      refine lv_if_eq (tgt := 153) hx hb dX5_made_146 (by decide) (fun c146_1 => ?_) (fun c146_1 => ?_)
      · have t146_2 := (i_eq c146_1)
        have r146_3 : rg r143_1 0 0 := rg_eqA t146_2 hp143_4 (show rg (0 : Int32) 0 0 from rg_l (by decide)) (by decide)
        refine lv_lconst (v := 0) hx hb dX5_made_153 (by decide) ?_
        exact endq_l hQ hx hb hr hlocks dX5_made_154 () trivial hP hD hS [] rfl (by decide) rfl (Nat.le_of_ble_eq_true rfl) (Nat.le_of_ble_eq_true rfl)
      · have t146_2 := (i_ne c146_1)
        have r146_3 : rg r143_1 1 1 := rg_neAl t146_2 hp143_4 (show rg (0 : Int32) 0 0 from rg_l (by decide)) (by decide)
        refine lv_lconst (v := 1) hx hb dX5_made_149 (by decide) ?_
        refine lv_goto (tgt := 154) hx hb dX5_made_150 (by decide) ?_
        exact endq_l hQ hx hb hr hlocks dX5_made_154 () trivial hP hD hS [] rfl (by decide) rfl (Nat.le_of_ble_eq_true rfl) (Nat.le_of_ble_eq_true rfl)
    by_cases h63_141 : v0.toInt = 4
    · have r63_142 : rg v0 4 4 := rg_at h63_141
      refine lv_tableIn (off := 92) (tgt := 155) hx hb dX5_made_63 (by rw [h63_141]; decide) (by rw [h63_141]; decide) (by rw [h63_141]; rfl) (by decide) ?_
      refine lv_lload_n hx hb dX5_made_155 rfl (lv_at hl 3 rfl) ?_
      refine lv_lload hx hb dX5_made_156 (lv_at hl 4 rfl) ?_
      refine lv_lxor hx hb dX5_made_158 ?_
      refine lv_topl (fun z158_1 ez158_1 => ?_)
      exact endq_l hQ hx hb hr hlocks dX5_made_159 () trivial hP hD hS [] rfl (by decide) rfl (Nat.le_of_ble_eq_true rfl) (Nat.le_of_ble_eq_true rfl)
    by_cases h63_151 : v0.toInt = 5
    · have r63_152 : rg v0 5 5 := rg_at h63_151
      refine lv_tableIn (off := 97) (tgt := 160) hx hb dX5_made_63 (by rw [h63_151]; decide) (by rw [h63_151]; decide) (by rw [h63_151]; rfl) (by decide) ?_
      refine lv_iload_n hx hb dX5_made_160 rfl (lv_at hl 2 rfl) ?_
      refine lv_bipush (v := 32) hx hb dX5_made_161 (by decide) ?_
      refine lv_icmp_ne (tgt := 173) hx hb dX5_made_163 (by decide) (fun c163_1 => ?_) (fun c163_1 => ?_)
      · have t163_2 := (i_ne c163_1)
        refine lv_lload_n hx hb dX5_made_173 rfl (lv_at hl 3 rfl) ?_
        refine lv_iload hx hb dX5_made_174 (lv_at hl 0 rfl) ?_
        refine lv_lushr hx hb dX5_made_176 rfl ?_
        refine lv_topl (fun z176_1 ez176_1 => ?_)
        exact endq_l hQ hx hb hr hlocks dX5_made_177 () trivial hP hD hS [] rfl (by decide) rfl (Nat.le_of_ble_eq_true rfl) (Nat.le_of_ble_eq_true rfl)
      · have t163_2 := (i_eq c163_1)
        have r163_3 : rg v1 32 32 := rg_eqA t163_2 (rg_any v1) (show rg (32 : Int32) 32 32 from rg_l (by decide)) (by decide)
        refine lv_lload_n hx hb dX5_made_166 rfl (lv_at hl 3 rfl) ?_
        refine lv_iload hx hb dX5_made_167 (lv_at hl 0 rfl) ?_
        refine lv_lshr hx hb dX5_made_169 rfl ?_
        refine lv_topl (fun z169_1 ez169_1 => ?_)
        refine lv_goto (tgt := 177) hx hb dX5_made_170 (by decide) ?_
        exact endq_l hQ hx hb hr hlocks dX5_made_177 () trivial hP hD hS [] rfl (by decide) rfl (Nat.le_of_ble_eq_true rfl) (Nat.le_of_ble_eq_true rfl)
    by_cases h63_161 : v0.toInt = 6
    · have r63_162 : rg v0 6 6 := rg_at h63_161
      refine lv_tableIn (off := 115) (tgt := 178) hx hb dX5_made_63 (by rw [h63_161]; decide) (by rw [h63_161]; decide) (by rw [h63_161]; rfl) (by decide) ?_
      refine lv_lload_n hx hb dX5_made_178 rfl (lv_at hl 3 rfl) ?_
      refine lv_lload hx hb dX5_made_179 (lv_at hl 4 rfl) ?_
      refine lv_lor hx hb dX5_made_181 ?_
      refine lv_topl (fun z181_1 ez181_1 => ?_)
      exact endq_l hQ hx hb hr hlocks dX5_made_182 () trivial hP hD hS [] rfl (by decide) rfl (Nat.le_of_ble_eq_true rfl) (Nat.le_of_ble_eq_true rfl)
    refine lv_tableOut (tgt := 183) hx hb dX5_made_63 (by have q0 := (rg_any v0); have q1 := q0.1; have q2 := q0.2; omega) (by decide) ?_
    refine lv_lload_n hx hb dX5_made_183 rfl (lv_at hl 3 rfl) ?_
    refine lv_lload hx hb dX5_made_184 (lv_at hl 4 rfl) ?_
    refine lv_land hx hb dX5_made_186 ?_
    refine lv_topl (fun z186_1 ez186_1 => ?_)
    exact endq_l hQ hx hb hr hlocks dX5_made_187 () trivial hP hD hS [] rfl (by decide) rfl (Nat.le_of_ble_eq_true rfl) (Nat.le_of_ble_eq_true rfl)
  · have t2_2 := (i_eq c2_1)
    have r2_3 : rg v1 1 1 := rg_eqA t2_2 (rg_any v1) (show rg (1 : Int32) 1 1 from rg_l (by decide)) (by decide)
    refine lv_iload_n hx hb dX5_made_5 rfl (lv_at hl 0 rfl) ?_
    refine lv_if_ne (tgt := 16) hx hb dX5_made_6 (by decide) (fun c6_1 => ?_) (fun c6_1 => ?_)
    · have t6_2 := (i_ne c6_1)
      refine lv_iload_n hx hb dX5_made_16 rfl (lv_at hl 0 rfl) ?_
      refine lv_iconst (v := 5) hx hb dX5_made_17 (by decide) ?_
      refine lv_icmp_ne (tgt := 30) hx hb dX5_made_18 (by decide) (fun c18_1 => ?_) (fun c18_1 => ?_)
      · have t18_2 := (i_ne c18_1)
        refine lv_lload_n hx hb dX5_made_30 rfl (lv_at hl 2 rfl) ?_
        refine lv_lload hx hb dX5_made_31 (lv_at hl 3 rfl) ?_
        refine lv_lconst (v := 0) hx hb dX5_made_33 (by decide) ?_
        refine W.lcmp hx hb dX5_made_34 ?_
        refine lv_topi (fun z34_1 ez34_1 => ?_)
        have b51 : ∀ (j51_s0 : Int64) (H : Heap) (locs : List Loc) (ls : Array Slot), lv_has ls 7 [] → va_P D vwCl [] H → va_D A [] → va_S A s.heap H locs → W p l e ({ frames := 3, cells := 0, slots := 0, locals := 71 }) s m [.int v0, .int v1, .long v2, .long v3].toArray below meth c H locs 0 0 Q (F0 m 51 ls [.long j51_s0, .long v2]) := by
          intro j51_s0 H locs ls  hl hP hD hS
          refine lv_lsub hx hb dX5_made_51 ?_
          refine lv_topl (fun z51_1 ez51_1 => ?_)
          exact endq_l hQ hx hb hr hlocks dX5_made_52 () trivial hP hD hS [] rfl (by decide) rfl (Nat.le_of_ble_eq_true rfl) (Nat.le_of_ble_eq_true rfl)
        refine lv_if_ne (tgt := 42) hx hb dX5_made_35 (by decide) (fun c35_1 => ?_) (fun c35_1 => ?_)
        · have t35_2 := (l_ne ez34_1 c35_1)
          refine lv_lload_n hx hb dX5_made_42 rfl (lv_at hl 2 rfl) ?_
          refine lv_lload hx hb dX5_made_43 (lv_at hl 3 rfl) ?_
          refine go_l (k1 := 0) (n1 := 0) (wr := []) [] [] (rn_SN (As := [.long v2, .long v3]) (rest := [.long v2]) (c_X11_quotient l D ct v2 v3  _) (cn_of (n := 2) hn mw_1108 mw_1 mw_1476 mhX11_quotient ⟨(Nat.le_of_ble_eq_true rfl), (Nat.le_of_ble_eq_true rfl)⟩) hx hb hml hown hn hK hSK hZ hS mw_1107 rfl hl.1 (Nat.le_of_ble_eq_true rfl) dX5_made_45 ⟨(Nat.le_of_ble_eq_true rfl), (Nat.le_of_ble_eq_true rfl)⟩) hP hD hS hA rfl rfl (by decide) (by decide) (by decide) (Nat.le_of_ble_eq_true rfl) (Nat.le_of_ble_eq_true rfl) (fun r45_1 u45_2 H locs hp45_3 hP hD hS => ?_)
          have hP : va_P D vwCl [] _ := hP
          have hD : va_D A [] := hD
          refine lv_lload hx hb dX5_made_48 (lv_at hl 3 rfl) ?_
          refine lv_lmul hx hb dX5_made_50 ?_
          refine lv_topl (fun z50_1 ez50_1 => ?_)
          exact b51 z50_1 H locs ls  (lv_sub hl [] rfl) hP hD hS
        · have t35_2 := (l_eq ez34_1 c35_1)
          have r35_3 : rl v3 0 0 := rl_eqA t35_2 (rl_any v3) (show rl (0 : Int64) 0 0 from rl_l (by decide)) (by decide)
          refine lv_lconst (v := 0) hx hb dX5_made_38 (by decide) ?_
          refine lv_goto (tgt := 51) hx hb dX5_made_39 (by decide) ?_
          exact b51 (0 : Int64) H locs ls  (lv_sub hl [] rfl) hP hD hS
      · have t18_2 := (i_eq c18_1)
        have r18_3 : rg v0 5 5 := rg_eqA t18_2 (rg_any v0) (show rg (5 : Int32) 5 5 from rg_l (by decide)) (by decide)
        refine lv_lload_n hx hb dX5_made_21 rfl (lv_at hl 2 rfl) ?_
        refine lv_lload hx hb dX5_made_22 (lv_at hl 3 rfl) ?_
        refine go_l (k1 := 0) (n1 := 0) (wr := []) [] [] (rn_S (As := [.long v2, .long v3]) (rest := []) (c_X5_divided l D ct v2 v3  _) (cb_of (n := 2) hn mw_1475 mw_5 mw_1473 mhX5_divided ⟨(Nat.le_of_ble_eq_true rfl), (Nat.le_of_ble_eq_true rfl)⟩) hx hb hml hown hn hK hSK hZ hS mw_1474 rfl hl.1 (Nat.le_of_ble_eq_true rfl) dX5_made_24 ⟨(Nat.le_of_ble_eq_true rfl), (Nat.le_of_ble_eq_true rfl)⟩) hP hD hS hA rfl rfl (by decide) (by decide) (by decide) (Nat.le_of_ble_eq_true rfl) (Nat.le_of_ble_eq_true rfl) (fun r24_1 u24_2 H locs hp24_3 hP hD hS => ?_)
        have hP : va_P D vwCl [] _ := hP
        have hD : va_D A [] := hD
        refine lv_goto (tgt := 52) hx hb dX5_made_27 (by decide) ?_
        exact endq_l hQ hx hb hr hlocks dX5_made_52 () trivial hP hD hS [] rfl (by decide) rfl (Nat.le_of_ble_eq_true rfl) (Nat.le_of_ble_eq_true rfl)
    · have t6_2 := (i_eq c6_1)
      have r6_3 : rg v0 0 0 := rg_eqA t6_2 (rg_any v0) (show rg (0 : Int32) 0 0 from rg_l (by decide)) (by decide)
      refine lv_lload_n hx hb dX5_made_9 rfl (lv_at hl 2 rfl) ?_
      refine lv_lload hx hb dX5_made_10 (lv_at hl 3 rfl) ?_
      refine lv_lmul hx hb dX5_made_12 ?_
      refine lv_topl (fun z12_1 ez12_1 => ?_)
      refine lv_goto (tgt := 52) hx hb dX5_made_13 (by decide) ?_
      exact endq_l hQ hx hb hr hlocks dX5_made_52 () trivial hP hD hS [] rfl (by decide) rfl (Nat.le_of_ble_eq_true rfl) (Nat.le_of_ble_eq_true rfl)
set_option maxHeartbeats 2000000 in
theorem c_X5_made32 (l : Launch) (D : va_G) (ct : Nat → ClassId) (v0 : Int32) (v1 : Int32) (v2 : Int64) (v3 : Int64)  : KL (S := Unit) l yX5_made32 cX5_made32 8 (some .long) 4 97 D ct [.int v0, .int v1, .long v2, .long v3] [] 0 0 (fun (r : Int64) (_ : Unit) => rl r (-2147483648) 2147483647) (fun (_ : Unit) => []) := by
  refine KLq_of (by decide) (Nat.le_of_ble_eq_true rfl) (fun p e s m below meth c A Q C0 hA H locs hS hP hD hQ ls hl => ?_)
  obtain ⟨hx, hb, hr, hown, hin, hml, hlocks, hn, hK, hZ, hSK⟩ := C0
  have hl : lv_has ls 8 [(0, .int v0), (1, .int v1), (2, .long v2), (4, .long v3)] := hl
  refine lv_iload_n hx hb dX5_made32_0 rfl (lv_at hl 1 rfl) ?_
  refine lv_iconst (v := 1) hx hb dX5_made32_1 (by decide) ?_
  refine lv_icmp_ne (tgt := 24) hx hb dX5_made32_2 (by decide) (fun c2_1 => ?_) (fun c2_1 => ?_)
  · have t2_2 := (i_ne c2_1)
    refine lv_lload_n hx hb dX5_made32_24 rfl (lv_at hl 2 rfl) ?_
    refine lv_l2i hx hb dX5_made32_25 rfl ?_
    refine lv_topi (fun z25_1 ez25_1 => ?_)
    refine lv_istore (lv' := [(6, .int z25_1), (0, .int v0), (1, .int v1), (2, .long v2), (4, .long v3)]) hx hb dX5_made32_26 hl (by decide) rfl (fun ls hl => ?_)
    refine lv_lload hx hb dX5_made32_28 (lv_at hl 4 rfl) ?_
    refine lv_l2i hx hb dX5_made32_30 rfl ?_
    refine lv_topi (fun z30_1 ez30_1 => ?_)
    refine lv_bipush (v := 31) hx hb dX5_made32_31 (by decide) ?_
    refine lv_iand hx hb dX5_made32_33 ?_
    refine lv_topi (fun z33_1 ez33_1 => ?_)
    have r33_2 : rg z33_1 0 31 := rg_andr ez33_1 (show rg (31 : Int32) 31 31 from rg_l (by decide)) (by decide)
    refine lv_istore (lv' := [(7, .int z33_1), (6, .int z25_1), (0, .int v0), (1, .int v1), (2, .long v2), (4, .long v3)]) hx hb dX5_made32_34 hl (by decide) rfl (fun ls hl => ?_)
    refine lv_iload_n hx hb dX5_made32_36 rfl (lv_at hl 2 rfl) ?_
    by_cases h37_101 : v0.toInt = 0
    · have r37_102 : rg v0 0 0 := rg_at h37_101
      refine lv_lookup (off := 27) (tgt := 64) hx hb dX5_made32_37 (by decide) (by rw [h37_101]; rfl) (by decide) ?_
      refine lv_iload_n hx hb dX5_made32_64 rfl (lv_at hl 3 rfl) ?_
      refine lv_bipush (v := 32) hx hb dX5_made32_65 (by decide) ?_
      refine lv_icmp_ne (tgt := 80) hx hb dX5_made32_67 (by decide) (fun c67_1 => ?_) (fun c67_1 => ?_)
      · have t67_2 := (i_ne c67_1)
        refine lv_iload hx hb dX5_made32_80 (lv_at hl 1 rfl) ?_
        refine lv_lload hx hb dX5_made32_82 (lv_at hl 5 rfl) ?_
        refine lv_l2i hx hb dX5_made32_84 rfl ?_
        refine lv_topi (fun z84_1 ez84_1 => ?_)
        refine lv_iadd hx hb dX5_made32_85 ?_
        refine lv_topi (fun z85_1 ez85_1 => ?_)
        refine lv_i2l hx hb dX5_made32_86 rfl ?_
        refine lv_topl (fun z86_1 ez86_1 => ?_)
        have r86_2 : rl z86_1 (-2147483648) 2147483647 := rl_i2l ez86_1 (rg_any z85_1)
        exact endq_l hQ hx hb hr hlocks dX5_made32_87 () r86_2 hP hD hS [] rfl (by decide) rfl (Nat.le_of_ble_eq_true rfl) (Nat.le_of_ble_eq_true rfl)
      · have t67_2 := (i_eq c67_1)
        have r67_3 : rg v1 32 32 := rg_eqA t67_2 (rg_any v1) (show rg (32 : Int32) 32 32 from rg_l (by decide)) (by decide)
        refine lv_iload hx hb dX5_made32_70 (lv_at hl 1 rfl) ?_
        refine lv_lload hx hb dX5_made32_72 (lv_at hl 5 rfl) ?_
        refine lv_l2i hx hb dX5_made32_74 rfl ?_
        refine lv_topi (fun z74_1 ez74_1 => ?_)
        refine lv_isub hx hb dX5_made32_75 ?_
        refine lv_topi (fun z75_1 ez75_1 => ?_)
        refine lv_i2l hx hb dX5_made32_76 rfl ?_
        refine lv_topl (fun z76_1 ez76_1 => ?_)
        have r76_2 : rl z76_1 (-2147483648) 2147483647 := rl_i2l ez76_1 (rg_any z75_1)
        refine lv_goto (tgt := 87) hx hb dX5_made32_77 (by decide) ?_
        exact endq_l hQ hx hb hr hlocks dX5_made32_87 () r76_2 hP hD hS [] rfl (by decide) rfl (Nat.le_of_ble_eq_true rfl) (Nat.le_of_ble_eq_true rfl)
    by_cases h37_111 : v0.toInt = 1
    · have r37_112 : rg v0 1 1 := rg_at h37_111
      refine lv_lookup (off := 51) (tgt := 88) hx hb dX5_made32_37 (by decide) (by rw [h37_111]; rfl) (by decide) ?_
      refine lv_iload hx hb dX5_made32_88 (lv_at hl 1 rfl) ?_
      refine lv_iload hx hb dX5_made32_90 (lv_at hl 0 rfl) ?_
      refine lv_ishl hx hb dX5_made32_92 ?_
      refine lv_topi (fun z92_1 ez92_1 => ?_)
      refine lv_i2l hx hb dX5_made32_93 rfl ?_
      refine lv_topl (fun z93_1 ez93_1 => ?_)
      have r93_2 : rl z93_1 (-2147483648) 2147483647 := rl_i2l ez93_1 (rg_any z92_1)
      exact endq_l hQ hx hb hr hlocks dX5_made32_94 () r93_2 hP hD hS [] rfl (by decide) rfl (Nat.le_of_ble_eq_true rfl) (Nat.le_of_ble_eq_true rfl)
    refine lv_lookup (off := 58) (tgt := 95) hx hb dX5_made32_37 (by decide) (by simp [Op.lookupswitch.offset, (show ¬ (0 : Int) = v0.toInt from fun q => h37_101 q.symm), (show ¬ (1 : Int) = v0.toInt from fun q => h37_111 q.symm)]) (by decide) ?_
    refine lv_iload_n hx hb dX5_made32_95 rfl (lv_at hl 3 rfl) ?_
    refine lv_bipush (v := 32) hx hb dX5_made32_96 (by decide) ?_
    refine lv_icmp_ne (tgt := 110) hx hb dX5_made32_98 (by decide) (fun c98_1 => ?_) (fun c98_1 => ?_)
    · have t98_2 := (i_ne c98_1)
      refine lv_iload hx hb dX5_made32_110 (lv_at hl 1 rfl) ?_
      refine lv_iload hx hb dX5_made32_112 (lv_at hl 0 rfl) ?_
      refine lv_iushr hx hb dX5_made32_114 rfl ?_
      refine lv_topi (fun z114_1 ez114_1 => ?_)
      refine lv_i2l hx hb dX5_made32_115 rfl ?_
      refine lv_topl (fun z115_1 ez115_1 => ?_)
      have r115_2 : rl z115_1 (-2147483648) 2147483647 := rl_i2l ez115_1 (rg_any z114_1)
      exact endq_l hQ hx hb hr hlocks dX5_made32_116 () r115_2 hP hD hS [] rfl (by decide) rfl (Nat.le_of_ble_eq_true rfl) (Nat.le_of_ble_eq_true rfl)
    · have t98_2 := (i_eq c98_1)
      have r98_3 : rg v1 32 32 := rg_eqA t98_2 (rg_any v1) (show rg (32 : Int32) 32 32 from rg_l (by decide)) (by decide)
      refine lv_iload hx hb dX5_made32_101 (lv_at hl 1 rfl) ?_
      refine lv_iload hx hb dX5_made32_103 (lv_at hl 0 rfl) ?_
      refine lv_ishr hx hb dX5_made32_105 ?_
      refine lv_topi (fun z105_1 ez105_1 => ?_)
      refine lv_i2l hx hb dX5_made32_106 rfl ?_
      refine lv_topl (fun z106_1 ez106_1 => ?_)
      have r106_2 : rl z106_1 (-2147483648) 2147483647 := rl_i2l ez106_1 (rg_any z105_1)
      refine lv_goto (tgt := 116) hx hb dX5_made32_107 (by decide) ?_
      exact endq_l hQ hx hb hr hlocks dX5_made32_116 () r106_2 hP hD hS [] rfl (by decide) rfl (Nat.le_of_ble_eq_true rfl) (Nat.le_of_ble_eq_true rfl)
  · have t2_2 := (i_eq c2_1)
    have r2_3 : rg v1 1 1 := rg_eqA t2_2 (rg_any v1) (show rg (1 : Int32) 1 1 from rg_l (by decide)) (by decide)
    refine lv_iload_n hx hb dX5_made32_5 rfl (lv_at hl 0 rfl) ?_
    refine lv_iload_n hx hb dX5_made32_6 rfl (lv_at hl 1 rfl) ?_
    refine lv_lload_n hx hb dX5_made32_7 rfl (lv_at hl 2 rfl) ?_
    refine lv_ldc2 (v := 4294967295) hx hb hown (hn.get mw_1481 rfl) dX5_made32_8 ?_
    refine lv_land hx hb dX5_made32_11 ?_
    refine lv_topl (fun z11_1 ez11_1 => ?_)
    have r11_2 : rl z11_1 0 4294967295 := rgL_andr ez11_1 (show rl (4294967295 : Int64) 4294967295 4294967295 from rl_l (by decide)) (by decide)
    refine lv_lload hx hb dX5_made32_12 (lv_at hl 3 rfl) ?_
    refine lv_ldc2 (v := 4294967295) hx hb hown (hn.get mw_1481 rfl) dX5_made32_14 ?_
    refine lv_land hx hb dX5_made32_17 ?_
    refine lv_topl (fun z17_1 ez17_1 => ?_)
    have r17_2 : rl z17_1 0 4294967295 := rgL_andr ez17_1 (show rl (4294967295 : Int64) 4294967295 4294967295 from rl_l (by decide)) (by decide)
    refine go_l (k1 := 0) (n1 := 0) (wr := []) [] [] (rn_S (As := [.int v0, .int v1, .long z11_1, .long z17_1]) (rest := []) (c_X5_made l D ct v0 v1 z11_1 z17_1  _) (cb_of (n := 4) hn mw_1472 mw_5 mw_1470 mhX5_made ⟨(Nat.le_of_ble_eq_true rfl), (Nat.le_of_ble_eq_true rfl)⟩) hx hb hml hown hn hK hSK hZ hS mw_1471 rfl hl.1 (Nat.le_of_ble_eq_true rfl) dX5_made32_18 ⟨(Nat.le_of_ble_eq_true rfl), (Nat.le_of_ble_eq_true rfl)⟩) hP hD hS hA rfl rfl (by decide) (by decide) (by decide) (Nat.le_of_ble_eq_true rfl) (Nat.le_of_ble_eq_true rfl) (fun r18_1 u18_2 H locs hp18_3 hP hD hS => ?_)
    have hP : va_P D vwCl [] _ := hP
    have hD : va_D A [] := hD
    refine lv_l2i hx hb dX5_made32_21 rfl ?_
    refine lv_topi (fun z21_1 ez21_1 => ?_)
    refine lv_i2l hx hb dX5_made32_22 rfl ?_
    refine lv_topl (fun z22_1 ez22_1 => ?_)
    have r22_2 : rl z22_1 (-2147483648) 2147483647 := rl_i2l ez22_1 (rg_any z21_1)
    exact endq_l hQ hx hb hr hlocks dX5_made32_23 () r22_2 hP hD hS [] rfl (by decide) rfl (Nat.le_of_ble_eq_true rfl) (Nat.le_of_ble_eq_true rfl)
set_option maxHeartbeats 2000000 in
theorem c_X5_takeTape (l : Launch) (D : va_G) (ct : Nat → ClassId) (o0 : Nat) (t0 : Nat) (o0r : Nat) (x_o0_1 : Int32) (t0r : Nat) (x_t0_1 : Int32) (g_t0r : Nat → Int32) (g_o0r : Nat → Int32) (h_x_o0_1 : rg x_o0_1 0 60000) (h_x_t0_1 : rg x_t0_1 0 2000) (h_g_t0r : Rg g_t0r 2000 (-128) 127) : KI (S := Int32 × (Nat → Int32)) l yX5_takeTape cX5_takeTape 3 (some .int) 3 66 D ct [.ref o0, .ref t0] [(o0, .inr (5, [.ref o0r, .int x_o0_1])), (t0, .inr (9, [.ref t0r, .int x_t0_1])), (t0r, .inl (ct 0, 2000, .inl g_t0r)), (o0r, .inl (ct 1, 60000, .inl g_o0r))] 0 0 (fun (r : Int32) (u : Int32 × (Nat → Int32)) => match u with | (y_o0_1, k_o0r) => rg r (-1) 500 ∧ rg y_o0_1 0 60000) (fun (u : Int32 × (Nat → Int32)) => match u with | (y_o0_1, k_o0r) => [(o0, .inr (5, [.ref o0r, .int y_o0_1])), (t0, .inr (9, [.ref t0r, .int x_t0_1])), (t0r, .inl (ct 0, 2000, .inl g_t0r)), (o0r, .inl (ct 1, 60000, .inl k_o0r))]) := by
  refine KIq_of (by decide) (Nat.le_of_ble_eq_true rfl) (fun p e s m below meth c A Q C0 hA H locs hS hP hD hQ ls hl => ?_)
  obtain ⟨hx, hb, hr, hown, hin, hml, hlocks, hn, hK, hZ, hSK⟩ := C0
  have hl : lv_has ls 3 [(0, .ref o0), (1, .ref t0)] := hl
  refine lv_aload_n hx hb dX5_takeTape_0 rfl (lv_at hl 1 rfl) ?_
  refine va_getN (D := D) (ci := 9) (v := .int x_t0_1) (C := RX9) (T := TX9) (N := 2) hx hb (htX9 hn) (fun _ h => h) hown hK hP 1 rfl rfl 1 (by decide) (hn.get mw_45 rfl) (fun _ h9 => h9) rfl dX5_takeTape_1 ?_
  refine lv_if_eq (tgt := 16) hx hb dX5_takeTape_4 (by decide) (fun c4_1 => ?_) (fun c4_1 => ?_)
  · have t4_2 := (i_eq c4_1)
    have r4_3 : rg x_t0_1 0 0 := rg_eqA t4_2 h_x_t0_1 (show rg (0 : Int32) 0 0 from rg_l (by decide)) (by decide)
    refine lv_iconst (v := (-1)) hx hb dX5_takeTape_16 (by decide) ?_
    exact endq_i hQ hx hb hr hlocks dX5_takeTape_17 rfl (x_o0_1, g_o0r) ⟨(rg_w (show rg ((-1) : Int32) (-1) (-1) from rg_l (by decide)) (by decide)), h_x_o0_1⟩ hP hD hS [0, 1, 2, 3] rfl (by decide) rfl (Nat.le_of_ble_eq_true rfl) (Nat.le_of_ble_eq_true rfl)
  · have t4_2 := (i_ne c4_1)
    have r4_3 : rg x_t0_1 1 2000 := rg_neAl t4_2 h_x_t0_1 (show rg (0 : Int32) 0 0 from rg_l (by decide)) (by decide)
    refine lv_aload_n hx hb dX5_takeTape_7 rfl (lv_at hl 1 rfl) ?_
    refine va_getN (D := D) (ci := 9) (v := .int x_t0_1) (C := RX9) (T := TX9) (N := 2) hx hb (htX9 hn) (fun _ h => h) hown hK hP 1 rfl rfl 1 (by decide) (hn.get mw_45 rfl) (fun _ h9 => h9) rfl dX5_takeTape_8 ?_
    refine lv_iconst (v := 4) hx hb dX5_takeTape_11 (by decide) ?_
    refine lv_irem hx hb dX5_takeTape_12 (by decide) ?_
    refine lv_topi (fun z12_1 ez12_1 => ?_)
    have r12_2 : rg z12_1 0 3 := rg_rem (k := 4) ez12_1 (by decide) r4_3 (by decide)
    refine lv_if_eq (tgt := 18) hx hb dX5_takeTape_13 (by decide) (fun c13_1 => ?_) (fun c13_1 => ?_)
    · have t13_2 := (i_eq c13_1)
      have r13_3 : rg z12_1 0 0 := rg_eqA t13_2 r12_2 (show rg (0 : Int32) 0 0 from rg_l (by decide)) (by decide)
      refine lv_aload_n hx hb dX5_takeTape_18 rfl (lv_at hl 0 rfl) ?_
      refine lv_aload_n hx hb dX5_takeTape_19 rfl (lv_at hl 1 rfl) ?_
      refine va_getN (D := D) (ci := 9) (v := .int x_t0_1) (C := RX9) (T := TX9) (N := 2) hx hb (htX9 hn) (fun _ h => h) hown hK hP 1 rfl rfl 1 (by decide) (hn.get mw_45 rfl) (fun _ h9 => h9) rfl dX5_takeTape_20 ?_
      refine lv_iconst (v := 4) hx hb dX5_takeTape_23 (by decide) ?_
      refine lv_idiv hx hb dX5_takeTape_24 (by decide) ?_
      refine lv_topi (fun z24_1 ez24_1 => ?_)
      have r24_2 : rg z24_1 0 500 := rg_div (k := 4) ez24_1 (by decide) r4_3 (by decide)
      refine va_put (D := D) (ci := 5) (v := .int z24_1) (ty := .int) (C := RX5) (T := TX5) (N := 2) hx hb (htX5 hn) (fun _ h => h) tyX5 tyX5_ok nmX5 hown hK hP hD hS 0 rfl rfl 1 (by decide) (hn.get mw_133 rfl) (fun _ h9 => h9) rfl (by decide +kernel) rfl rfl (Nat.le_of_ble_eq_true rfl) dX5_takeTape_25 (fun H locs hP hD hS => ?_)
      have hP : va_P D vwCl [(o0, .inr (5, [.ref o0r, .int z24_1])), (t0, .inr (9, [.ref t0r, .int x_t0_1])), (t0r, .inl (ct 0, 2000, .inl g_t0r)), (o0r, .inl (ct 1, 60000, .inl g_o0r))] _ := hP
      have hD : va_D A [(o0, .inr (5, [.ref o0r, .int z24_1])), (t0, .inr (9, [.ref t0r, .int x_t0_1])), (t0r, .inl (ct 0, 2000, .inl g_t0r)), (o0r, .inl (ct 1, 60000, .inl g_o0r))] := hD
      refine lv_iconst (v := 0) hx hb dX5_takeTape_28 (by decide) ?_
      refine lv_istore_n (lv' := [(2, .int 0), (0, .ref o0), (1, .ref t0)]) hx hb dX5_takeTape_29 rfl hl (by decide) rfl (fun ls hl => ?_)
      have b30 : ∀ (n : Nat) (j30_l2 : Int32) (j30_co0r : Nat → Int32) (H : Heap) (locs : List Loc) (ls : Array Slot), (rg j30_l2 0 2147483647) → ((2147483647 : Int) - j30_l2.toInt).toNat < n → lv_has ls 3 [(0, .ref o0), (1, .ref t0), (2, .int j30_l2)] → va_P D vwCl [(o0, .inr (5, [.ref o0r, .int z24_1])), (t0, .inr (9, [.ref t0r, .int x_t0_1])), (t0r, .inl (ct 0, 2000, .inl g_t0r)), (o0r, .inl (ct 1, 60000, .inl j30_co0r))] H → va_D A [(o0, .inr (5, [.ref o0r, .int z24_1])), (t0, .inr (9, [.ref t0r, .int x_t0_1])), (t0r, .inl (ct 0, 2000, .inl g_t0r)), (o0r, .inl (ct 1, 60000, .inl j30_co0r))] → va_S A s.heap H locs → W p l e ({ frames := 3, cells := 0, slots := 0, locals := 66 }) s m [.ref o0, .ref t0].toArray below meth c H locs 0 0 Q (F0 m 30 ls []) := by
        intro n
        induction n with
        | zero => intros; rename_i hms _ _ _ _; exact absurd hms (Nat.not_lt_zero _)
        | succ n ih =>
          intro j30_l2 j30_co0r H locs ls r30_1001 hms hl hP hD hS
          refine lv_iload_n hx hb dX5_takeTape_30 rfl (lv_at hl 2 rfl) ?_
          refine lv_aload_n hx hb dX5_takeTape_31 rfl (lv_at hl 0 rfl) ?_
          refine va_get (D := D) (ci := 5) (v := .int z24_1) (C := RX5) (T := TX5) (N := 2) hx hb (htX5 hn) (fun _ h => h) hown hK hP 0 rfl rfl 1 (by decide) (hn.get mw_133 rfl) (fun _ h9 => h9) rfl dX5_takeTape_32 ?_
          refine lv_icmp_ge (tgt := 59) hx hb dX5_takeTape_35 (by decide) (fun c35_1 => ?_) (fun c35_1 => ?_)
          · have t35_2 := (i_le c35_1)
            refine lv_aload_n hx hb dX5_takeTape_59 rfl (lv_at hl 0 rfl) ?_
            refine va_get (D := D) (ci := 5) (v := .int z24_1) (C := RX5) (T := TX5) (N := 2) hx hb (htX5 hn) (fun _ h => h) hown hK hP 0 rfl rfl 1 (by decide) (hn.get mw_133 rfl) (fun _ h9 => h9) rfl dX5_takeTape_60 ?_
            exact endq_i hQ hx hb hr hlocks dX5_takeTape_63 rfl (z24_1, j30_co0r) ⟨(rg_w r24_2 (by decide)), (rg_w r24_2 (by decide))⟩ hP hD hS [0, 1, 2, 3] rfl (by decide) rfl (Nat.le_of_ble_eq_true rfl) (Nat.le_of_ble_eq_true rfl)
          · have t35_2 := (i_nle c35_1)
            have r35_3 : rg j30_l2 0 499 := rg_ltA t35_2 r30_1001 r24_2 (by decide)
            have r35_4 : rg z24_1 1 500 := rg_ltB t35_2 r30_1001 r24_2 (by decide)
            refine lv_aload_n hx hb dX5_takeTape_38 rfl (lv_at hl 0 rfl) ?_
            refine va_get (D := D) (ci := 5) (v := .ref o0r) (C := RX5) (T := TX5) (N := 2) hx hb (htX5 hn) (fun _ h => h) hown hK hP 0 rfl rfl 0 (by decide) (hn.get mw_131 rfl) (fun _ h9 => h9) rfl dX5_takeTape_39 ?_
            refine lv_iload_n hx hb dX5_takeTape_42 rfl (lv_at hl 2 rfl) ?_
            refine lv_aload_n hx hb dX5_takeTape_43 rfl (lv_at hl 1 rfl) ?_
            refine lv_iconst (v := 4) hx hb dX5_takeTape_44 (by decide) ?_
            refine lv_iload_n hx hb dX5_takeTape_45 rfl (lv_at hl 2 rfl) ?_
            refine lv_imul hx hb dX5_takeTape_46 ?_
            refine lv_topi (fun z46_1 ez46_1 => ?_)
            have r46_2 : rg z46_1 0 1996 := rg_mul ez46_1 (show rg (4 : Int32) 4 4 from rg_l (by decide)) r35_3 (by decide)
            refine lv_iconst (v := 4) hx hb dX5_takeTape_47 (by decide) ?_
            refine go_l (k1 := 0) (n1 := 0) (wr := [(o0, .inr (5, [.ref o0r, .int z24_1])), (o0r, .inl (ct 1, 60000, .inl j30_co0r))]) [1, 2] [0, 3] (rn_VN (As := [.int z46_1, .int 4]) (rest := [.int j30_l2, .ref o0r]) (c_X9_lowestFirst l D ct t0 z46_1 (4 : Int32) t0r x_t0_1 g_t0r (rg_w r46_2 (by decide)) (rg_w (show rg (4 : Int32) 4 4 from rg_l (by decide)) (by decide)) (rg_w r4_3 (by decide)) h_g_t0r _) (cn_of (n := 2) hn mw_928 mw_2 mw_1392 mhX9_lowestFirst ⟨(Nat.le_of_ble_eq_true rfl), (Nat.le_of_ble_eq_true rfl)⟩) hx hb hml hown hn hK hSK hZ hS mw_927 mw_s91 (ci := 9) (q0 := 0) rfl rfl rfl rfl hl.1 (Nat.le_of_ble_eq_true rfl) dX5_takeTape_48 ⟨(Nat.le_of_ble_eq_true rfl), (Nat.le_of_ble_eq_true rfl)⟩) hP hD hS hA rfl rfl (by decide) (by decide) (by decide) (Nat.le_of_ble_eq_true rfl) (Nat.le_of_ble_eq_true rfl) (fun r48_1 u48_2 H locs hp48_3 hP hD hS => ?_)
            have hP : va_P D vwCl [(o0, .inr (5, [.ref o0r, .int z24_1])), (o0r, .inl (ct 1, 60000, .inl j30_co0r)), (t0, .inr (9, [.ref t0r, .int x_t0_1])), (t0r, .inl (ct 0, 2000, .inl g_t0r))] _ := hP
            have hD : va_D A [(o0, .inr (5, [.ref o0r, .int z24_1])), (o0r, .inl (ct 1, 60000, .inl j30_co0r)), (t0, .inr (9, [.ref t0r, .int x_t0_1])), (t0r, .inl (ct 0, 2000, .inl g_t0r))] := hD
            refine lv_l2i hx hb dX5_takeTape_51 rfl ?_
            refine lv_topi (fun z51_1 ez51_1 => ?_)
            have hi52_1 : vp_in j30_l2 60000 := (in_rg r35_3 (by decide))
            refine va_iast hx hb hK hP hD hS 1 1 rfl rfl hi52_1 dX5_takeTape_52 (fun H locs hP hD hS => ?_)
            have hP : va_P D vwCl [(o0, .inr (5, [.ref o0r, .int z24_1])), (o0r, .inl (ct 1, 60000, .inl (upd j30_co0r j30_l2.toNatClampNeg z51_1))), (t0, .inr (9, [.ref t0r, .int x_t0_1])), (t0r, .inl (ct 0, 2000, .inl g_t0r))] _ := hP
            have hD : va_D A [(o0, .inr (5, [.ref o0r, .int z24_1])), (o0r, .inl (ct 1, 60000, .inl (upd j30_co0r j30_l2.toNatClampNeg z51_1))), (t0, .inr (9, [.ref t0r, .int x_t0_1])), (t0r, .inl (ct 0, 2000, .inl g_t0r))] := hD
            obtain ⟨f52_2, ef52_2⟩ : ∃ z, z = (upd j30_co0r j30_l2.toNatClampNeg z51_1) := ⟨_, rfl⟩
            rw [← ef52_2] at hP hD
            obtain ⟨x53_1, ex53_1⟩ : ∃ z : Int32, z = j30_l2 + 1 := ⟨_, rfl⟩
            have r53_2 : rg x53_1 1 500 := rg_add ex53_1 r35_3 (show rg (1 : Int32) 1 1 from rg_l (by decide)) (by decide)
            refine lv_iinc (v := x53_1) (lv' := [(2, .int x53_1), (0, .ref o0), (1, .ref t0)]) hx hb dX5_takeTape_53 hl (k := 2) rfl (by rw [ex53_1]; rfl) (by decide) rfl (fun ls hl => ?_)
            refine lv_goto (tgt := 30) hx hb dX5_takeTape_56 (by decide) ?_
            have hP := hP.sub (ws' := [(o0, .inr (5, [.ref o0r, .int z24_1])), (t0, .inr (9, [.ref t0r, .int x_t0_1])), (t0r, .inl (ct 0, 2000, .inl g_t0r)), (o0r, .inl (ct 1, 60000, .inl f52_2))]) [0, 2, 3, 1] rfl
            have hD := hD.sub (ws' := [(o0, .inr (5, [.ref o0r, .int z24_1])), (t0, .inr (9, [.ref t0r, .int x_t0_1])), (t0r, .inl (ct 0, 2000, .inl g_t0r)), (o0r, .inl (ct 1, 60000, .inl f52_2))]) [0, 2, 3, 1] (by decide) rfl
            exact ih x53_1 f52_2 H locs ls (rg_w r53_2 (by decide)) (show ((2147483647 : Int) - x53_1.toInt).toNat < n by have q0 := r35_3.1; have q1 := r35_3.2; have q2 := r53_2.1; have q3 := r53_2.2; have q4 := (eq_add ex53_1 r35_3 (show rg (1 : Int32) 1 1 from rg_l (by decide)) (by decide)); have q5 := (show rg (1 : Int32) 1 1 from rg_l (by decide)).1; have q6 := (show rg (1 : Int32) 1 1 from rg_l (by decide)).2; have q7 := r35_4.1; have q8 := r35_4.2; have q9 := (eq_div (c := 4) (k := 4) ez24_1 (by decide) r4_3 (by decide)); have q10 := r4_3.1; have q11 := r4_3.2; have q12 := (show rg (0 : Int32) 0 0 from rg_l (by decide)).1; have q13 := (show rg (0 : Int32) 0 0 from rg_l (by decide)).2; have q14 := r13_3.1; have q15 := r13_3.2; have q16 := (eq_rem (c := 4) (k := 4) ez12_1 (by decide) r4_3 (by decide)); have q17 := t4_2; have q18 := t13_2; have q19 := t35_2; have q20 := hms; omega) (lv_sub hl [1, 2, 0] rfl) hP hD hS
      exact b30 _ (0 : Int32) g_o0r H locs ls (rg_w (show rg (0 : Int32) 0 0 from rg_l (by decide)) (by decide)) (Nat.lt_succ_self _) (lv_sub hl [1, 2, 0] rfl) hP hD hS
    · have t13_2 := (i_ne c13_1)
      have r13_3 : rg z12_1 1 3 := rg_neAl t13_2 r12_2 (show rg (0 : Int32) 0 0 from rg_l (by decide)) (by decide)
      refine lv_iconst (v := (-1)) hx hb dX5_takeTape_16 (by decide) ?_
      exact endq_i hQ hx hb hr hlocks dX5_takeTape_17 rfl (x_o0_1, g_o0r) ⟨(rg_w (show rg ((-1) : Int32) (-1) (-1) from rg_l (by decide)) (by decide)), h_x_o0_1⟩ hP hD hS [0, 1, 2, 3] rfl (by decide) rfl (Nat.le_of_ble_eq_true rfl) (Nat.le_of_ble_eq_true rfl)
set_option maxHeartbeats 2000000 in
theorem c_X5_at (l : Launch) (D : va_G) (ct : Nat → ClassId) (o0 : Nat) (v0 : Int32) (o0r : Nat) (x_o0_1 : Int32) (g_o0r : Nat → Int32) (h_x_o0_1 : rg x_o0_1 0 60000) : KI (S := Unit) l yX5_at cX5_at 2 (some .int) 1 20 D ct [.ref o0, .int v0] [(o0, .inr (5, [.ref o0r, .int x_o0_1])), (o0r, .inl (ct 1, 60000, .inl g_o0r))] 0 0 (fun (r : Int32) (_ : Unit) => True) (fun (_ : Unit) => [(o0, .inr (5, [.ref o0r, .int x_o0_1])), (o0r, .inl (ct 1, 60000, .inl g_o0r))]) := by
  refine KIq_of (by decide) (Nat.le_of_ble_eq_true rfl) (fun p e s m below meth c A Q C0 hA H locs hS hP hD hQ ls hl => ?_)
  obtain ⟨hx, hb, hr, hown, hin, hml, hlocks, hn, hK, hZ, hSK⟩ := C0
  have hl : lv_has ls 2 [(0, .ref o0), (1, .int v0)] := hl
  refine lv_iload_n hx hb dX5_at_0 rfl (lv_at hl 1 rfl) ?_
  refine lv_if_lt (tgt := 12) hx hb dX5_at_1 (by decide) (fun c1_1 => ?_) (fun c1_1 => ?_)
  · have t1_2 := (i_lt c1_1)
    have r1_3 : rg v0 (-2147483648) (-1) := rg_ltA t1_2 (rg_any v0) (show rg (0 : Int32) 0 0 from rg_l (by decide)) (by decide)
    refine lv_iconst (v := 0) hx hb dX5_at_12 (by decide) ?_
    refine lv_goto (tgt := 22) hx hb dX5_at_13 (by decide) ?_
    exact endq_i hQ hx hb hr hlocks dX5_at_22 rfl () trivial hP hD hS [0, 1] rfl (by decide) rfl (Nat.le_of_ble_eq_true rfl) (Nat.le_of_ble_eq_true rfl)
  · have t1_2 := (i_nlt c1_1)
    have r1_3 : rg v0 0 2147483647 := rg_leB t1_2 (show rg (0 : Int32) 0 0 from rg_l (by decide)) (rg_any v0) (by decide)
    refine lv_iload_n hx hb dX5_at_4 rfl (lv_at hl 1 rfl) ?_
    refine lv_aload_n hx hb dX5_at_5 rfl (lv_at hl 0 rfl) ?_
    refine va_get (D := D) (ci := 5) (v := .int x_o0_1) (C := RX5) (T := TX5) (N := 2) hx hb (htX5 hn) (fun _ h => h) hown hK hP 0 rfl rfl 1 (by decide) (hn.get mw_133 rfl) (fun _ h9 => h9) rfl dX5_at_6 ?_
    refine lv_icmp_lt (tgt := 16) hx hb dX5_at_9 (by decide) (fun c9_1 => ?_) (fun c9_1 => ?_)
    · have t9_2 := (i_lt c9_1)
      have r9_3 : rg v0 0 59999 := rg_ltA t9_2 r1_3 h_x_o0_1 (by decide)
      have r9_4 : rg x_o0_1 1 60000 := rg_ltB t9_2 r1_3 h_x_o0_1 (by decide)
      refine lv_aload_n hx hb dX5_at_16 rfl (lv_at hl 0 rfl) ?_
      refine va_get (D := D) (ci := 5) (v := .ref o0r) (C := RX5) (T := TX5) (N := 2) hx hb (htX5 hn) (fun _ h => h) hown hK hP 0 rfl rfl 0 (by decide) (hn.get mw_131 rfl) (fun _ h9 => h9) rfl dX5_at_17 ?_
      refine lv_iload_n hx hb dX5_at_20 rfl (lv_at hl 1 rfl) ?_
      have hi21_1 : vp_in v0 60000 := (in_rg r9_3 (by decide))
      refine va_iald hx hb hK hP 1 1 rfl rfl hi21_1 dX5_at_21 ?_
      refine lv_topi (fun z21_2 ez21_2 => ?_)
      exact endq_i hQ hx hb hr hlocks dX5_at_22 rfl () trivial hP hD hS [0, 1] rfl (by decide) rfl (Nat.le_of_ble_eq_true rfl) (Nat.le_of_ble_eq_true rfl)
    · have t9_2 := (i_nlt c9_1)
      refine lv_iconst (v := 0) hx hb dX5_at_12 (by decide) ?_
      refine lv_goto (tgt := 22) hx hb dX5_at_13 (by decide) ?_
      exact endq_i hQ hx hb hr hlocks dX5_at_22 rfl () trivial hP hD hS [0, 1] rfl (by decide) rfl (Nat.le_of_ble_eq_true rfl) (Nat.le_of_ble_eq_true rfl)
set_option maxHeartbeats 2000000 in
theorem c_X5_keep (l : Launch) (D : va_G) (ct : Nat → ClassId) (m0 : Nat) (v1 : Int32) (v2 : Int64) (m0r : Nat) (m0s : Nat) (k0 : Nat) (x_m0_3 : Int32) (x_m0_4 : Int32) (x_m0_5 : Int32) (x_m0_6 : Int32) (x_m0_7 : Int32) (x_m0_8 : Int64) (x_m0_9 : Int32) (g_m0r : Nat → Int64) (h_x_m0_9 : rg x_m0_9 0 1) : KV (S := (Nat → Int64)) l yX5_keep cX5_keep 4 none 2 43 D ct [.ref m0, .int v1, .long v2] [(m0, .inr (4, [.ref m0r, .ref m0s, .ref k0, .int x_m0_3, .int x_m0_4, .int x_m0_5, .int x_m0_6, .int x_m0_7, .long x_m0_8, .int x_m0_9])), (m0r, .inl (ct 2, 32, .inr (.inl g_m0r)))] 0 0 (fun (k_m0r : (Nat → Int64)) => True) (fun (k_m0r : (Nat → Int64)) => [(m0, .inr (4, [.ref m0r, .ref m0s, .ref k0, .int x_m0_3, .int x_m0_4, .int x_m0_5, .int x_m0_6, .int x_m0_7, .long x_m0_8, .int x_m0_9])), (m0r, .inl (ct 2, 32, .inr (.inl k_m0r)))]) := by
  refine KVq_of (by decide) (Nat.le_of_ble_eq_true rfl) (fun p e s m below meth c A Q C0 hA H locs hS hP hD hQ ls hl => ?_)
  obtain ⟨hx, hb, hr, hown, hin, hml, hlocks, hn, hK, hZ, hSK⟩ := C0
  have hl : lv_has ls 4 [(0, .ref m0), (1, .int v1), (2, .long v2)] := hl
  refine lv_iload_n hx hb dX5_keep_0 rfl (lv_at hl 1 rfl) ?_
  refine lv_if_eq (tgt := 10) hx hb dX5_keep_1 (by decide) (fun c1_1 => ?_) (fun c1_1 => ?_)
  · have t1_2 := (i_eq c1_1)
    have r1_3 : rg v1 0 0 := rg_eqA t1_2 (rg_any v1) (show rg (0 : Int32) 0 0 from rg_l (by decide)) (by decide)
    exact endq_v hQ hx hb hr hlocks dX5_keep_10 g_m0r trivial hP hD hS [0, 1] rfl (by decide) rfl (Nat.le_of_ble_eq_true rfl) (Nat.le_of_ble_eq_true rfl)
  · have t1_2 := (i_ne c1_1)
    refine lv_aload_n hx hb dX5_keep_4 rfl (lv_at hl 0 rfl) ?_
    refine lv_iload_n hx hb dX5_keep_5 rfl (lv_at hl 1 rfl) ?_
    refine lv_lload_n hx hb dX5_keep_6 rfl (lv_at hl 2 rfl) ?_
    refine go_v (k1 := 0) (n1 := 0) (wr := []) [0, 1] [] (rn_VN (As := [.int v1, .long v2]) (rest := []) (c_X4_set l D ct m0 v1 v2 m0r m0s k0 x_m0_3 x_m0_4 x_m0_5 x_m0_6 x_m0_7 x_m0_8 x_m0_9 g_m0r h_x_m0_9 _) (cn_of (n := 2) hn mw_1209 mw_4 mw_1411 mhX4_set ⟨(Nat.le_of_ble_eq_true rfl), (Nat.le_of_ble_eq_true rfl)⟩) hx hb hml hown hn hK hSK hZ hS mw_1208 mw_s132 (ci := 4) (q0 := 0) rfl rfl rfl rfl hl.1 (Nat.le_of_ble_eq_true rfl) dX5_keep_7 ⟨(Nat.le_of_ble_eq_true rfl), (Nat.le_of_ble_eq_true rfl)⟩) hP hD hS hA rfl rfl (by decide) (by decide) (by decide) (Nat.le_of_ble_eq_true rfl) (Nat.le_of_ble_eq_true rfl) (fun u7_2 H locs hp7_3 hP hD hS => ?_)
    have hP : va_P D vwCl [(m0, .inr (4, [.ref m0r, .ref m0s, .ref k0, .int x_m0_3, .int x_m0_4, .int x_m0_5, .int x_m0_6, .int x_m0_7, .long x_m0_8, .int x_m0_9])), (m0r, .inl (ct 2, 32, .inr (.inl u7_2)))] _ := hP
    have hD : va_D A [(m0, .inr (4, [.ref m0r, .ref m0s, .ref k0, .int x_m0_3, .int x_m0_4, .int x_m0_5, .int x_m0_6, .int x_m0_7, .long x_m0_8, .int x_m0_9])), (m0r, .inl (ct 2, 32, .inr (.inl u7_2)))] := hD
    exact endq_v hQ hx hb hr hlocks dX5_keep_10 u7_2 trivial hP hD hS [0, 1] rfl (by decide) rfl (Nat.le_of_ble_eq_true rfl) (Nat.le_of_ble_eq_true rfl)
set_option maxHeartbeats 2000000 in
theorem c_X5_go (l : Launch) (D : va_G) (ct : Nat → ClassId) (m0 : Nat) (v1 : Int64) (m0r : Nat) (m0s : Nat) (k0 : Nat) (x_m0_3 : Int32) (x_m0_4 : Int32) (x_m0_5 : Int32) (x_m0_6 : Int32) (x_m0_7 : Int32) (x_m0_8 : Int64) (x_m0_9 : Int32) (h_x_m0_9 : rg x_m0_9 0 1) : KV (S := Int64) l yX5_go cX5_go 3 none 1 20 D ct [.ref m0, .long v1] [(m0, .inr (4, [.ref m0r, .ref m0s, .ref k0, .int x_m0_3, .int x_m0_4, .int x_m0_5, .int x_m0_6, .int x_m0_7, .long x_m0_8, .int x_m0_9]))] 0 0 (fun (y_m0_8 : Int64) => True) (fun (y_m0_8 : Int64) => [(m0, .inr (4, [.ref m0r, .ref m0s, .ref k0, .int x_m0_3, .int x_m0_4, .int x_m0_5, .int x_m0_6, .int x_m0_7, .long y_m0_8, .int x_m0_9]))]) := by
  refine KVq_of (by decide) (Nat.le_of_ble_eq_true rfl) (fun p e s m below meth c A Q C0 hA H locs hS hP hD hQ ls hl => ?_)
  obtain ⟨hx, hb, hr, hown, hin, hml, hlocks, hn, hK, hZ, hSK⟩ := C0
  have hl : lv_has ls 3 [(0, .ref m0), (1, .long v1)] := hl
  refine lv_aload_n hx hb dX5_go_0 rfl (lv_at hl 0 rfl) ?_
  refine lv_lload_n hx hb dX5_go_1 rfl (lv_at hl 1 rfl) ?_
  refine lv_lconst (v := 0) hx hb dX5_go_2 (by decide) ?_
  refine W.lcmp hx hb dX5_go_3 ?_
  refine lv_topi (fun z3_1 ez3_1 => ?_)
  have b26 : ∀ (j26_s0 : Int64) (H : Heap) (locs : List Loc) (ls : Array Slot), lv_has ls 3 [] → va_P D vwCl [(m0, .inr (4, [.ref m0r, .ref m0s, .ref k0, .int x_m0_3, .int x_m0_4, .int x_m0_5, .int x_m0_6, .int x_m0_7, .long x_m0_8, .int x_m0_9]))] H → va_D A [(m0, .inr (4, [.ref m0r, .ref m0s, .ref k0, .int x_m0_3, .int x_m0_4, .int x_m0_5, .int x_m0_6, .int x_m0_7, .long x_m0_8, .int x_m0_9]))] → va_S A s.heap H locs → W p l e ({ frames := 1, cells := 0, slots := 0, locals := 20 }) s m [.ref m0, .long v1].toArray below meth c H locs 0 0 Q (F0 m 26 ls [.long j26_s0, .ref m0]) := by
    intro j26_s0 H locs ls  hl hP hD hS
    refine va_putN (D := D) (ci := 4) (v := .long j26_s0) (ty := .long) (C := RX4) (T := TX4) (N := 10) hx hb (htX4 hn) (fun _ h => h) tyX4 tyX4_ok nmX4 hown hK hP hD hS 0 rfl rfl 8 (by decide) (hn.get mw_97 rfl) (fun _ h9 => h9) rfl (by decide +kernel) rfl rfl (Nat.le_of_ble_eq_true rfl) dX5_go_26 (fun H locs hP hD hS => ?_)
    have hP : va_P D vwCl [(m0, .inr (4, [.ref m0r, .ref m0s, .ref k0, .int x_m0_3, .int x_m0_4, .int x_m0_5, .int x_m0_6, .int x_m0_7, .long j26_s0, .int x_m0_9]))] _ := hP
    have hD : va_D A [(m0, .inr (4, [.ref m0r, .ref m0s, .ref k0, .int x_m0_3, .int x_m0_4, .int x_m0_5, .int x_m0_6, .int x_m0_7, .long j26_s0, .int x_m0_9]))] := hD
    exact endq_v hQ hx hb hr hlocks dX5_go_29 j26_s0 trivial hP hD hS [0] rfl (by decide) rfl (Nat.le_of_ble_eq_true rfl) (Nat.le_of_ble_eq_true rfl)
  have b17 : ∀  (H : Heap) (locs : List Loc) (ls : Array Slot), lv_has ls 3 [] → va_P D vwCl [(m0, .inr (4, [.ref m0r, .ref m0s, .ref k0, .int x_m0_3, .int x_m0_4, .int x_m0_5, .int x_m0_6, .int x_m0_7, .long x_m0_8, .int x_m0_9]))] H → va_D A [(m0, .inr (4, [.ref m0r, .ref m0s, .ref k0, .int x_m0_3, .int x_m0_4, .int x_m0_5, .int x_m0_6, .int x_m0_7, .long x_m0_8, .int x_m0_9]))] → va_S A s.heap H locs → W p l e ({ frames := 1, cells := 0, slots := 0, locals := 20 }) s m [.ref m0, .long v1].toArray below meth c H locs 0 0 Q (F0 m 17 ls [.ref m0]) := by
    intro  H locs ls  hl hP hD hS
    refine lv_ldc2 (v := (-1)) hx hb hown (hn.get mw_1445 rfl) dX5_go_17 ?_
    refine lv_goto (tgt := 26) hx hb dX5_go_20 (by decide) ?_
    exact b26 ((-1) : Int64) H locs ls  (lv_sub hl [] rfl) hP hD hS
  refine lv_if_lt (tgt := 17) hx hb dX5_go_4 (by decide) (fun c4_1 => ?_) (fun c4_1 => ?_)
  · have t4_2 := (l_lt ez3_1 c4_1)
    have r4_3 : rl v1 (-9223372036854775808) (-1) := rl_ltA t4_2 (rl_any v1) (show rl (0 : Int64) 0 0 from rl_l (by decide)) (by decide)
    exact b17  H locs ls  (lv_sub hl [] rfl) hP hD hS
  · have t4_2 := (l_nlt ez3_1 c4_1)
    have r4_3 : rl v1 0 9223372036854775807 := rl_leB t4_2 (show rl (0 : Int64) 0 0 from rl_l (by decide)) (rl_any v1) (by decide)
    refine lv_lload_n hx hb dX5_go_7 rfl (lv_at hl 1 rfl) ?_
    refine lv_ldc2 (v := 3) hx hb hown (hn.get mw_1444 rfl) dX5_go_8 ?_
    refine lv_land hx hb dX5_go_11 ?_
    refine lv_topl (fun z11_1 ez11_1 => ?_)
    have r11_2 : rl z11_1 0 3 := rgL_andr ez11_1 (show rl (3 : Int64) 3 3 from rl_l (by decide)) (by decide)
    refine lv_lconst (v := 0) hx hb dX5_go_12 (by decide) ?_
    refine W.lcmp hx hb dX5_go_13 ?_
    refine lv_topi (fun z13_1 ez13_1 => ?_)
    refine lv_if_eq (tgt := 23) hx hb dX5_go_14 (by decide) (fun c14_1 => ?_) (fun c14_1 => ?_)
    · have t14_2 := (l_eq ez13_1 c14_1)
      have r14_3 : rl z11_1 0 0 := rl_eqA t14_2 r11_2 (show rl (0 : Int64) 0 0 from rl_l (by decide)) (by decide)
      refine lv_lload_n hx hb dX5_go_23 rfl (lv_at hl 1 rfl) ?_
      refine lv_iconst (v := 2) hx hb dX5_go_24 (by decide) ?_
      refine lv_lshr hx hb dX5_go_25 rfl ?_
      refine lv_topl (fun z25_1 ez25_1 => ?_)
      exact b26 z25_1 H locs ls  (lv_sub hl [] rfl) hP hD hS
    · have t14_2 := (l_neq ez13_1 c14_1)
      have r14_3 : rl z11_1 1 3 := rl_neAl t14_2 r11_2 (show rl (0 : Int64) 0 0 from rl_l (by decide)) (by decide)
      exact b17  H locs ls  (lv_sub hl [] rfl) hP hD hS
set_option maxHeartbeats 2000000 in
theorem c_X5_goLinked (l : Launch) (D : va_G) (ct : Nat → ClassId) (m0 : Nat) (v1 : Int32) (v2 : Int64) (m0r : Nat) (m0s : Nat) (k0 : Nat) (x_m0_3 : Int32) (x_m0_4 : Int32) (x_m0_5 : Int32) (x_m0_6 : Int32) (x_m0_7 : Int32) (x_m0_8 : Int64) (x_m0_9 : Int32) (g_m0r : Nat → Int64) (h_x_m0_9 : rg x_m0_9 0 1) : KV (S := Int64 × (Nat → Int64)) l yX5_goLinked cX5_goLinked 4 none 3 66 D ct [.ref m0, .int v1, .long v2] [(m0, .inr (4, [.ref m0r, .ref m0s, .ref k0, .int x_m0_3, .int x_m0_4, .int x_m0_5, .int x_m0_6, .int x_m0_7, .long x_m0_8, .int x_m0_9])), (m0r, .inl (ct 2, 32, .inr (.inl g_m0r)))] 0 0 (fun (u : Int64 × (Nat → Int64)) => match u with | (y_m0_8, k_m0r) => True) (fun (u : Int64 × (Nat → Int64)) => match u with | (y_m0_8, k_m0r) => [(m0, .inr (4, [.ref m0r, .ref m0s, .ref k0, .int x_m0_3, .int x_m0_4, .int x_m0_5, .int x_m0_6, .int x_m0_7, .long y_m0_8, .int x_m0_9])), (m0r, .inl (ct 2, 32, .inr (.inl k_m0r)))]) := by
  refine KVq_of (by decide) (Nat.le_of_ble_eq_true rfl) (fun p e s m below meth c A Q C0 hA H locs hS hP hD hQ ls hl => ?_)
  obtain ⟨hx, hb, hr, hown, hin, hml, hlocks, hn, hK, hZ, hSK⟩ := C0
  have hl : lv_has ls 4 [(0, .ref m0), (1, .int v1), (2, .long v2)] := hl
  refine lv_aload_n hx hb dX5_goLinked_0 rfl (lv_at hl 0 rfl) ?_
  refine lv_iload_n hx hb dX5_goLinked_1 rfl (lv_at hl 1 rfl) ?_
  refine lv_ldc2 (v := 4) hx hb hown (hn.get mw_1433 rfl) dX5_goLinked_2 ?_
  refine lv_aload_n hx hb dX5_goLinked_5 rfl (lv_at hl 0 rfl) ?_
  refine va_getN (D := D) (ci := 4) (v := .int x_m0_7) (C := RX4) (T := TX4) (N := 10) hx hb (htX4 hn) (fun _ h => h) hown hK hP 0 rfl rfl 7 (by decide) (hn.get mw_93 rfl) (fun _ h9 => h9) rfl dX5_goLinked_6 ?_
  refine lv_i2l hx hb dX5_goLinked_9 rfl ?_
  refine lv_topl (fun z9_1 ez9_1 => ?_)
  have r9_2 : rl z9_1 (-2147483648) 2147483647 := rl_i2l ez9_1 (rg_any x_m0_7)
  refine lv_lmul hx hb dX5_goLinked_10 ?_
  refine lv_topl (fun z10_1 ez10_1 => ?_)
  refine lv_ldc2 (v := 4) hx hb hown (hn.get mw_1433 rfl) dX5_goLinked_11 ?_
  refine lv_ladd hx hb dX5_goLinked_14 ?_
  refine lv_topl (fun z14_1 ez14_1 => ?_)
  refine go_v (k1 := 0) (n1 := 0) (wr := []) [0, 1] [] (rn_S (As := [.ref m0, .int v1, .long z14_1]) (rest := []) (c_X5_keep l D ct m0 v1 z14_1 m0r m0s k0 x_m0_3 x_m0_4 x_m0_5 x_m0_6 x_m0_7 x_m0_8 x_m0_9 g_m0r h_x_m0_9 _) (cb_of (n := 3) hn mw_1432 mw_5 mw_1430 mhX5_keep ⟨(Nat.le_of_ble_eq_true rfl), (Nat.le_of_ble_eq_true rfl)⟩) hx hb hml hown hn hK hSK hZ hS mw_1431 rfl hl.1 (Nat.le_of_ble_eq_true rfl) dX5_goLinked_15 ⟨(Nat.le_of_ble_eq_true rfl), (Nat.le_of_ble_eq_true rfl)⟩) hP hD hS hA rfl rfl (by decide) (by decide) (by decide) (Nat.le_of_ble_eq_true rfl) (Nat.le_of_ble_eq_true rfl) (fun u15_2 H locs hp15_3 hP hD hS => ?_)
  have hP : va_P D vwCl [(m0, .inr (4, [.ref m0r, .ref m0s, .ref k0, .int x_m0_3, .int x_m0_4, .int x_m0_5, .int x_m0_6, .int x_m0_7, .long x_m0_8, .int x_m0_9])), (m0r, .inl (ct 2, 32, .inr (.inl u15_2)))] _ := hP
  have hD : va_D A [(m0, .inr (4, [.ref m0r, .ref m0s, .ref k0, .int x_m0_3, .int x_m0_4, .int x_m0_5, .int x_m0_6, .int x_m0_7, .long x_m0_8, .int x_m0_9])), (m0r, .inl (ct 2, 32, .inr (.inl u15_2)))] := hD
  refine lv_aload_n hx hb dX5_goLinked_18 rfl (lv_at hl 0 rfl) ?_
  refine lv_lload_n hx hb dX5_goLinked_19 rfl (lv_at hl 2 rfl) ?_
  refine go_v (k1 := 0) (n1 := 0) (wr := [(m0r, .inl (ct 2, 32, .inr (.inl u15_2)))]) [0] [1] (rn_S (As := [.ref m0, .long v2]) (rest := []) (c_X5_go l D ct m0 v2 m0r m0s k0 x_m0_3 x_m0_4 x_m0_5 x_m0_6 x_m0_7 x_m0_8 x_m0_9 h_x_m0_9 _) (cb_of (n := 2) hn mw_1443 mw_5 mw_1441 mhX5_go ⟨(Nat.le_of_ble_eq_true rfl), (Nat.le_of_ble_eq_true rfl)⟩) hx hb hml hown hn hK hSK hZ hS mw_1442 rfl hl.1 (Nat.le_of_ble_eq_true rfl) dX5_goLinked_20 ⟨(Nat.le_of_ble_eq_true rfl), (Nat.le_of_ble_eq_true rfl)⟩) hP hD hS hA rfl rfl (by decide) (by decide) (by decide) (Nat.le_of_ble_eq_true rfl) (Nat.le_of_ble_eq_true rfl) (fun u20_2 H locs hp20_3 hP hD hS => ?_)
  have hP : va_P D vwCl [(m0r, .inl (ct 2, 32, .inr (.inl u15_2))), (m0, .inr (4, [.ref m0r, .ref m0s, .ref k0, .int x_m0_3, .int x_m0_4, .int x_m0_5, .int x_m0_6, .int x_m0_7, .long u20_2, .int x_m0_9]))] _ := hP
  have hD : va_D A [(m0r, .inl (ct 2, 32, .inr (.inl u15_2))), (m0, .inr (4, [.ref m0r, .ref m0s, .ref k0, .int x_m0_3, .int x_m0_4, .int x_m0_5, .int x_m0_6, .int x_m0_7, .long u20_2, .int x_m0_9]))] := hD
  exact endq_v hQ hx hb hr hlocks dX5_goLinked_23 (u20_2, u15_2) trivial hP hD hS [1, 0] rfl (by decide) rfl (Nat.le_of_ble_eq_true rfl) (Nat.le_of_ble_eq_true rfl)
set_option maxHeartbeats 2000000 in
theorem c_X5_fetch (l : Launch) (D : va_G) (ct : Nat → ClassId) (m0 : Nat) (v1 : Int32) (v2 : Int64) (v3 : Int32) (m0r : Nat) (m0s : Nat) (k0 : Nat) (x_m0_3 : Int32) (x_m0_4 : Int32) (x_m0_5 : Int32) (x_m0_6 : Int32) (x_m0_7 : Int32) (x_m0_8 : Int64) (x_m0_9 : Int32) (k0c : Nat) (k0l : Nat) (x_k0_2 : Int32) (g_k0l : Nat → Int32) (g_k0c : Nat → Int32) (g_m0s : Nat → Int32) (g_m0r : Nat → Int64) (h_x_m0_9 : rg x_m0_9 0 1) (h_x_k0_2 : rg x_k0_2 0 16) (h_g_k0l : Rg g_k0l 16 0 256) (h_g_k0c : Rg g_k0c 4096 (-128) 127) (h_g_m0s : Rg g_m0s 64 (-128) 127) : KV (S := Int32 × Int32 × (Nat → Int64)) l yX5_fetch cX5_fetch 8 none 5 112 D ct [.ref m0, .int v1, .long v2, .int v3] [(m0, .inr (4, [.ref m0r, .ref m0s, .ref k0, .int x_m0_3, .int x_m0_4, .int x_m0_5, .int x_m0_6, .int x_m0_7, .long x_m0_8, .int x_m0_9])), (k0, .inr (6, [.ref k0c, .ref k0l, .int x_k0_2])), (k0l, .inl (ct 1, 16, .inl g_k0l)), (k0c, .inl (ct 0, 4096, .inl g_k0c)), (m0s, .inl (ct 0, 64, .inl g_m0s)), (m0r, .inl (ct 2, 32, .inr (.inl g_m0r)))] 0 0 (fun (u : Int32 × Int32 × (Nat → Int64)) => match u with | (y_m0_5, y_m0_9, k_m0r) => rg y_m0_9 0 1) (fun (u : Int32 × Int32 × (Nat → Int64)) => match u with | (y_m0_5, y_m0_9, k_m0r) => [(m0, .inr (4, [.ref m0r, .ref m0s, .ref k0, .int x_m0_3, .int x_m0_4, .int y_m0_5, .int x_m0_6, .int x_m0_7, .long x_m0_8, .int y_m0_9])), (k0, .inr (6, [.ref k0c, .ref k0l, .int x_k0_2])), (k0l, .inl (ct 1, 16, .inl g_k0l)), (k0c, .inl (ct 0, 4096, .inl g_k0c)), (m0s, .inl (ct 0, 64, .inl g_m0s)), (m0r, .inl (ct 2, 32, .inr (.inl k_m0r)))]) := by
  refine KVq_of (by decide) (Nat.le_of_ble_eq_true rfl) (fun p e s m below meth c A Q C0 hA H locs hS hP hD hQ ls hl => ?_)
  obtain ⟨hx, hb, hr, hown, hin, hml, hlocks, hn, hK, hZ, hSK⟩ := C0
  have hl : lv_has ls 8 [(0, .ref m0), (1, .int v1), (2, .long v2), (4, .int v3)] := hl
  refine lv_iconst (v := 1) hx hb dX5_fetch_0 (by decide) ?_
  refine lv_iload hx hb dX5_fetch_1 (lv_at hl 3 rfl) ?_
  refine lv_iconst (v := 3) hx hb dX5_fetch_3 (by decide) ?_
  refine lv_iand hx hb dX5_fetch_4 ?_
  refine lv_topi (fun z4_1 ez4_1 => ?_)
  have r4_2 : rg z4_1 0 3 := rg_andr ez4_1 (show rg (3 : Int32) 3 3 from rg_l (by decide)) (by decide)
  refine lv_ishl hx hb dX5_fetch_5 ?_
  refine lv_topi (fun z5_1 ez5_1 => ?_)
  have r5_2 : rg z5_1 1 8 := rg_shl1 (k := 3) ez5_1 r4_2 (by decide)
  refine lv_istore (lv' := [(5, .int z5_1), (0, .ref m0), (1, .int v1), (2, .long v2), (4, .int v3)]) hx hb dX5_fetch_6 hl (by decide) rfl (fun ls hl => ?_)
  refine lv_aload_n hx hb dX5_fetch_8 rfl (lv_at hl 1 rfl) ?_
  refine lv_lload_n hx hb dX5_fetch_9 rfl (lv_at hl 3 rfl) ?_
  refine lv_iload hx hb dX5_fetch_10 (lv_at hl 0 rfl) ?_
  refine go_i (k1 := 0) (n1 := 0) (wr := [(k0, .inr (6, [.ref k0c, .ref k0l, .int x_k0_2])), (k0l, .inl (ct 1, 16, .inl g_k0l)), (k0c, .inl (ct 0, 4096, .inl g_k0c)), (m0s, .inl (ct 0, 64, .inl g_m0s)), (m0r, .inl (ct 2, 32, .inr (.inl g_m0r)))]) [0] [1, 2, 3, 4, 5] (rn_VN (As := [.long v2, .int z5_1]) (rest := []) (c_X4_inStack l D ct m0 v2 z5_1 m0r m0s k0 x_m0_3 x_m0_4 x_m0_5 x_m0_6 x_m0_7 x_m0_8 x_m0_9 (rg_w r5_2 (by decide)) h_x_m0_9 _) (cn_of (n := 2) hn mw_1252 mw_4 mw_1457 mhX4_inStack ⟨(Nat.le_of_ble_eq_true rfl), (Nat.le_of_ble_eq_true rfl)⟩) hx hb hml hown hn hK hSK hZ hS mw_1251 mw_s138 (ci := 4) (q0 := 0) rfl rfl rfl rfl hl.1 (Nat.le_of_ble_eq_true rfl) dX5_fetch_12 ⟨(Nat.le_of_ble_eq_true rfl), (Nat.le_of_ble_eq_true rfl)⟩) hP hD hS hA rfl rfl (by decide) (by decide) (by decide) (Nat.le_of_ble_eq_true rfl) (Nat.le_of_ble_eq_true rfl) (fun r12_1 u12_2 H locs hp12_3 hP hD hS => ?_)
  obtain ⟨hp12_4, hp12_5⟩ := hp12_3
  have hp12_4 : rg r12_1 0 1 := hp12_4
  have hp12_5 : r12_1.toInt = 1 → 131072 ≤ v2.toInt ∧ v2.toInt ≤ 131136 - z5_1.toInt := hp12_5
  have hP : va_P D vwCl [(k0, .inr (6, [.ref k0c, .ref k0l, .int x_k0_2])), (k0l, .inl (ct 1, 16, .inl g_k0l)), (k0c, .inl (ct 0, 4096, .inl g_k0c)), (m0s, .inl (ct 0, 64, .inl g_m0s)), (m0r, .inl (ct 2, 32, .inr (.inl g_m0r))), (m0, .inr (4, [.ref m0r, .ref m0s, .ref k0, .int x_m0_3, .int x_m0_4, .int x_m0_5, .int x_m0_6, .int x_m0_7, .long x_m0_8, .int x_m0_9]))] _ := hP
  have hD : va_D A [(k0, .inr (6, [.ref k0c, .ref k0l, .int x_k0_2])), (k0l, .inl (ct 1, 16, .inl g_k0l)), (k0c, .inl (ct 0, 4096, .inl g_k0c)), (m0s, .inl (ct 0, 64, .inl g_m0s)), (m0r, .inl (ct 2, 32, .inr (.inl g_m0r))), (m0, .inr (4, [.ref m0r, .ref m0s, .ref k0, .int x_m0_3, .int x_m0_4, .int x_m0_5, .int x_m0_6, .int x_m0_7, .long x_m0_8, .int x_m0_9]))] := hD
  have b35 : ∀  (H : Heap) (locs : List Loc) (ls : Array Slot), lv_has ls 8 [(0, .ref m0), (1, .int v1), (2, .long v2), (4, .int v3), (5, .int z5_1)] → va_P D vwCl [(k0, .inr (6, [.ref k0c, .ref k0l, .int x_k0_2])), (k0l, .inl (ct 1, 16, .inl g_k0l)), (k0c, .inl (ct 0, 4096, .inl g_k0c)), (m0s, .inl (ct 0, 64, .inl g_m0s)), (m0r, .inl (ct 2, 32, .inr (.inl g_m0r))), (m0, .inr (4, [.ref m0r, .ref m0s, .ref k0, .int x_m0_3, .int x_m0_4, .int x_m0_5, .int x_m0_6, .int x_m0_7, .long x_m0_8, .int x_m0_9]))] H → va_D A [(k0, .inr (6, [.ref k0c, .ref k0l, .int x_k0_2])), (k0l, .inl (ct 1, 16, .inl g_k0l)), (k0c, .inl (ct 0, 4096, .inl g_k0c)), (m0s, .inl (ct 0, 64, .inl g_m0s)), (m0r, .inl (ct 2, 32, .inr (.inl g_m0r))), (m0, .inr (4, [.ref m0r, .ref m0s, .ref k0, .int x_m0_3, .int x_m0_4, .int x_m0_5, .int x_m0_6, .int x_m0_7, .long x_m0_8, .int x_m0_9]))] → va_S A s.heap H locs → W p l e ({ frames := 5, cells := 0, slots := 0, locals := 112 }) s m [.ref m0, .int v1, .long v2, .int v3].toArray below meth c H locs 0 0 Q (F0 m 35 ls []) := by
    intro  H locs ls  hl hP hD hS
    refine lv_aload_n hx hb dX5_fetch_35 rfl (lv_at hl 0 rfl) ?_
    refine lv_lload_n hx hb dX5_fetch_36 rfl (lv_at hl 2 rfl) ?_
    refine lv_iload hx hb dX5_fetch_37 (lv_at hl 4 rfl) ?_
    refine go_l (k1 := 0) (n1 := 0) (wr := [(m0r, .inl (ct 2, 32, .inr (.inl g_m0r)))]) [5, 0, 1, 2, 3] [4] (rn_VN (As := [.long v2, .int z5_1]) (rest := []) (c_X4_load8 l D ct m0 v2 z5_1 m0r m0s k0 x_m0_3 x_m0_4 x_m0_5 x_m0_6 x_m0_7 x_m0_8 x_m0_9 k0c k0l x_k0_2 g_k0l g_k0c g_m0s (rg_w r5_2 (by decide)) h_x_m0_9 h_x_k0_2 h_g_k0l h_g_k0c h_g_m0s _) (cn_of (n := 2) hn mw_1258 mw_4 mw_1459 mhX4_load8 ⟨(Nat.le_of_ble_eq_true rfl), (Nat.le_of_ble_eq_true rfl)⟩) hx hb hml hown hn hK hSK hZ hS mw_1257 mw_s139 (ci := 4) (q0 := 0) rfl rfl rfl rfl hl.1 (Nat.le_of_ble_eq_true rfl) dX5_fetch_39 ⟨(Nat.le_of_ble_eq_true rfl), (Nat.le_of_ble_eq_true rfl)⟩) hP hD hS hA rfl rfl (by decide) (by decide) (by decide) (Nat.le_of_ble_eq_true rfl) (Nat.le_of_ble_eq_true rfl) (fun r39_1 u39_2 H locs hp39_3 hP hD hS => ?_)
    have hP : va_P D vwCl [(m0r, .inl (ct 2, 32, .inr (.inl g_m0r))), (m0, .inr (4, [.ref m0r, .ref m0s, .ref k0, .int x_m0_3, .int x_m0_4, .int x_m0_5, .int x_m0_6, .int x_m0_7, .long x_m0_8, .int x_m0_9])), (k0, .inr (6, [.ref k0c, .ref k0l, .int x_k0_2])), (k0l, .inl (ct 1, 16, .inl g_k0l)), (k0c, .inl (ct 0, 4096, .inl g_k0c)), (m0s, .inl (ct 0, 64, .inl g_m0s))] _ := hP
    have hD : va_D A [(m0r, .inl (ct 2, 32, .inr (.inl g_m0r))), (m0, .inr (4, [.ref m0r, .ref m0s, .ref k0, .int x_m0_3, .int x_m0_4, .int x_m0_5, .int x_m0_6, .int x_m0_7, .long x_m0_8, .int x_m0_9])), (k0, .inr (6, [.ref k0c, .ref k0l, .int x_k0_2])), (k0l, .inl (ct 1, 16, .inl g_k0l)), (k0c, .inl (ct 0, 4096, .inl g_k0c)), (m0s, .inl (ct 0, 64, .inl g_m0s))] := hD
    refine lv_lstore (lv' := [(6, .long r39_1), (0, .ref m0), (1, .int v1), (2, .long v2), (4, .int v3), (5, .int z5_1)]) hx hb dX5_fetch_42 hl (by decide) rfl (fun ls hl => ?_)
    refine lv_iload hx hb dX5_fetch_44 (lv_at hl 4 rfl) ?_
    have b101 : ∀ (j101_l6 : Int64) (H : Heap) (locs : List Loc) (ls : Array Slot), lv_has ls 8 [(0, .ref m0), (1, .int v1), (6, .long j101_l6)] → va_P D vwCl [(m0r, .inl (ct 2, 32, .inr (.inl g_m0r))), (m0, .inr (4, [.ref m0r, .ref m0s, .ref k0, .int x_m0_3, .int x_m0_4, .int x_m0_5, .int x_m0_6, .int x_m0_7, .long x_m0_8, .int x_m0_9])), (k0, .inr (6, [.ref k0c, .ref k0l, .int x_k0_2])), (k0l, .inl (ct 1, 16, .inl g_k0l)), (k0c, .inl (ct 0, 4096, .inl g_k0c)), (m0s, .inl (ct 0, 64, .inl g_m0s))] H → va_D A [(m0r, .inl (ct 2, 32, .inr (.inl g_m0r))), (m0, .inr (4, [.ref m0r, .ref m0s, .ref k0, .int x_m0_3, .int x_m0_4, .int x_m0_5, .int x_m0_6, .int x_m0_7, .long x_m0_8, .int x_m0_9])), (k0, .inr (6, [.ref k0c, .ref k0l, .int x_k0_2])), (k0l, .inl (ct 1, 16, .inl g_k0l)), (k0c, .inl (ct 0, 4096, .inl g_k0c)), (m0s, .inl (ct 0, 64, .inl g_m0s))] → va_S A s.heap H locs → W p l e ({ frames := 5, cells := 0, slots := 0, locals := 112 }) s m [.ref m0, .int v1, .long v2, .int v3].toArray below meth c H locs 0 0 Q (F0 m 101 ls []) := by
      intro j101_l6 H locs ls  hl hP hD hS
      refine lv_aload_n hx hb dX5_fetch_101 rfl (lv_at hl 0 rfl) ?_
      refine lv_iload_n hx hb dX5_fetch_102 rfl (lv_at hl 1 rfl) ?_
      refine lv_lload hx hb dX5_fetch_103 (lv_at hl 2 rfl) ?_
      refine go_v (k1 := 0) (n1 := 0) (wr := [(k0, .inr (6, [.ref k0c, .ref k0l, .int x_k0_2])), (k0l, .inl (ct 1, 16, .inl g_k0l)), (k0c, .inl (ct 0, 4096, .inl g_k0c)), (m0s, .inl (ct 0, 64, .inl g_m0s))]) [1, 0] [2, 3, 4, 5] (rn_S (As := [.ref m0, .int v1, .long j101_l6]) (rest := []) (c_X5_keep l D ct m0 v1 j101_l6 m0r m0s k0 x_m0_3 x_m0_4 x_m0_5 x_m0_6 x_m0_7 x_m0_8 x_m0_9 g_m0r h_x_m0_9 _) (cb_of (n := 3) hn mw_1432 mw_5 mw_1430 mhX5_keep ⟨(Nat.le_of_ble_eq_true rfl), (Nat.le_of_ble_eq_true rfl)⟩) hx hb hml hown hn hK hSK hZ hS mw_1431 rfl hl.1 (Nat.le_of_ble_eq_true rfl) dX5_fetch_105 ⟨(Nat.le_of_ble_eq_true rfl), (Nat.le_of_ble_eq_true rfl)⟩) hP hD hS hA rfl rfl (by decide) (by decide) (by decide) (Nat.le_of_ble_eq_true rfl) (Nat.le_of_ble_eq_true rfl) (fun u105_2 H locs hp105_3 hP hD hS => ?_)
      have hP : va_P D vwCl [(k0, .inr (6, [.ref k0c, .ref k0l, .int x_k0_2])), (k0l, .inl (ct 1, 16, .inl g_k0l)), (k0c, .inl (ct 0, 4096, .inl g_k0c)), (m0s, .inl (ct 0, 64, .inl g_m0s)), (m0, .inr (4, [.ref m0r, .ref m0s, .ref k0, .int x_m0_3, .int x_m0_4, .int x_m0_5, .int x_m0_6, .int x_m0_7, .long x_m0_8, .int x_m0_9])), (m0r, .inl (ct 2, 32, .inr (.inl u105_2)))] _ := hP
      have hD : va_D A [(k0, .inr (6, [.ref k0c, .ref k0l, .int x_k0_2])), (k0l, .inl (ct 1, 16, .inl g_k0l)), (k0c, .inl (ct 0, 4096, .inl g_k0c)), (m0s, .inl (ct 0, 64, .inl g_m0s)), (m0, .inr (4, [.ref m0r, .ref m0s, .ref k0, .int x_m0_3, .int x_m0_4, .int x_m0_5, .int x_m0_6, .int x_m0_7, .long x_m0_8, .int x_m0_9])), (m0r, .inl (ct 2, 32, .inr (.inl u105_2)))] := hD
      exact endq_v hQ hx hb hr hlocks dX5_fetch_108 (x_m0_5, x_m0_9, u105_2) h_x_m0_9 hP hD hS [4, 0, 1, 2, 3, 5] rfl (by decide) rfl (Nat.le_of_ble_eq_true rfl) (Nat.le_of_ble_eq_true rfl)
    by_cases h46_101 : v3.toInt = 0
    · have r46_102 : rg v3 0 0 := rg_at h46_101
      refine lv_tableIn (off := 26) (tgt := 72) hx hb dX5_fetch_46 (by rw [h46_101]; decide) (by rw [h46_101]; decide) (by rw [h46_101]; rfl) (by decide) ?_
      refine lv_lload hx hb dX5_fetch_72 (lv_at hl 0 rfl) ?_
      refine lv_l2i hx hb dX5_fetch_74 rfl ?_
      refine lv_topi (fun z74_1 ez74_1 => ?_)
      refine lv_i2b hx hb dX5_fetch_75 rfl ?_
      refine lv_topi (fun z75_1 ez75_1 => ?_)
      have r75_2 : rg z75_1 (-128) 127 := rg_i2b ez75_1
      refine lv_i2l hx hb dX5_fetch_76 rfl ?_
      refine lv_topl (fun z76_1 ez76_1 => ?_)
      have r76_2 : rl z76_1 (-128) 127 := rl_i2l ez76_1 r75_2
      refine lv_lstore (lv' := [(6, .long z76_1), (0, .ref m0), (1, .int v1), (2, .long v2), (4, .int v3), (5, .int z5_1)]) hx hb dX5_fetch_77 hl (by decide) rfl (fun ls hl => ?_)
      refine lv_goto (tgt := 101) hx hb dX5_fetch_79 (by decide) ?_
      exact b101 z76_1 H locs ls  (lv_sub hl [1, 2, 0] rfl) hP hD hS
    by_cases h46_111 : v3.toInt = 1
    · have r46_112 : rg v3 1 1 := rg_at h46_111
      refine lv_tableIn (off := 36) (tgt := 82) hx hb dX5_fetch_46 (by rw [h46_111]; decide) (by rw [h46_111]; decide) (by rw [h46_111]; rfl) (by decide) ?_
      refine lv_lload hx hb dX5_fetch_82 (lv_at hl 0 rfl) ?_
      refine lv_l2i hx hb dX5_fetch_84 rfl ?_
      refine lv_topi (fun z84_1 ez84_1 => ?_)
      refine lv_i2s hx hb dX5_fetch_85 rfl ?_
      refine lv_topi (fun z85_1 ez85_1 => ?_)
      have r85_2 : rg z85_1 (-32768) 32767 := rg_i2s ez85_1
      refine lv_i2l hx hb dX5_fetch_86 rfl ?_
      refine lv_topl (fun z86_1 ez86_1 => ?_)
      have r86_2 : rl z86_1 (-32768) 32767 := rl_i2l ez86_1 r85_2
      refine lv_lstore (lv' := [(6, .long z86_1), (0, .ref m0), (1, .int v1), (2, .long v2), (4, .int v3), (5, .int z5_1)]) hx hb dX5_fetch_87 hl (by decide) rfl (fun ls hl => ?_)
      refine lv_goto (tgt := 101) hx hb dX5_fetch_89 (by decide) ?_
      exact b101 z86_1 H locs ls  (lv_sub hl [1, 2, 0] rfl) hP hD hS
    by_cases h46_121 : v3.toInt = 2
    · have r46_122 : rg v3 2 2 := rg_at h46_121
      refine lv_tableIn (off := 46) (tgt := 92) hx hb dX5_fetch_46 (by rw [h46_121]; decide) (by rw [h46_121]; decide) (by rw [h46_121]; rfl) (by decide) ?_
      refine lv_lload hx hb dX5_fetch_92 (lv_at hl 0 rfl) ?_
      refine lv_l2i hx hb dX5_fetch_94 rfl ?_
      refine lv_topi (fun z94_1 ez94_1 => ?_)
      refine lv_i2l hx hb dX5_fetch_95 rfl ?_
      refine lv_topl (fun z95_1 ez95_1 => ?_)
      have r95_2 : rl z95_1 (-2147483648) 2147483647 := rl_i2l ez95_1 (rg_any z94_1)
      refine lv_lstore (lv' := [(6, .long z95_1), (0, .ref m0), (1, .int v1), (2, .long v2), (4, .int v3), (5, .int z5_1)]) hx hb dX5_fetch_96 hl (by decide) rfl (fun ls hl => ?_)
      refine lv_goto (tgt := 101) hx hb dX5_fetch_98 (by decide) ?_
      exact b101 z95_1 H locs ls  (lv_sub hl [1, 2, 0] rfl) hP hD hS
    refine lv_tableOut (tgt := 101) hx hb dX5_fetch_46 (by have q0 := (rg_any v3); have q1 := q0.1; have q2 := q0.2; omega) (by decide) ?_
    exact b101 r39_1 H locs ls  (lv_sub hl [1, 2, 0] rfl) hP hD hS
  refine lv_if_ne (tgt := 35) hx hb dX5_fetch_15 (by decide) (fun c15_1 => ?_) (fun c15_1 => ?_)
  · have t15_2 := (i_ne c15_1)
    have r15_3 : rg r12_1 1 1 := rg_neAl t15_2 hp12_4 (show rg (0 : Int32) 0 0 from rg_l (by decide)) (by decide)
    exact b35  H locs ls  (lv_sub hl [1, 2, 3, 4, 0] rfl) hP hD hS
  · have t15_2 := (i_eq c15_1)
    have r15_3 : rg r12_1 0 0 := rg_eqA t15_2 hp12_4 (show rg (0 : Int32) 0 0 from rg_l (by decide)) (by decide)
    refine lv_aload_n hx hb dX5_fetch_18 rfl (lv_at hl 1 rfl) ?_
    refine lv_lload_n hx hb dX5_fetch_19 rfl (lv_at hl 3 rfl) ?_
    refine lv_iload hx hb dX5_fetch_20 (lv_at hl 0 rfl) ?_
    refine go_i (k1 := 0) (n1 := 0) (wr := [(k0c, .inl (ct 0, 4096, .inl g_k0c)), (m0s, .inl (ct 0, 64, .inl g_m0s)), (m0r, .inl (ct 2, 32, .inr (.inl g_m0r)))]) [5, 0, 1] [2, 3, 4] (rn_VN (As := [.long v2, .int z5_1]) (rest := []) (c_X4_inPacket l D ct m0 v2 z5_1 m0r m0s k0 x_m0_3 x_m0_4 x_m0_5 x_m0_6 x_m0_7 x_m0_8 x_m0_9 k0c k0l x_k0_2 g_k0l (rg_w r5_2 (by decide)) h_x_m0_9 h_x_k0_2 h_g_k0l _) (cn_of (n := 2) hn mw_1268 mw_4 mw_1458 mhX4_inPacket ⟨(Nat.le_of_ble_eq_true rfl), (Nat.le_of_ble_eq_true rfl)⟩) hx hb hml hown hn hK hSK hZ hS mw_1267 mw_s141 (ci := 4) (q0 := 0) rfl rfl rfl rfl hl.1 (Nat.le_of_ble_eq_true rfl) dX5_fetch_22 ⟨(Nat.le_of_ble_eq_true rfl), (Nat.le_of_ble_eq_true rfl)⟩) hP hD hS hA rfl rfl (by decide) (by decide) (by decide) (Nat.le_of_ble_eq_true rfl) (Nat.le_of_ble_eq_true rfl) (fun r22_1 u22_2 H locs hp22_3 hP hD hS => ?_)
    have hp22_4 := hp22_3
    have hp22_4 : rg r22_1 0 1 := hp22_4
    have hP : va_P D vwCl [(k0c, .inl (ct 0, 4096, .inl g_k0c)), (m0s, .inl (ct 0, 64, .inl g_m0s)), (m0r, .inl (ct 2, 32, .inr (.inl g_m0r))), (m0, .inr (4, [.ref m0r, .ref m0s, .ref k0, .int x_m0_3, .int x_m0_4, .int x_m0_5, .int x_m0_6, .int x_m0_7, .long x_m0_8, .int x_m0_9])), (k0, .inr (6, [.ref k0c, .ref k0l, .int x_k0_2])), (k0l, .inl (ct 1, 16, .inl g_k0l))] _ := hP
    have hD : va_D A [(k0c, .inl (ct 0, 4096, .inl g_k0c)), (m0s, .inl (ct 0, 64, .inl g_m0s)), (m0r, .inl (ct 2, 32, .inr (.inl g_m0r))), (m0, .inr (4, [.ref m0r, .ref m0s, .ref k0, .int x_m0_3, .int x_m0_4, .int x_m0_5, .int x_m0_6, .int x_m0_7, .long x_m0_8, .int x_m0_9])), (k0, .inr (6, [.ref k0c, .ref k0l, .int x_k0_2])), (k0l, .inl (ct 1, 16, .inl g_k0l))] := hD
    refine lv_if_ne (tgt := 35) hx hb dX5_fetch_25 (by decide) (fun c25_1 => ?_) (fun c25_1 => ?_)
    · have t25_2 := (i_ne c25_1)
      have r25_3 : rg r22_1 1 1 := rg_neAl t25_2 hp22_4 (show rg (0 : Int32) 0 0 from rg_l (by decide)) (by decide)
      have hP := hP.sub (ws' := [(k0, .inr (6, [.ref k0c, .ref k0l, .int x_k0_2])), (k0l, .inl (ct 1, 16, .inl g_k0l)), (k0c, .inl (ct 0, 4096, .inl g_k0c)), (m0s, .inl (ct 0, 64, .inl g_m0s)), (m0r, .inl (ct 2, 32, .inr (.inl g_m0r))), (m0, .inr (4, [.ref m0r, .ref m0s, .ref k0, .int x_m0_3, .int x_m0_4, .int x_m0_5, .int x_m0_6, .int x_m0_7, .long x_m0_8, .int x_m0_9]))]) [4, 5, 0, 1, 2, 3] rfl
      have hD := hD.sub (ws' := [(k0, .inr (6, [.ref k0c, .ref k0l, .int x_k0_2])), (k0l, .inl (ct 1, 16, .inl g_k0l)), (k0c, .inl (ct 0, 4096, .inl g_k0c)), (m0s, .inl (ct 0, 64, .inl g_m0s)), (m0r, .inl (ct 2, 32, .inr (.inl g_m0r))), (m0, .inr (4, [.ref m0r, .ref m0s, .ref k0, .int x_m0_3, .int x_m0_4, .int x_m0_5, .int x_m0_6, .int x_m0_7, .long x_m0_8, .int x_m0_9]))]) [4, 5, 0, 1, 2, 3] (by decide) rfl
      exact b35  H locs ls  (lv_sub hl [1, 2, 3, 4, 0] rfl) hP hD hS
    · have t25_2 := (i_eq c25_1)
      have r25_3 : rg r22_1 0 0 := rg_eqA t25_2 hp22_4 (show rg (0 : Int32) 0 0 from rg_l (by decide)) (by decide)
      refine lv_aload_n hx hb dX5_fetch_28 rfl (lv_at hl 1 rfl) ?_
      refine lv_bipush (v := 7) hx hb dX5_fetch_29 (by decide) ?_
      refine go_v (k1 := 0) (n1 := 0) (wr := [(k0c, .inl (ct 0, 4096, .inl g_k0c)), (m0s, .inl (ct 0, 64, .inl g_m0s)), (m0r, .inl (ct 2, 32, .inr (.inl g_m0r))), (k0, .inr (6, [.ref k0c, .ref k0l, .int x_k0_2])), (k0l, .inl (ct 1, 16, .inl g_k0l))]) [3] [0, 1, 2, 4, 5] (rn_VN (As := [.int 7]) (rest := []) (c_X4_stop l D ct m0 (7 : Int32) m0r m0s k0 x_m0_3 x_m0_4 x_m0_5 x_m0_6 x_m0_7 x_m0_8 x_m0_9 h_x_m0_9 _) (cn_of (n := 1) hn mw_1214 mw_4 mw_1414 mhX4_stop ⟨(Nat.le_of_ble_eq_true rfl), (Nat.le_of_ble_eq_true rfl)⟩) hx hb hml hown hn hK hSK hZ hS mw_1213 mw_s133 (ci := 4) (q0 := 0) rfl rfl rfl rfl hl.1 (Nat.le_of_ble_eq_true rfl) dX5_fetch_31 ⟨(Nat.le_of_ble_eq_true rfl), (Nat.le_of_ble_eq_true rfl)⟩) hP hD hS hA rfl rfl (by decide) (by decide) (by decide) (Nat.le_of_ble_eq_true rfl) (Nat.le_of_ble_eq_true rfl) (fun u31_2 H locs hp31_3 hP hD hS => ?_)
      have hp31_4 := hp31_3
      have hp31_4 : u31_2.toInt = (7 : Int32).toInt := hp31_4
      have hP : va_P D vwCl [(k0c, .inl (ct 0, 4096, .inl g_k0c)), (m0s, .inl (ct 0, 64, .inl g_m0s)), (m0r, .inl (ct 2, 32, .inr (.inl g_m0r))), (k0, .inr (6, [.ref k0c, .ref k0l, .int x_k0_2])), (k0l, .inl (ct 1, 16, .inl g_k0l)), (m0, .inr (4, [.ref m0r, .ref m0s, .ref k0, .int x_m0_3, .int x_m0_4, .int u31_2, .int x_m0_6, .int x_m0_7, .long x_m0_8, .int 1]))] _ := hP
      have hD : va_D A [(k0c, .inl (ct 0, 4096, .inl g_k0c)), (m0s, .inl (ct 0, 64, .inl g_m0s)), (m0r, .inl (ct 2, 32, .inr (.inl g_m0r))), (k0, .inr (6, [.ref k0c, .ref k0l, .int x_k0_2])), (k0l, .inl (ct 1, 16, .inl g_k0l)), (m0, .inr (4, [.ref m0r, .ref m0s, .ref k0, .int x_m0_3, .int x_m0_4, .int u31_2, .int x_m0_6, .int x_m0_7, .long x_m0_8, .int 1]))] := hD
      exact endq_v hQ hx hb hr hlocks dX5_fetch_34 (u31_2, (1 : Int32), g_m0r) (rg_w (show rg (1 : Int32) 1 1 from rg_l (by decide)) (by decide)) hP hD hS [5, 3, 4, 0, 1, 2] rfl (by decide) rfl (Nat.le_of_ble_eq_true rfl) (Nat.le_of_ble_eq_true rfl)
set_option maxHeartbeats 2000000 in
theorem c_X5_keepInMemory (l : Launch) (D : va_G) (ct : Nat → ClassId) (m0 : Nat) (v1 : Int64) (v2 : Int32) (v3 : Int64) (m0r : Nat) (m0s : Nat) (k0 : Nat) (x_m0_3 : Int32) (x_m0_4 : Int32) (x_m0_5 : Int32) (x_m0_6 : Int32) (x_m0_7 : Int32) (x_m0_8 : Int64) (x_m0_9 : Int32) (g_m0s : Nat → Int32) (h_x_m0_9 : rg x_m0_9 0 1) (h_g_m0s : Rg g_m0s 64 (-128) 127) : KV (S := Int32 × Int32 × (Nat → Int32)) l yX5_keepInMemory cX5_keepInMemory 7 none 3 69 D ct [.ref m0, .long v1, .int v2, .long v3] [(m0, .inr (4, [.ref m0r, .ref m0s, .ref k0, .int x_m0_3, .int x_m0_4, .int x_m0_5, .int x_m0_6, .int x_m0_7, .long x_m0_8, .int x_m0_9])), (m0s, .inl (ct 0, 64, .inl g_m0s))] 0 0 (fun (u : Int32 × Int32 × (Nat → Int32)) => match u with | (y_m0_5, y_m0_9, k_m0s) => rg y_m0_9 0 1 ∧ Rg k_m0s 64 (-128) 127) (fun (u : Int32 × Int32 × (Nat → Int32)) => match u with | (y_m0_5, y_m0_9, k_m0s) => [(m0, .inr (4, [.ref m0r, .ref m0s, .ref k0, .int x_m0_3, .int x_m0_4, .int y_m0_5, .int x_m0_6, .int x_m0_7, .long x_m0_8, .int y_m0_9])), (m0s, .inl (ct 0, 64, .inl k_m0s))]) := by
  refine KVq_of (by decide) (Nat.le_of_ble_eq_true rfl) (fun p e s m below meth c A Q C0 hA H locs hS hP hD hQ ls hl => ?_)
  obtain ⟨hx, hb, hr, hown, hin, hml, hlocks, hn, hK, hZ, hSK⟩ := C0
  have hl : lv_has ls 7 [(0, .ref m0), (1, .long v1), (3, .int v2), (4, .long v3)] := hl
  refine lv_iconst (v := 1) hx hb dX5_keepInMemory_0 (by decide) ?_
  refine lv_iload_n hx hb dX5_keepInMemory_1 rfl (lv_at hl 2 rfl) ?_
  refine lv_iconst (v := 3) hx hb dX5_keepInMemory_2 (by decide) ?_
  refine lv_iand hx hb dX5_keepInMemory_3 ?_
  refine lv_topi (fun z3_1 ez3_1 => ?_)
  have r3_2 : rg z3_1 0 3 := rg_andr ez3_1 (show rg (3 : Int32) 3 3 from rg_l (by decide)) (by decide)
  refine lv_ishl hx hb dX5_keepInMemory_4 ?_
  refine lv_topi (fun z4_1 ez4_1 => ?_)
  have r4_2 : rg z4_1 1 8 := rg_shl1 (k := 3) ez4_1 r3_2 (by decide)
  refine lv_istore (lv' := [(6, .int z4_1), (0, .ref m0), (1, .long v1), (3, .int v2), (4, .long v3)]) hx hb dX5_keepInMemory_5 hl (by decide) rfl (fun ls hl => ?_)
  refine lv_aload_n hx hb dX5_keepInMemory_7 rfl (lv_at hl 1 rfl) ?_
  refine lv_lload_n hx hb dX5_keepInMemory_8 rfl (lv_at hl 2 rfl) ?_
  refine lv_iload hx hb dX5_keepInMemory_9 (lv_at hl 0 rfl) ?_
  refine go_i (k1 := 0) (n1 := 0) (wr := [(m0s, .inl (ct 0, 64, .inl g_m0s))]) [0] [1] (rn_VN (As := [.long v1, .int z4_1]) (rest := []) (c_X4_inStack l D ct m0 v1 z4_1 m0r m0s k0 x_m0_3 x_m0_4 x_m0_5 x_m0_6 x_m0_7 x_m0_8 x_m0_9 (rg_w r4_2 (by decide)) h_x_m0_9 _) (cn_of (n := 2) hn mw_1252 mw_4 mw_1457 mhX4_inStack ⟨(Nat.le_of_ble_eq_true rfl), (Nat.le_of_ble_eq_true rfl)⟩) hx hb hml hown hn hK hSK hZ hS mw_1251 mw_s138 (ci := 4) (q0 := 0) rfl rfl rfl rfl hl.1 (Nat.le_of_ble_eq_true rfl) dX5_keepInMemory_11 ⟨(Nat.le_of_ble_eq_true rfl), (Nat.le_of_ble_eq_true rfl)⟩) hP hD hS hA rfl rfl (by decide) (by decide) (by decide) (Nat.le_of_ble_eq_true rfl) (Nat.le_of_ble_eq_true rfl) (fun r11_1 u11_2 H locs hp11_3 hP hD hS => ?_)
  obtain ⟨hp11_4, hp11_5⟩ := hp11_3
  have hp11_4 : rg r11_1 0 1 := hp11_4
  have hp11_5 : r11_1.toInt = 1 → 131072 ≤ v1.toInt ∧ v1.toInt ≤ 131136 - z4_1.toInt := hp11_5
  have hP : va_P D vwCl [(m0s, .inl (ct 0, 64, .inl g_m0s)), (m0, .inr (4, [.ref m0r, .ref m0s, .ref k0, .int x_m0_3, .int x_m0_4, .int x_m0_5, .int x_m0_6, .int x_m0_7, .long x_m0_8, .int x_m0_9]))] _ := hP
  have hD : va_D A [(m0s, .inl (ct 0, 64, .inl g_m0s)), (m0, .inr (4, [.ref m0r, .ref m0s, .ref k0, .int x_m0_3, .int x_m0_4, .int x_m0_5, .int x_m0_6, .int x_m0_7, .long x_m0_8, .int x_m0_9]))] := hD
  refine lv_if_eq (tgt := 29) hx hb dX5_keepInMemory_14 (by decide) (fun c14_1 => ?_) (fun c14_1 => ?_)
  · have t14_2 := (i_eq c14_1)
    have r14_3 : rg r11_1 0 0 := rg_eqA t14_2 hp11_4 (show rg (0 : Int32) 0 0 from rg_l (by decide)) (by decide)
    refine lv_aload_n hx hb dX5_keepInMemory_29 rfl (lv_at hl 1 rfl) ?_
    refine lv_bipush (v := 7) hx hb dX5_keepInMemory_30 (by decide) ?_
    refine go_v (k1 := 0) (n1 := 0) (wr := [(m0s, .inl (ct 0, 64, .inl g_m0s))]) [1] [0] (rn_VN (As := [.int 7]) (rest := []) (c_X4_stop l D ct m0 (7 : Int32) m0r m0s k0 x_m0_3 x_m0_4 x_m0_5 x_m0_6 x_m0_7 x_m0_8 x_m0_9 h_x_m0_9 _) (cn_of (n := 1) hn mw_1214 mw_4 mw_1414 mhX4_stop ⟨(Nat.le_of_ble_eq_true rfl), (Nat.le_of_ble_eq_true rfl)⟩) hx hb hml hown hn hK hSK hZ hS mw_1213 mw_s133 (ci := 4) (q0 := 0) rfl rfl rfl rfl hl.1 (Nat.le_of_ble_eq_true rfl) dX5_keepInMemory_32 ⟨(Nat.le_of_ble_eq_true rfl), (Nat.le_of_ble_eq_true rfl)⟩) hP hD hS hA rfl rfl (by decide) (by decide) (by decide) (Nat.le_of_ble_eq_true rfl) (Nat.le_of_ble_eq_true rfl) (fun u32_2 H locs hp32_3 hP hD hS => ?_)
    have hp32_4 := hp32_3
    have hp32_4 : u32_2.toInt = (7 : Int32).toInt := hp32_4
    have hP : va_P D vwCl [(m0s, .inl (ct 0, 64, .inl g_m0s)), (m0, .inr (4, [.ref m0r, .ref m0s, .ref k0, .int x_m0_3, .int x_m0_4, .int u32_2, .int x_m0_6, .int x_m0_7, .long x_m0_8, .int 1]))] _ := hP
    have hD : va_D A [(m0s, .inl (ct 0, 64, .inl g_m0s)), (m0, .inr (4, [.ref m0r, .ref m0s, .ref k0, .int x_m0_3, .int x_m0_4, .int u32_2, .int x_m0_6, .int x_m0_7, .long x_m0_8, .int 1]))] := hD
    exact endq_v hQ hx hb hr hlocks dX5_keepInMemory_35 (u32_2, (1 : Int32), g_m0s) ⟨(rg_w (show rg (1 : Int32) 1 1 from rg_l (by decide)) (by decide)), h_g_m0s⟩ hP hD hS [1, 0] rfl (by decide) rfl (Nat.le_of_ble_eq_true rfl) (Nat.le_of_ble_eq_true rfl)
  · have t14_2 := (i_ne c14_1)
    have r14_3 : rg r11_1 1 1 := rg_neAl t14_2 hp11_4 (show rg (0 : Int32) 0 0 from rg_l (by decide)) (by decide)
    refine lv_aload_n hx hb dX5_keepInMemory_17 rfl (lv_at hl 1 rfl) ?_
    refine lv_lload_n hx hb dX5_keepInMemory_18 rfl (lv_at hl 2 rfl) ?_
    refine lv_iload hx hb dX5_keepInMemory_19 (lv_at hl 0 rfl) ?_
    refine lv_lload hx hb dX5_keepInMemory_21 (lv_at hl 4 rfl) ?_
    refine go_v (k1 := 0) (n1 := 0) (wr := []) [1, 0] [] (rn_VN (As := [.long v1, .int z4_1, .long v3]) (rest := []) (c_X4_store l D ct m0 v1 z4_1 v3 m0r m0s k0 x_m0_3 x_m0_4 x_m0_5 x_m0_6 x_m0_7 x_m0_8 x_m0_9 g_m0s (rg_w r4_2 (by decide)) h_x_m0_9 h_g_m0s _) (cn_of (n := 3) hn mw_1276 mw_4 mw_1466 mhX4_store ⟨(Nat.le_of_ble_eq_true rfl), (Nat.le_of_ble_eq_true rfl)⟩) hx hb hml hown hn hK hSK hZ hS mw_1275 mw_s142 (ci := 4) (q0 := 0) rfl rfl rfl rfl hl.1 (Nat.le_of_ble_eq_true rfl) dX5_keepInMemory_23 ⟨(Nat.le_of_ble_eq_true rfl), (Nat.le_of_ble_eq_true rfl)⟩) hP hD hS hA rfl rfl (by decide) (by decide) (by decide) (Nat.le_of_ble_eq_true rfl) (Nat.le_of_ble_eq_true rfl) (fun u23_2 H locs hp23_3 hP hD hS => ?_)
    have hp23_4 := hp23_3
    have hP : va_P D vwCl [(m0, .inr (4, [.ref m0r, .ref m0s, .ref k0, .int x_m0_3, .int x_m0_4, .int x_m0_5, .int x_m0_6, .int x_m0_7, .long x_m0_8, .int x_m0_9])), (m0s, .inl (ct 0, 64, .inl u23_2))] _ := hP
    have hD : va_D A [(m0, .inr (4, [.ref m0r, .ref m0s, .ref k0, .int x_m0_3, .int x_m0_4, .int x_m0_5, .int x_m0_6, .int x_m0_7, .long x_m0_8, .int x_m0_9])), (m0s, .inl (ct 0, 64, .inl u23_2))] := hD
    refine lv_goto (tgt := 35) hx hb dX5_keepInMemory_26 (by decide) ?_
    exact endq_v hQ hx hb hr hlocks dX5_keepInMemory_35 (x_m0_5, x_m0_9, u23_2) ⟨h_x_m0_9, hp23_4⟩ hP hD hS [0, 1] rfl (by decide) rfl (Nat.le_of_ble_eq_true rfl) (Nat.le_of_ble_eq_true rfl)
set_option maxHeartbeats 2000000 in
theorem c_X5_step (l : Launch) (D : va_G) (ct : Nat → ClassId) (o0 : Nat) (m0 : Nat) (o0r : Nat) (x_o0_1 : Int32) (m0r : Nat) (m0s : Nat) (k0 : Nat) (x_m0_3 : Int32) (x_m0_4 : Int32) (x_m0_5 : Int32) (x_m0_6 : Int32) (x_m0_7 : Int32) (x_m0_8 : Int64) (x_m0_9 : Int32) (g_o0r : Nat → Int32) (g_m0r : Nat → Int64) (k0c : Nat) (k0l : Nat) (x_k0_2 : Int32) (g_k0l : Nat → Int32) (g_k0c : Nat → Int32) (g_m0s : Nat → Int32) (h_x_o0_1 : rg x_o0_1 0 60000) (h_x_m0_9 : rg x_m0_9 0 1) (h_x_k0_2 : rg x_k0_2 0 16) (h_g_k0l : Rg g_k0l 16 0 256) (h_g_k0c : Rg g_k0c 4096 (-128) 127) (h_g_m0s : Rg g_m0s 64 (-128) 127) : KV (S := Int32 × Int64 × Int32 × (Nat → Int64) × (Nat → Int32)) l yX5_step cX5_step 10 none 6 139 D ct [.ref o0, .ref m0] [(o0, .inr (5, [.ref o0r, .int x_o0_1])), (m0, .inr (4, [.ref m0r, .ref m0s, .ref k0, .int x_m0_3, .int x_m0_4, .int x_m0_5, .int x_m0_6, .int x_m0_7, .long x_m0_8, .int x_m0_9])), (o0r, .inl (ct 1, 60000, .inl g_o0r)), (m0r, .inl (ct 2, 32, .inr (.inl g_m0r))), (k0, .inr (6, [.ref k0c, .ref k0l, .int x_k0_2])), (k0l, .inl (ct 1, 16, .inl g_k0l)), (k0c, .inl (ct 0, 4096, .inl g_k0c)), (m0s, .inl (ct 0, 64, .inl g_m0s))] 0 0 (fun (u : Int32 × Int64 × Int32 × (Nat → Int64) × (Nat → Int32)) => match u with | (y_m0_5, y_m0_8, y_m0_9, k_m0r, k_m0s) => rg y_m0_9 0 1 ∧ Rg k_m0s 64 (-128) 127) (fun (u : Int32 × Int64 × Int32 × (Nat → Int64) × (Nat → Int32)) => match u with | (y_m0_5, y_m0_8, y_m0_9, k_m0r, k_m0s) => [(o0, .inr (5, [.ref o0r, .int x_o0_1])), (m0, .inr (4, [.ref m0r, .ref m0s, .ref k0, .int x_m0_3, .int x_m0_4, .int y_m0_5, .int x_m0_6, .int x_m0_7, .long y_m0_8, .int y_m0_9])), (o0r, .inl (ct 1, 60000, .inl g_o0r)), (m0r, .inl (ct 2, 32, .inr (.inl k_m0r))), (k0, .inr (6, [.ref k0c, .ref k0l, .int x_k0_2])), (k0l, .inl (ct 1, 16, .inl g_k0l)), (k0c, .inl (ct 0, 4096, .inl g_k0c)), (m0s, .inl (ct 0, 64, .inl k_m0s))]) := by
  refine KVq_of (by decide) (Nat.le_of_ble_eq_true rfl) (fun p e s m below meth c A Q C0 hA H locs hS hP hD hQ ls hl => ?_)
  obtain ⟨hx, hb, hr, hown, hin, hml, hlocks, hn, hK, hZ, hSK⟩ := C0
  have hl : lv_has ls 10 [(0, .ref o0), (1, .ref m0)] := hl
  refine lv_aload_n hx hb dX5_step_0 rfl (lv_at hl 0 rfl) ?_
  refine lv_aload_n hx hb dX5_step_1 rfl (lv_at hl 1 rfl) ?_
  refine va_getN (D := D) (ci := 4) (v := .int x_m0_7) (C := RX4) (T := TX4) (N := 10) hx hb (htX4 hn) (fun _ h => h) hown hK hP 1 rfl rfl 7 (by decide) (hn.get mw_93 rfl) (fun _ h9 => h9) rfl dX5_step_2 ?_
  refine go_i (k1 := 0) (n1 := 0) (wr := [(m0, .inr (4, [.ref m0r, .ref m0s, .ref k0, .int x_m0_3, .int x_m0_4, .int x_m0_5, .int x_m0_6, .int x_m0_7, .long x_m0_8, .int x_m0_9])), (m0r, .inl (ct 2, 32, .inr (.inl g_m0r))), (k0, .inr (6, [.ref k0c, .ref k0l, .int x_k0_2])), (k0l, .inl (ct 1, 16, .inl g_k0l)), (k0c, .inl (ct 0, 4096, .inl g_k0c)), (m0s, .inl (ct 0, 64, .inl g_m0s))]) [0, 2] [1, 3, 4, 5, 6, 7] (rn_V (As := [.int x_m0_7]) (rest := []) (c_X5_at l D ct o0 x_m0_7 o0r x_o0_1 g_o0r h_x_o0_1 _) (cb_of (n := 1) hn mw_1400 mw_5 mw_1419 mhX5_at ⟨(Nat.le_of_ble_eq_true rfl), (Nat.le_of_ble_eq_true rfl)⟩) hx hb hml hown hn hK hSK hZ hS mw_1399 mw_s164 (ci := 5) (q0 := 0) rfl rfl rfl rfl hl.1 (Nat.le_of_ble_eq_true rfl) dX5_step_5 ⟨(Nat.le_of_ble_eq_true rfl), (Nat.le_of_ble_eq_true rfl)⟩) hP hD hS hA rfl rfl (by decide) (by decide) (by decide) (Nat.le_of_ble_eq_true rfl) (Nat.le_of_ble_eq_true rfl) (fun r5_1 u5_2 H locs hp5_3 hP hD hS => ?_)
  have hP : va_P D vwCl [(m0, .inr (4, [.ref m0r, .ref m0s, .ref k0, .int x_m0_3, .int x_m0_4, .int x_m0_5, .int x_m0_6, .int x_m0_7, .long x_m0_8, .int x_m0_9])), (m0r, .inl (ct 2, 32, .inr (.inl g_m0r))), (k0, .inr (6, [.ref k0c, .ref k0l, .int x_k0_2])), (k0l, .inl (ct 1, 16, .inl g_k0l)), (k0c, .inl (ct 0, 4096, .inl g_k0c)), (m0s, .inl (ct 0, 64, .inl g_m0s)), (o0, .inr (5, [.ref o0r, .int x_o0_1])), (o0r, .inl (ct 1, 60000, .inl g_o0r))] _ := hP
  have hD : va_D A [(m0, .inr (4, [.ref m0r, .ref m0s, .ref k0, .int x_m0_3, .int x_m0_4, .int x_m0_5, .int x_m0_6, .int x_m0_7, .long x_m0_8, .int x_m0_9])), (m0r, .inl (ct 2, 32, .inr (.inl g_m0r))), (k0, .inr (6, [.ref k0c, .ref k0l, .int x_k0_2])), (k0l, .inl (ct 1, 16, .inl g_k0l)), (k0c, .inl (ct 0, 4096, .inl g_k0c)), (m0s, .inl (ct 0, 64, .inl g_m0s)), (o0, .inr (5, [.ref o0r, .int x_o0_1])), (o0r, .inl (ct 1, 60000, .inl g_o0r))] := hD
  refine lv_istore_n (lv' := [(2, .int r5_1), (0, .ref o0), (1, .ref m0)]) hx hb dX5_step_8 rfl hl (by decide) rfl (fun ls hl => ?_)
  refine lv_iload_n hx hb dX5_step_9 rfl (lv_at hl 0 rfl) ?_
  refine go_i (k1 := 0) (n1 := 0) (wr := [(m0, .inr (4, [.ref m0r, .ref m0s, .ref k0, .int x_m0_3, .int x_m0_4, .int x_m0_5, .int x_m0_6, .int x_m0_7, .long x_m0_8, .int x_m0_9])), (m0r, .inl (ct 2, 32, .inr (.inl g_m0r))), (k0, .inr (6, [.ref k0c, .ref k0l, .int x_k0_2])), (k0l, .inl (ct 1, 16, .inl g_k0l)), (k0c, .inl (ct 0, 4096, .inl g_k0c)), (m0s, .inl (ct 0, 64, .inl g_m0s)), (o0, .inr (5, [.ref o0r, .int x_o0_1])), (o0r, .inl (ct 1, 60000, .inl g_o0r))]) [] [0, 1, 2, 3, 4, 5, 6, 7] (rn_S (As := [.int r5_1]) (rest := []) (c_X5_exists l D ct r5_1  _) (cb_of (n := 1) hn mw_1422 mw_5 mw_1420 mhX5_exists ⟨(Nat.le_of_ble_eq_true rfl), (Nat.le_of_ble_eq_true rfl)⟩) hx hb hml hown hn hK hSK hZ hS mw_1421 rfl hl.1 (Nat.le_of_ble_eq_true rfl) dX5_step_10 ⟨(Nat.le_of_ble_eq_true rfl), (Nat.le_of_ble_eq_true rfl)⟩) hP hD hS hA rfl rfl (by decide) (by decide) (by decide) (Nat.le_of_ble_eq_true rfl) (Nat.le_of_ble_eq_true rfl) (fun r10_1 u10_2 H locs hp10_3 hP hD hS => ?_)
  have hp10_4 := hp10_3
  have hp10_4 : rg r10_1 0 1 := hp10_4
  have hP : va_P D vwCl [(m0, .inr (4, [.ref m0r, .ref m0s, .ref k0, .int x_m0_3, .int x_m0_4, .int x_m0_5, .int x_m0_6, .int x_m0_7, .long x_m0_8, .int x_m0_9])), (m0r, .inl (ct 2, 32, .inr (.inl g_m0r))), (k0, .inr (6, [.ref k0c, .ref k0l, .int x_k0_2])), (k0l, .inl (ct 1, 16, .inl g_k0l)), (k0c, .inl (ct 0, 4096, .inl g_k0c)), (m0s, .inl (ct 0, 64, .inl g_m0s)), (o0, .inr (5, [.ref o0r, .int x_o0_1])), (o0r, .inl (ct 1, 60000, .inl g_o0r))] _ := hP
  have hD : va_D A [(m0, .inr (4, [.ref m0r, .ref m0s, .ref k0, .int x_m0_3, .int x_m0_4, .int x_m0_5, .int x_m0_6, .int x_m0_7, .long x_m0_8, .int x_m0_9])), (m0r, .inl (ct 2, 32, .inr (.inl g_m0r))), (k0, .inr (6, [.ref k0c, .ref k0l, .int x_k0_2])), (k0l, .inl (ct 1, 16, .inl g_k0l)), (k0c, .inl (ct 0, 4096, .inl g_k0c)), (m0s, .inl (ct 0, 64, .inl g_m0s)), (o0, .inr (5, [.ref o0r, .int x_o0_1])), (o0r, .inl (ct 1, 60000, .inl g_o0r))] := hD
  refine lv_if_ne (tgt := 22) hx hb dX5_step_13 (by decide) (fun c13_1 => ?_) (fun c13_1 => ?_)
  · have t13_2 := (i_ne c13_1)
    have r13_3 : rg r10_1 1 1 := rg_neAl t13_2 hp10_4 (show rg (0 : Int32) 0 0 from rg_l (by decide)) (by decide)
    refine lv_iload_n hx hb dX5_step_22 rfl (lv_at hl 0 rfl) ?_
    refine lv_bipush (v := 7) hx hb dX5_step_23 (by decide) ?_
    refine lv_ishr hx hb dX5_step_25 ?_
    refine lv_topi (fun z25_1 ez25_1 => ?_)
    have r25_2 : rg z25_1 (-16777216) 16777215 := rg_shr (k := 7) ez25_1 (by decide) (rg_any r5_1) (by decide)
    refine lv_bipush (v := 31) hx hb dX5_step_26 (by decide) ?_
    refine lv_iand hx hb dX5_step_28 ?_
    refine lv_topi (fun z28_1 ez28_1 => ?_)
    have r28_2 : rg z28_1 0 31 := rg_andr ez28_1 (show rg (31 : Int32) 31 31 from rg_l (by decide)) (by decide)
    refine lv_istore_n (lv' := [(3, .int z28_1), (2, .int r5_1), (0, .ref o0), (1, .ref m0)]) hx hb dX5_step_29 rfl hl (by decide) rfl (fun ls hl => ?_)
    refine lv_aload_n hx hb dX5_step_30 rfl (lv_at hl 3 rfl) ?_
    refine lv_iload_n hx hb dX5_step_31 rfl (lv_at hl 1 rfl) ?_
    refine lv_bipush (v := 15) hx hb dX5_step_32 (by decide) ?_
    refine lv_ishr hx hb dX5_step_34 ?_
    refine lv_topi (fun z34_1 ez34_1 => ?_)
    have r34_2 : rg z34_1 (-65536) 65535 := rg_shr (k := 15) ez34_1 (by decide) (rg_any r5_1) (by decide)
    refine lv_bipush (v := 31) hx hb dX5_step_35 (by decide) ?_
    refine lv_iand hx hb dX5_step_37 ?_
    refine lv_topi (fun z37_1 ez37_1 => ?_)
    have r37_2 : rg z37_1 0 31 := rg_andr ez37_1 (show rg (31 : Int32) 31 31 from rg_l (by decide)) (by decide)
    refine go_l (k1 := 0) (n1 := 0) (wr := [(k0, .inr (6, [.ref k0c, .ref k0l, .int x_k0_2])), (k0l, .inl (ct 1, 16, .inl g_k0l)), (k0c, .inl (ct 0, 4096, .inl g_k0c)), (m0s, .inl (ct 0, 64, .inl g_m0s)), (o0, .inr (5, [.ref o0r, .int x_o0_1])), (o0r, .inl (ct 1, 60000, .inl g_o0r))]) [0, 1] [2, 3, 4, 5, 6, 7] (rn_VN (As := [.int z37_1]) (rest := []) (c_X4_get l D ct m0 z37_1 m0r m0s k0 x_m0_3 x_m0_4 x_m0_5 x_m0_6 x_m0_7 x_m0_8 x_m0_9 g_m0r h_x_m0_9 _) (cn_of (n := 1) hn mw_1225 mw_4 mw_1429 mhX4_get ⟨(Nat.le_of_ble_eq_true rfl), (Nat.le_of_ble_eq_true rfl)⟩) hx hb hml hown hn hK hSK hZ hS mw_1224 mw_s135 (ci := 4) (q0 := 0) rfl rfl rfl rfl hl.1 (Nat.le_of_ble_eq_true rfl) dX5_step_38 ⟨(Nat.le_of_ble_eq_true rfl), (Nat.le_of_ble_eq_true rfl)⟩) hP hD hS hA rfl rfl (by decide) (by decide) (by decide) (Nat.le_of_ble_eq_true rfl) (Nat.le_of_ble_eq_true rfl) (fun r38_1 u38_2 H locs hp38_3 hP hD hS => ?_)
    have hP : va_P D vwCl [(k0, .inr (6, [.ref k0c, .ref k0l, .int x_k0_2])), (k0l, .inl (ct 1, 16, .inl g_k0l)), (k0c, .inl (ct 0, 4096, .inl g_k0c)), (m0s, .inl (ct 0, 64, .inl g_m0s)), (o0, .inr (5, [.ref o0r, .int x_o0_1])), (o0r, .inl (ct 1, 60000, .inl g_o0r)), (m0, .inr (4, [.ref m0r, .ref m0s, .ref k0, .int x_m0_3, .int x_m0_4, .int x_m0_5, .int x_m0_6, .int x_m0_7, .long x_m0_8, .int x_m0_9])), (m0r, .inl (ct 2, 32, .inr (.inl g_m0r)))] _ := hP
    have hD : va_D A [(k0, .inr (6, [.ref k0c, .ref k0l, .int x_k0_2])), (k0l, .inl (ct 1, 16, .inl g_k0l)), (k0c, .inl (ct 0, 4096, .inl g_k0c)), (m0s, .inl (ct 0, 64, .inl g_m0s)), (o0, .inr (5, [.ref o0r, .int x_o0_1])), (o0r, .inl (ct 1, 60000, .inl g_o0r)), (m0, .inr (4, [.ref m0r, .ref m0s, .ref k0, .int x_m0_3, .int x_m0_4, .int x_m0_5, .int x_m0_6, .int x_m0_7, .long x_m0_8, .int x_m0_9])), (m0r, .inl (ct 2, 32, .inr (.inl g_m0r)))] := hD
    refine lv_lstore (lv' := [(4, .long r38_1), (3, .int z28_1), (2, .int r5_1), (0, .ref o0), (1, .ref m0)]) hx hb dX5_step_41 hl (by decide) rfl (fun ls hl => ?_)
    refine lv_aload_n hx hb dX5_step_43 rfl (lv_at hl 4 rfl) ?_
    refine lv_iload_n hx hb dX5_step_44 rfl (lv_at hl 2 rfl) ?_
    refine lv_bipush (v := 20) hx hb dX5_step_45 (by decide) ?_
    refine lv_ishr hx hb dX5_step_47 ?_
    refine lv_topi (fun z47_1 ez47_1 => ?_)
    have r47_2 : rg z47_1 (-2048) 2047 := rg_shr (k := 20) ez47_1 (by decide) (rg_any r5_1) (by decide)
    refine lv_bipush (v := 31) hx hb dX5_step_48 (by decide) ?_
    refine lv_iand hx hb dX5_step_50 ?_
    refine lv_topi (fun z50_1 ez50_1 => ?_)
    have r50_2 : rg z50_1 0 31 := rg_andr ez50_1 (show rg (31 : Int32) 31 31 from rg_l (by decide)) (by decide)
    refine go_l (k1 := 0) (n1 := 0) (wr := [(k0, .inr (6, [.ref k0c, .ref k0l, .int x_k0_2])), (k0l, .inl (ct 1, 16, .inl g_k0l)), (k0c, .inl (ct 0, 4096, .inl g_k0c)), (m0s, .inl (ct 0, 64, .inl g_m0s)), (o0, .inr (5, [.ref o0r, .int x_o0_1])), (o0r, .inl (ct 1, 60000, .inl g_o0r))]) [6, 7] [0, 1, 2, 3, 4, 5] (rn_VN (As := [.int z50_1]) (rest := []) (c_X4_get l D ct m0 z50_1 m0r m0s k0 x_m0_3 x_m0_4 x_m0_5 x_m0_6 x_m0_7 x_m0_8 x_m0_9 g_m0r h_x_m0_9 _) (cn_of (n := 1) hn mw_1225 mw_4 mw_1429 mhX4_get ⟨(Nat.le_of_ble_eq_true rfl), (Nat.le_of_ble_eq_true rfl)⟩) hx hb hml hown hn hK hSK hZ hS mw_1224 mw_s135 (ci := 4) (q0 := 0) rfl rfl rfl rfl hl.1 (Nat.le_of_ble_eq_true rfl) dX5_step_51 ⟨(Nat.le_of_ble_eq_true rfl), (Nat.le_of_ble_eq_true rfl)⟩) hP hD hS hA rfl rfl (by decide) (by decide) (by decide) (Nat.le_of_ble_eq_true rfl) (Nat.le_of_ble_eq_true rfl) (fun r51_1 u51_2 H locs hp51_3 hP hD hS => ?_)
    have hP : va_P D vwCl [(k0, .inr (6, [.ref k0c, .ref k0l, .int x_k0_2])), (k0l, .inl (ct 1, 16, .inl g_k0l)), (k0c, .inl (ct 0, 4096, .inl g_k0c)), (m0s, .inl (ct 0, 64, .inl g_m0s)), (o0, .inr (5, [.ref o0r, .int x_o0_1])), (o0r, .inl (ct 1, 60000, .inl g_o0r)), (m0, .inr (4, [.ref m0r, .ref m0s, .ref k0, .int x_m0_3, .int x_m0_4, .int x_m0_5, .int x_m0_6, .int x_m0_7, .long x_m0_8, .int x_m0_9])), (m0r, .inl (ct 2, 32, .inr (.inl g_m0r)))] _ := hP
    have hD : va_D A [(k0, .inr (6, [.ref k0c, .ref k0l, .int x_k0_2])), (k0l, .inl (ct 1, 16, .inl g_k0l)), (k0c, .inl (ct 0, 4096, .inl g_k0c)), (m0s, .inl (ct 0, 64, .inl g_m0s)), (o0, .inr (5, [.ref o0r, .int x_o0_1])), (o0r, .inl (ct 1, 60000, .inl g_o0r)), (m0, .inr (4, [.ref m0r, .ref m0s, .ref k0, .int x_m0_3, .int x_m0_4, .int x_m0_5, .int x_m0_6, .int x_m0_7, .long x_m0_8, .int x_m0_9])), (m0r, .inl (ct 2, 32, .inr (.inl g_m0r)))] := hD
    refine lv_lstore (lv' := [(6, .long r51_1), (4, .long r38_1), (3, .int z28_1), (2, .int r5_1), (0, .ref o0), (1, .ref m0)]) hx hb dX5_step_54 hl (by decide) rfl (fun ls hl => ?_)
    refine lv_iload_n hx hb dX5_step_56 rfl (lv_at hl 3 rfl) ?_
    refine lv_bipush (v := 20) hx hb dX5_step_57 (by decide) ?_
    refine lv_ishr hx hb dX5_step_59 ?_
    refine lv_topi (fun z59_1 ez59_1 => ?_)
    have r59_2 : rg z59_1 (-2048) 2047 := rg_shr (k := 20) ez59_1 (by decide) (rg_any r5_1) (by decide)
    refine lv_i2l hx hb dX5_step_60 rfl ?_
    refine lv_topl (fun z60_1 ez60_1 => ?_)
    have r60_2 : rl z60_1 (-2048) 2047 := rl_i2l ez60_1 r59_2
    refine lv_lstore (lv' := [(8, .long z60_1), (6, .long r51_1), (4, .long r38_1), (3, .int z28_1), (2, .int r5_1), (0, .ref o0), (1, .ref m0)]) hx hb dX5_step_61 hl (by decide) rfl (fun ls hl => ?_)
    refine lv_iload_n hx hb dX5_step_63 rfl (lv_at hl 4 rfl) ?_
    refine lv_bipush (v := 127) hx hb dX5_step_64 (by decide) ?_
    refine lv_iand hx hb dX5_step_66 ?_
    refine lv_topi (fun z66_1 ez66_1 => ?_)
    have r66_2 : rg z66_1 0 127 := rg_andr ez66_1 (show rg (127 : Int32) 127 127 from rg_l (by decide)) (by decide)
    by_cases h67_101 : z66_1.toInt = 3
    · have r67_102 : rg z66_1 3 3 := rg_at h67_101
      refine lv_lookup (off := 179) (tgt := 246) hx hb dX5_step_67 (by decide) (by rw [h67_101]; rfl) (by decide) ?_
      refine lv_aload_n hx hb dX5_step_246 rfl (lv_at hl 6 rfl) ?_
      refine lv_iload_n hx hb dX5_step_247 rfl (lv_at hl 3 rfl) ?_
      refine lv_lload hx hb dX5_step_248 (lv_at hl 2 rfl) ?_
      refine lv_lload hx hb dX5_step_250 (lv_at hl 0 rfl) ?_
      refine lv_ladd hx hb dX5_step_252 ?_
      refine lv_topl (fun z252_1 ez252_1 => ?_)
      refine lv_iload_n hx hb dX5_step_253 rfl (lv_at hl 4 rfl) ?_
      refine go_i (k1 := 0) (n1 := 0) (wr := [(k0, .inr (6, [.ref k0c, .ref k0l, .int x_k0_2])), (k0l, .inl (ct 1, 16, .inl g_k0l)), (k0c, .inl (ct 0, 4096, .inl g_k0c)), (m0s, .inl (ct 0, 64, .inl g_m0s)), (o0, .inr (5, [.ref o0r, .int x_o0_1])), (o0r, .inl (ct 1, 60000, .inl g_o0r)), (m0, .inr (4, [.ref m0r, .ref m0s, .ref k0, .int x_m0_3, .int x_m0_4, .int x_m0_5, .int x_m0_6, .int x_m0_7, .long x_m0_8, .int x_m0_9])), (m0r, .inl (ct 2, 32, .inr (.inl g_m0r)))]) [] [0, 1, 2, 3, 4, 5, 6, 7] (rn_S (As := [.int r5_1]) (rest := [.long z252_1, .int z28_1, .ref m0]) (c_X5_middlePart l D ct r5_1  _) (cb_of (n := 1) hn mw_1425 mw_5 mw_1423 mhX5_middlePart ⟨(Nat.le_of_ble_eq_true rfl), (Nat.le_of_ble_eq_true rfl)⟩) hx hb hml hown hn hK hSK hZ hS mw_1424 rfl hl.1 (Nat.le_of_ble_eq_true rfl) dX5_step_254 ⟨(Nat.le_of_ble_eq_true rfl), (Nat.le_of_ble_eq_true rfl)⟩) hP hD hS hA rfl rfl (by decide) (by decide) (by decide) (Nat.le_of_ble_eq_true rfl) (Nat.le_of_ble_eq_true rfl) (fun r254_1 u254_2 H locs hp254_3 hP hD hS => ?_)
      have hp254_4 := hp254_3
      have hp254_4 : rg r254_1 0 7 := hp254_4
      have hP : va_P D vwCl [(k0, .inr (6, [.ref k0c, .ref k0l, .int x_k0_2])), (k0l, .inl (ct 1, 16, .inl g_k0l)), (k0c, .inl (ct 0, 4096, .inl g_k0c)), (m0s, .inl (ct 0, 64, .inl g_m0s)), (o0, .inr (5, [.ref o0r, .int x_o0_1])), (o0r, .inl (ct 1, 60000, .inl g_o0r)), (m0, .inr (4, [.ref m0r, .ref m0s, .ref k0, .int x_m0_3, .int x_m0_4, .int x_m0_5, .int x_m0_6, .int x_m0_7, .long x_m0_8, .int x_m0_9])), (m0r, .inl (ct 2, 32, .inr (.inl g_m0r)))] _ := hP
      have hD : va_D A [(k0, .inr (6, [.ref k0c, .ref k0l, .int x_k0_2])), (k0l, .inl (ct 1, 16, .inl g_k0l)), (k0c, .inl (ct 0, 4096, .inl g_k0c)), (m0s, .inl (ct 0, 64, .inl g_m0s)), (o0, .inr (5, [.ref o0r, .int x_o0_1])), (o0r, .inl (ct 1, 60000, .inl g_o0r)), (m0, .inr (4, [.ref m0r, .ref m0s, .ref k0, .int x_m0_3, .int x_m0_4, .int x_m0_5, .int x_m0_6, .int x_m0_7, .long x_m0_8, .int x_m0_9])), (m0r, .inl (ct 2, 32, .inr (.inl g_m0r)))] := hD
      refine go_v (k1 := 0) (n1 := 0) (wr := [(o0, .inr (5, [.ref o0r, .int x_o0_1])), (o0r, .inl (ct 1, 60000, .inl g_o0r))]) [6, 0, 1, 2, 3, 7] [4, 5] (rn_S (As := [.ref m0, .int z28_1, .long z252_1, .int r254_1]) (rest := []) (c_X5_fetch l D ct m0 z28_1 z252_1 r254_1 m0r m0s k0 x_m0_3 x_m0_4 x_m0_5 x_m0_6 x_m0_7 x_m0_8 x_m0_9 k0c k0l x_k0_2 g_k0l g_k0c g_m0s g_m0r h_x_m0_9 h_x_k0_2 h_g_k0l h_g_k0c h_g_m0s _) (cb_of (n := 4) hn mw_1456 mw_5 mw_1454 mhX5_fetch ⟨(Nat.le_of_ble_eq_true rfl), (Nat.le_of_ble_eq_true rfl)⟩) hx hb hml hown hn hK hSK hZ hS mw_1455 rfl hl.1 (Nat.le_of_ble_eq_true rfl) dX5_step_257 ⟨(Nat.le_of_ble_eq_true rfl), (Nat.le_of_ble_eq_true rfl)⟩) hP hD hS hA rfl rfl (by decide) (by decide) (by decide) (Nat.le_of_ble_eq_true rfl) (Nat.le_of_ble_eq_true rfl) (fun u257_2 H locs hp257_3 hP hD hS => ?_)
      obtain ⟨y_m0_5257_4, y_m0_9257_5, k_m0r257_6⟩ := u257_2
      have hp257_7 := hp257_3
      have hp257_7 : rg y_m0_9257_5 0 1 := hp257_7
      have hP : va_P D vwCl [(o0, .inr (5, [.ref o0r, .int x_o0_1])), (o0r, .inl (ct 1, 60000, .inl g_o0r)), (m0, .inr (4, [.ref m0r, .ref m0s, .ref k0, .int x_m0_3, .int x_m0_4, .int y_m0_5257_4, .int x_m0_6, .int x_m0_7, .long x_m0_8, .int y_m0_9257_5])), (k0, .inr (6, [.ref k0c, .ref k0l, .int x_k0_2])), (k0l, .inl (ct 1, 16, .inl g_k0l)), (k0c, .inl (ct 0, 4096, .inl g_k0c)), (m0s, .inl (ct 0, 64, .inl g_m0s)), (m0r, .inl (ct 2, 32, .inr (.inl k_m0r257_6)))] _ := hP
      have hD : va_D A [(o0, .inr (5, [.ref o0r, .int x_o0_1])), (o0r, .inl (ct 1, 60000, .inl g_o0r)), (m0, .inr (4, [.ref m0r, .ref m0s, .ref k0, .int x_m0_3, .int x_m0_4, .int y_m0_5257_4, .int x_m0_6, .int x_m0_7, .long x_m0_8, .int y_m0_9257_5])), (k0, .inr (6, [.ref k0c, .ref k0l, .int x_k0_2])), (k0l, .inl (ct 1, 16, .inl g_k0l)), (k0c, .inl (ct 0, 4096, .inl g_k0c)), (m0s, .inl (ct 0, 64, .inl g_m0s)), (m0r, .inl (ct 2, 32, .inr (.inl k_m0r257_6)))] := hD
      refine lv_goto (tgt := 381) hx hb dX5_step_260 (by decide) ?_
      exact endq_v hQ hx hb hr hlocks dX5_step_381 (y_m0_5257_4, x_m0_8, y_m0_9257_5, k_m0r257_6, g_m0s) ⟨hp257_7, h_g_m0s⟩ hP hD hS [0, 2, 1, 7, 3, 4, 5, 6] rfl (by decide) rfl (Nat.le_of_ble_eq_true rfl) (Nat.le_of_ble_eq_true rfl)
    by_cases h67_111 : z66_1.toInt = 19
    · have r67_112 : rg z66_1 19 19 := rg_at h67_111
      refine lv_lookup (off := 217) (tgt := 284) hx hb dX5_step_67 (by decide) (by rw [h67_111]; rfl) (by decide) ?_
      refine lv_aload_n hx hb dX5_step_284 rfl (lv_at hl 6 rfl) ?_
      refine lv_iload_n hx hb dX5_step_285 rfl (lv_at hl 3 rfl) ?_
      refine lv_iload_n hx hb dX5_step_286 rfl (lv_at hl 4 rfl) ?_
      refine go_i (k1 := 0) (n1 := 0) (wr := [(k0, .inr (6, [.ref k0c, .ref k0l, .int x_k0_2])), (k0l, .inl (ct 1, 16, .inl g_k0l)), (k0c, .inl (ct 0, 4096, .inl g_k0c)), (m0s, .inl (ct 0, 64, .inl g_m0s)), (o0, .inr (5, [.ref o0r, .int x_o0_1])), (o0r, .inl (ct 1, 60000, .inl g_o0r)), (m0, .inr (4, [.ref m0r, .ref m0s, .ref k0, .int x_m0_3, .int x_m0_4, .int x_m0_5, .int x_m0_6, .int x_m0_7, .long x_m0_8, .int x_m0_9])), (m0r, .inl (ct 2, 32, .inr (.inl g_m0r)))]) [] [0, 1, 2, 3, 4, 5, 6, 7] (rn_S (As := [.int r5_1]) (rest := [.int z28_1, .ref m0]) (c_X5_middlePart l D ct r5_1  _) (cb_of (n := 1) hn mw_1425 mw_5 mw_1423 mhX5_middlePart ⟨(Nat.le_of_ble_eq_true rfl), (Nat.le_of_ble_eq_true rfl)⟩) hx hb hml hown hn hK hSK hZ hS mw_1424 rfl hl.1 (Nat.le_of_ble_eq_true rfl) dX5_step_287 ⟨(Nat.le_of_ble_eq_true rfl), (Nat.le_of_ble_eq_true rfl)⟩) hP hD hS hA rfl rfl (by decide) (by decide) (by decide) (Nat.le_of_ble_eq_true rfl) (Nat.le_of_ble_eq_true rfl) (fun r287_1 u287_2 H locs hp287_3 hP hD hS => ?_)
      have hp287_4 := hp287_3
      have hp287_4 : rg r287_1 0 7 := hp287_4
      have hP : va_P D vwCl [(k0, .inr (6, [.ref k0c, .ref k0l, .int x_k0_2])), (k0l, .inl (ct 1, 16, .inl g_k0l)), (k0c, .inl (ct 0, 4096, .inl g_k0c)), (m0s, .inl (ct 0, 64, .inl g_m0s)), (o0, .inr (5, [.ref o0r, .int x_o0_1])), (o0r, .inl (ct 1, 60000, .inl g_o0r)), (m0, .inr (4, [.ref m0r, .ref m0s, .ref k0, .int x_m0_3, .int x_m0_4, .int x_m0_5, .int x_m0_6, .int x_m0_7, .long x_m0_8, .int x_m0_9])), (m0r, .inl (ct 2, 32, .inr (.inl g_m0r)))] _ := hP
      have hD : va_D A [(k0, .inr (6, [.ref k0c, .ref k0l, .int x_k0_2])), (k0l, .inl (ct 1, 16, .inl g_k0l)), (k0c, .inl (ct 0, 4096, .inl g_k0c)), (m0s, .inl (ct 0, 64, .inl g_m0s)), (o0, .inr (5, [.ref o0r, .int x_o0_1])), (o0r, .inl (ct 1, 60000, .inl g_o0r)), (m0, .inr (4, [.ref m0r, .ref m0s, .ref k0, .int x_m0_3, .int x_m0_4, .int x_m0_5, .int x_m0_6, .int x_m0_7, .long x_m0_8, .int x_m0_9])), (m0r, .inl (ct 2, 32, .inr (.inl g_m0r)))] := hD
      refine lv_iload_n hx hb dX5_step_290 rfl (lv_at hl 4 rfl) ?_
      refine go_i (k1 := 0) (n1 := 0) (wr := [(k0, .inr (6, [.ref k0c, .ref k0l, .int x_k0_2])), (k0l, .inl (ct 1, 16, .inl g_k0l)), (k0c, .inl (ct 0, 4096, .inl g_k0c)), (m0s, .inl (ct 0, 64, .inl g_m0s)), (o0, .inr (5, [.ref o0r, .int x_o0_1])), (o0r, .inl (ct 1, 60000, .inl g_o0r)), (m0, .inr (4, [.ref m0r, .ref m0s, .ref k0, .int x_m0_3, .int x_m0_4, .int x_m0_5, .int x_m0_6, .int x_m0_7, .long x_m0_8, .int x_m0_9])), (m0r, .inl (ct 2, 32, .inr (.inl g_m0r)))]) [] [0, 1, 2, 3, 4, 5, 6, 7] (rn_S (As := [.int r5_1]) (rest := [.int r287_1, .int z28_1, .ref m0]) (c_X5_shiftHigh l D ct r5_1  _) (cb_of (n := 1) hn mw_1469 mw_5 mw_1467 mhX5_shiftHigh ⟨(Nat.le_of_ble_eq_true rfl), (Nat.le_of_ble_eq_true rfl)⟩) hx hb hml hown hn hK hSK hZ hS mw_1468 rfl hl.1 (Nat.le_of_ble_eq_true rfl) dX5_step_291 ⟨(Nat.le_of_ble_eq_true rfl), (Nat.le_of_ble_eq_true rfl)⟩) hP hD hS hA rfl rfl (by decide) (by decide) (by decide) (Nat.le_of_ble_eq_true rfl) (Nat.le_of_ble_eq_true rfl) (fun r291_1 u291_2 H locs hp291_3 hP hD hS => ?_)
      have hp291_4 := hp291_3
      have hp291_4 : rg r291_1 0 32 := hp291_4
      have hP : va_P D vwCl [(k0, .inr (6, [.ref k0c, .ref k0l, .int x_k0_2])), (k0l, .inl (ct 1, 16, .inl g_k0l)), (k0c, .inl (ct 0, 4096, .inl g_k0c)), (m0s, .inl (ct 0, 64, .inl g_m0s)), (o0, .inr (5, [.ref o0r, .int x_o0_1])), (o0r, .inl (ct 1, 60000, .inl g_o0r)), (m0, .inr (4, [.ref m0r, .ref m0s, .ref k0, .int x_m0_3, .int x_m0_4, .int x_m0_5, .int x_m0_6, .int x_m0_7, .long x_m0_8, .int x_m0_9])), (m0r, .inl (ct 2, 32, .inr (.inl g_m0r)))] _ := hP
      have hD : va_D A [(k0, .inr (6, [.ref k0c, .ref k0l, .int x_k0_2])), (k0l, .inl (ct 1, 16, .inl g_k0l)), (k0c, .inl (ct 0, 4096, .inl g_k0c)), (m0s, .inl (ct 0, 64, .inl g_m0s)), (o0, .inr (5, [.ref o0r, .int x_o0_1])), (o0r, .inl (ct 1, 60000, .inl g_o0r)), (m0, .inr (4, [.ref m0r, .ref m0s, .ref k0, .int x_m0_3, .int x_m0_4, .int x_m0_5, .int x_m0_6, .int x_m0_7, .long x_m0_8, .int x_m0_9])), (m0r, .inl (ct 2, 32, .inr (.inl g_m0r)))] := hD
      refine lv_lload hx hb dX5_step_294 (lv_at hl 2 rfl) ?_
      refine lv_lload hx hb dX5_step_296 (lv_at hl 0 rfl) ?_
      refine go_l (k1 := 0) (n1 := 0) (wr := [(k0, .inr (6, [.ref k0c, .ref k0l, .int x_k0_2])), (k0l, .inl (ct 1, 16, .inl g_k0l)), (k0c, .inl (ct 0, 4096, .inl g_k0c)), (m0s, .inl (ct 0, 64, .inl g_m0s)), (o0, .inr (5, [.ref o0r, .int x_o0_1])), (o0r, .inl (ct 1, 60000, .inl g_o0r)), (m0, .inr (4, [.ref m0r, .ref m0s, .ref k0, .int x_m0_3, .int x_m0_4, .int x_m0_5, .int x_m0_6, .int x_m0_7, .long x_m0_8, .int x_m0_9])), (m0r, .inl (ct 2, 32, .inr (.inl g_m0r)))]) [] [0, 1, 2, 3, 4, 5, 6, 7] (rn_S (As := [.int r287_1, .int r291_1, .long r38_1, .long z60_1]) (rest := [.int z28_1, .ref m0]) (c_X5_made l D ct r287_1 r291_1 r38_1 z60_1  _) (cb_of (n := 4) hn mw_1472 mw_5 mw_1470 mhX5_made ⟨(Nat.le_of_ble_eq_true rfl), (Nat.le_of_ble_eq_true rfl)⟩) hx hb hml hown hn hK hSK hZ hS mw_1471 rfl hl.1 (Nat.le_of_ble_eq_true rfl) dX5_step_298 ⟨(Nat.le_of_ble_eq_true rfl), (Nat.le_of_ble_eq_true rfl)⟩) hP hD hS hA rfl rfl (by decide) (by decide) (by decide) (Nat.le_of_ble_eq_true rfl) (Nat.le_of_ble_eq_true rfl) (fun r298_1 u298_2 H locs hp298_3 hP hD hS => ?_)
      have hP : va_P D vwCl [(k0, .inr (6, [.ref k0c, .ref k0l, .int x_k0_2])), (k0l, .inl (ct 1, 16, .inl g_k0l)), (k0c, .inl (ct 0, 4096, .inl g_k0c)), (m0s, .inl (ct 0, 64, .inl g_m0s)), (o0, .inr (5, [.ref o0r, .int x_o0_1])), (o0r, .inl (ct 1, 60000, .inl g_o0r)), (m0, .inr (4, [.ref m0r, .ref m0s, .ref k0, .int x_m0_3, .int x_m0_4, .int x_m0_5, .int x_m0_6, .int x_m0_7, .long x_m0_8, .int x_m0_9])), (m0r, .inl (ct 2, 32, .inr (.inl g_m0r)))] _ := hP
      have hD : va_D A [(k0, .inr (6, [.ref k0c, .ref k0l, .int x_k0_2])), (k0l, .inl (ct 1, 16, .inl g_k0l)), (k0c, .inl (ct 0, 4096, .inl g_k0c)), (m0s, .inl (ct 0, 64, .inl g_m0s)), (o0, .inr (5, [.ref o0r, .int x_o0_1])), (o0r, .inl (ct 1, 60000, .inl g_o0r)), (m0, .inr (4, [.ref m0r, .ref m0s, .ref k0, .int x_m0_3, .int x_m0_4, .int x_m0_5, .int x_m0_6, .int x_m0_7, .long x_m0_8, .int x_m0_9])), (m0r, .inl (ct 2, 32, .inr (.inl g_m0r)))] := hD
      refine go_v (k1 := 0) (n1 := 0) (wr := [(k0, .inr (6, [.ref k0c, .ref k0l, .int x_k0_2])), (k0l, .inl (ct 1, 16, .inl g_k0l)), (k0c, .inl (ct 0, 4096, .inl g_k0c)), (m0s, .inl (ct 0, 64, .inl g_m0s)), (o0, .inr (5, [.ref o0r, .int x_o0_1])), (o0r, .inl (ct 1, 60000, .inl g_o0r))]) [6, 7] [0, 1, 2, 3, 4, 5] (rn_S (As := [.ref m0, .int z28_1, .long r298_1]) (rest := []) (c_X5_keep l D ct m0 z28_1 r298_1 m0r m0s k0 x_m0_3 x_m0_4 x_m0_5 x_m0_6 x_m0_7 x_m0_8 x_m0_9 g_m0r h_x_m0_9 _) (cb_of (n := 3) hn mw_1432 mw_5 mw_1430 mhX5_keep ⟨(Nat.le_of_ble_eq_true rfl), (Nat.le_of_ble_eq_true rfl)⟩) hx hb hml hown hn hK hSK hZ hS mw_1431 rfl hl.1 (Nat.le_of_ble_eq_true rfl) dX5_step_301 ⟨(Nat.le_of_ble_eq_true rfl), (Nat.le_of_ble_eq_true rfl)⟩) hP hD hS hA rfl rfl (by decide) (by decide) (by decide) (Nat.le_of_ble_eq_true rfl) (Nat.le_of_ble_eq_true rfl) (fun u301_2 H locs hp301_3 hP hD hS => ?_)
      have hP : va_P D vwCl [(k0, .inr (6, [.ref k0c, .ref k0l, .int x_k0_2])), (k0l, .inl (ct 1, 16, .inl g_k0l)), (k0c, .inl (ct 0, 4096, .inl g_k0c)), (m0s, .inl (ct 0, 64, .inl g_m0s)), (o0, .inr (5, [.ref o0r, .int x_o0_1])), (o0r, .inl (ct 1, 60000, .inl g_o0r)), (m0, .inr (4, [.ref m0r, .ref m0s, .ref k0, .int x_m0_3, .int x_m0_4, .int x_m0_5, .int x_m0_6, .int x_m0_7, .long x_m0_8, .int x_m0_9])), (m0r, .inl (ct 2, 32, .inr (.inl u301_2)))] _ := hP
      have hD : va_D A [(k0, .inr (6, [.ref k0c, .ref k0l, .int x_k0_2])), (k0l, .inl (ct 1, 16, .inl g_k0l)), (k0c, .inl (ct 0, 4096, .inl g_k0c)), (m0s, .inl (ct 0, 64, .inl g_m0s)), (o0, .inr (5, [.ref o0r, .int x_o0_1])), (o0r, .inl (ct 1, 60000, .inl g_o0r)), (m0, .inr (4, [.ref m0r, .ref m0s, .ref k0, .int x_m0_3, .int x_m0_4, .int x_m0_5, .int x_m0_6, .int x_m0_7, .long x_m0_8, .int x_m0_9])), (m0r, .inl (ct 2, 32, .inr (.inl u301_2)))] := hD
      refine lv_goto (tgt := 381) hx hb dX5_step_304 (by decide) ?_
      exact endq_v hQ hx hb hr hlocks dX5_step_381 (x_m0_5, x_m0_8, x_m0_9, u301_2, g_m0s) ⟨h_x_m0_9, h_g_m0s⟩ hP hD hS [4, 6, 5, 7, 0, 1, 2, 3] rfl (by decide) rfl (Nat.le_of_ble_eq_true rfl) (Nat.le_of_ble_eq_true rfl)
    by_cases h67_121 : z66_1.toInt = 27
    · have r67_122 : rg z66_1 27 27 := rg_at h67_121
      refine lv_lookup (off := 263) (tgt := 330) hx hb dX5_step_67 (by decide) (by rw [h67_121]; rfl) (by decide) ?_
      refine lv_aload_n hx hb dX5_step_330 rfl (lv_at hl 6 rfl) ?_
      refine lv_iload_n hx hb dX5_step_331 rfl (lv_at hl 3 rfl) ?_
      refine lv_iload_n hx hb dX5_step_332 rfl (lv_at hl 4 rfl) ?_
      refine go_i (k1 := 0) (n1 := 0) (wr := [(k0, .inr (6, [.ref k0c, .ref k0l, .int x_k0_2])), (k0l, .inl (ct 1, 16, .inl g_k0l)), (k0c, .inl (ct 0, 4096, .inl g_k0c)), (m0s, .inl (ct 0, 64, .inl g_m0s)), (o0, .inr (5, [.ref o0r, .int x_o0_1])), (o0r, .inl (ct 1, 60000, .inl g_o0r)), (m0, .inr (4, [.ref m0r, .ref m0s, .ref k0, .int x_m0_3, .int x_m0_4, .int x_m0_5, .int x_m0_6, .int x_m0_7, .long x_m0_8, .int x_m0_9])), (m0r, .inl (ct 2, 32, .inr (.inl g_m0r)))]) [] [0, 1, 2, 3, 4, 5, 6, 7] (rn_S (As := [.int r5_1]) (rest := [.int z28_1, .ref m0]) (c_X5_middlePart l D ct r5_1  _) (cb_of (n := 1) hn mw_1425 mw_5 mw_1423 mhX5_middlePart ⟨(Nat.le_of_ble_eq_true rfl), (Nat.le_of_ble_eq_true rfl)⟩) hx hb hml hown hn hK hSK hZ hS mw_1424 rfl hl.1 (Nat.le_of_ble_eq_true rfl) dX5_step_333 ⟨(Nat.le_of_ble_eq_true rfl), (Nat.le_of_ble_eq_true rfl)⟩) hP hD hS hA rfl rfl (by decide) (by decide) (by decide) (Nat.le_of_ble_eq_true rfl) (Nat.le_of_ble_eq_true rfl) (fun r333_1 u333_2 H locs hp333_3 hP hD hS => ?_)
      have hp333_4 := hp333_3
      have hp333_4 : rg r333_1 0 7 := hp333_4
      have hP : va_P D vwCl [(k0, .inr (6, [.ref k0c, .ref k0l, .int x_k0_2])), (k0l, .inl (ct 1, 16, .inl g_k0l)), (k0c, .inl (ct 0, 4096, .inl g_k0c)), (m0s, .inl (ct 0, 64, .inl g_m0s)), (o0, .inr (5, [.ref o0r, .int x_o0_1])), (o0r, .inl (ct 1, 60000, .inl g_o0r)), (m0, .inr (4, [.ref m0r, .ref m0s, .ref k0, .int x_m0_3, .int x_m0_4, .int x_m0_5, .int x_m0_6, .int x_m0_7, .long x_m0_8, .int x_m0_9])), (m0r, .inl (ct 2, 32, .inr (.inl g_m0r)))] _ := hP
      have hD : va_D A [(k0, .inr (6, [.ref k0c, .ref k0l, .int x_k0_2])), (k0l, .inl (ct 1, 16, .inl g_k0l)), (k0c, .inl (ct 0, 4096, .inl g_k0c)), (m0s, .inl (ct 0, 64, .inl g_m0s)), (o0, .inr (5, [.ref o0r, .int x_o0_1])), (o0r, .inl (ct 1, 60000, .inl g_o0r)), (m0, .inr (4, [.ref m0r, .ref m0s, .ref k0, .int x_m0_3, .int x_m0_4, .int x_m0_5, .int x_m0_6, .int x_m0_7, .long x_m0_8, .int x_m0_9])), (m0r, .inl (ct 2, 32, .inr (.inl g_m0r)))] := hD
      refine lv_iload_n hx hb dX5_step_336 rfl (lv_at hl 4 rfl) ?_
      refine go_i (k1 := 0) (n1 := 0) (wr := [(k0, .inr (6, [.ref k0c, .ref k0l, .int x_k0_2])), (k0l, .inl (ct 1, 16, .inl g_k0l)), (k0c, .inl (ct 0, 4096, .inl g_k0c)), (m0s, .inl (ct 0, 64, .inl g_m0s)), (o0, .inr (5, [.ref o0r, .int x_o0_1])), (o0r, .inl (ct 1, 60000, .inl g_o0r)), (m0, .inr (4, [.ref m0r, .ref m0s, .ref k0, .int x_m0_3, .int x_m0_4, .int x_m0_5, .int x_m0_6, .int x_m0_7, .long x_m0_8, .int x_m0_9])), (m0r, .inl (ct 2, 32, .inr (.inl g_m0r)))]) [] [0, 1, 2, 3, 4, 5, 6, 7] (rn_S (As := [.int r5_1]) (rest := [.int r333_1, .int z28_1, .ref m0]) (c_X5_shiftHigh l D ct r5_1  _) (cb_of (n := 1) hn mw_1469 mw_5 mw_1467 mhX5_shiftHigh ⟨(Nat.le_of_ble_eq_true rfl), (Nat.le_of_ble_eq_true rfl)⟩) hx hb hml hown hn hK hSK hZ hS mw_1468 rfl hl.1 (Nat.le_of_ble_eq_true rfl) dX5_step_337 ⟨(Nat.le_of_ble_eq_true rfl), (Nat.le_of_ble_eq_true rfl)⟩) hP hD hS hA rfl rfl (by decide) (by decide) (by decide) (Nat.le_of_ble_eq_true rfl) (Nat.le_of_ble_eq_true rfl) (fun r337_1 u337_2 H locs hp337_3 hP hD hS => ?_)
      have hp337_4 := hp337_3
      have hp337_4 : rg r337_1 0 32 := hp337_4
      have hP : va_P D vwCl [(k0, .inr (6, [.ref k0c, .ref k0l, .int x_k0_2])), (k0l, .inl (ct 1, 16, .inl g_k0l)), (k0c, .inl (ct 0, 4096, .inl g_k0c)), (m0s, .inl (ct 0, 64, .inl g_m0s)), (o0, .inr (5, [.ref o0r, .int x_o0_1])), (o0r, .inl (ct 1, 60000, .inl g_o0r)), (m0, .inr (4, [.ref m0r, .ref m0s, .ref k0, .int x_m0_3, .int x_m0_4, .int x_m0_5, .int x_m0_6, .int x_m0_7, .long x_m0_8, .int x_m0_9])), (m0r, .inl (ct 2, 32, .inr (.inl g_m0r)))] _ := hP
      have hD : va_D A [(k0, .inr (6, [.ref k0c, .ref k0l, .int x_k0_2])), (k0l, .inl (ct 1, 16, .inl g_k0l)), (k0c, .inl (ct 0, 4096, .inl g_k0c)), (m0s, .inl (ct 0, 64, .inl g_m0s)), (o0, .inr (5, [.ref o0r, .int x_o0_1])), (o0r, .inl (ct 1, 60000, .inl g_o0r)), (m0, .inr (4, [.ref m0r, .ref m0s, .ref k0, .int x_m0_3, .int x_m0_4, .int x_m0_5, .int x_m0_6, .int x_m0_7, .long x_m0_8, .int x_m0_9])), (m0r, .inl (ct 2, 32, .inr (.inl g_m0r)))] := hD
      refine lv_lload hx hb dX5_step_340 (lv_at hl 2 rfl) ?_
      refine lv_lload hx hb dX5_step_342 (lv_at hl 0 rfl) ?_
      refine go_l (k1 := 0) (n1 := 0) (wr := [(k0, .inr (6, [.ref k0c, .ref k0l, .int x_k0_2])), (k0l, .inl (ct 1, 16, .inl g_k0l)), (k0c, .inl (ct 0, 4096, .inl g_k0c)), (m0s, .inl (ct 0, 64, .inl g_m0s)), (o0, .inr (5, [.ref o0r, .int x_o0_1])), (o0r, .inl (ct 1, 60000, .inl g_o0r)), (m0, .inr (4, [.ref m0r, .ref m0s, .ref k0, .int x_m0_3, .int x_m0_4, .int x_m0_5, .int x_m0_6, .int x_m0_7, .long x_m0_8, .int x_m0_9])), (m0r, .inl (ct 2, 32, .inr (.inl g_m0r)))]) [] [0, 1, 2, 3, 4, 5, 6, 7] (rn_S (As := [.int r333_1, .int r337_1, .long r38_1, .long z60_1]) (rest := [.int z28_1, .ref m0]) (c_X5_made32 l D ct r333_1 r337_1 r38_1 z60_1  _) (cb_of (n := 4) hn mw_1480 mw_5 mw_1478 mhX5_made32 ⟨(Nat.le_of_ble_eq_true rfl), (Nat.le_of_ble_eq_true rfl)⟩) hx hb hml hown hn hK hSK hZ hS mw_1479 rfl hl.1 (Nat.le_of_ble_eq_true rfl) dX5_step_344 ⟨(Nat.le_of_ble_eq_true rfl), (Nat.le_of_ble_eq_true rfl)⟩) hP hD hS hA rfl rfl (by decide) (by decide) (by decide) (Nat.le_of_ble_eq_true rfl) (Nat.le_of_ble_eq_true rfl) (fun r344_1 u344_2 H locs hp344_3 hP hD hS => ?_)
      have hp344_4 := hp344_3
      have hp344_4 : rl r344_1 (-2147483648) 2147483647 := hp344_4
      have hP : va_P D vwCl [(k0, .inr (6, [.ref k0c, .ref k0l, .int x_k0_2])), (k0l, .inl (ct 1, 16, .inl g_k0l)), (k0c, .inl (ct 0, 4096, .inl g_k0c)), (m0s, .inl (ct 0, 64, .inl g_m0s)), (o0, .inr (5, [.ref o0r, .int x_o0_1])), (o0r, .inl (ct 1, 60000, .inl g_o0r)), (m0, .inr (4, [.ref m0r, .ref m0s, .ref k0, .int x_m0_3, .int x_m0_4, .int x_m0_5, .int x_m0_6, .int x_m0_7, .long x_m0_8, .int x_m0_9])), (m0r, .inl (ct 2, 32, .inr (.inl g_m0r)))] _ := hP
      have hD : va_D A [(k0, .inr (6, [.ref k0c, .ref k0l, .int x_k0_2])), (k0l, .inl (ct 1, 16, .inl g_k0l)), (k0c, .inl (ct 0, 4096, .inl g_k0c)), (m0s, .inl (ct 0, 64, .inl g_m0s)), (o0, .inr (5, [.ref o0r, .int x_o0_1])), (o0r, .inl (ct 1, 60000, .inl g_o0r)), (m0, .inr (4, [.ref m0r, .ref m0s, .ref k0, .int x_m0_3, .int x_m0_4, .int x_m0_5, .int x_m0_6, .int x_m0_7, .long x_m0_8, .int x_m0_9])), (m0r, .inl (ct 2, 32, .inr (.inl g_m0r)))] := hD
      refine go_v (k1 := 0) (n1 := 0) (wr := [(k0, .inr (6, [.ref k0c, .ref k0l, .int x_k0_2])), (k0l, .inl (ct 1, 16, .inl g_k0l)), (k0c, .inl (ct 0, 4096, .inl g_k0c)), (m0s, .inl (ct 0, 64, .inl g_m0s)), (o0, .inr (5, [.ref o0r, .int x_o0_1])), (o0r, .inl (ct 1, 60000, .inl g_o0r))]) [6, 7] [0, 1, 2, 3, 4, 5] (rn_S (As := [.ref m0, .int z28_1, .long r344_1]) (rest := []) (c_X5_keep l D ct m0 z28_1 r344_1 m0r m0s k0 x_m0_3 x_m0_4 x_m0_5 x_m0_6 x_m0_7 x_m0_8 x_m0_9 g_m0r h_x_m0_9 _) (cb_of (n := 3) hn mw_1432 mw_5 mw_1430 mhX5_keep ⟨(Nat.le_of_ble_eq_true rfl), (Nat.le_of_ble_eq_true rfl)⟩) hx hb hml hown hn hK hSK hZ hS mw_1431 rfl hl.1 (Nat.le_of_ble_eq_true rfl) dX5_step_347 ⟨(Nat.le_of_ble_eq_true rfl), (Nat.le_of_ble_eq_true rfl)⟩) hP hD hS hA rfl rfl (by decide) (by decide) (by decide) (Nat.le_of_ble_eq_true rfl) (Nat.le_of_ble_eq_true rfl) (fun u347_2 H locs hp347_3 hP hD hS => ?_)
      have hP : va_P D vwCl [(k0, .inr (6, [.ref k0c, .ref k0l, .int x_k0_2])), (k0l, .inl (ct 1, 16, .inl g_k0l)), (k0c, .inl (ct 0, 4096, .inl g_k0c)), (m0s, .inl (ct 0, 64, .inl g_m0s)), (o0, .inr (5, [.ref o0r, .int x_o0_1])), (o0r, .inl (ct 1, 60000, .inl g_o0r)), (m0, .inr (4, [.ref m0r, .ref m0s, .ref k0, .int x_m0_3, .int x_m0_4, .int x_m0_5, .int x_m0_6, .int x_m0_7, .long x_m0_8, .int x_m0_9])), (m0r, .inl (ct 2, 32, .inr (.inl u347_2)))] _ := hP
      have hD : va_D A [(k0, .inr (6, [.ref k0c, .ref k0l, .int x_k0_2])), (k0l, .inl (ct 1, 16, .inl g_k0l)), (k0c, .inl (ct 0, 4096, .inl g_k0c)), (m0s, .inl (ct 0, 64, .inl g_m0s)), (o0, .inr (5, [.ref o0r, .int x_o0_1])), (o0r, .inl (ct 1, 60000, .inl g_o0r)), (m0, .inr (4, [.ref m0r, .ref m0s, .ref k0, .int x_m0_3, .int x_m0_4, .int x_m0_5, .int x_m0_6, .int x_m0_7, .long x_m0_8, .int x_m0_9])), (m0r, .inl (ct 2, 32, .inr (.inl u347_2)))] := hD
      refine lv_goto (tgt := 381) hx hb dX5_step_350 (by decide) ?_
      exact endq_v hQ hx hb hr hlocks dX5_step_381 (x_m0_5, x_m0_8, x_m0_9, u347_2, g_m0s) ⟨h_x_m0_9, h_g_m0s⟩ hP hD hS [4, 6, 5, 7, 0, 1, 2, 3] rfl (by decide) rfl (Nat.le_of_ble_eq_true rfl) (Nat.le_of_ble_eq_true rfl)
    by_cases h67_131 : z66_1.toInt = 35
    · have r67_132 : rg z66_1 35 35 := rg_at h67_131
      refine lv_lookup (off := 196) (tgt := 263) hx hb dX5_step_67 (by decide) (by rw [h67_131]; rfl) (by decide) ?_
      refine lv_aload_n hx hb dX5_step_263 rfl (lv_at hl 6 rfl) ?_
      refine lv_lload hx hb dX5_step_264 (lv_at hl 2 rfl) ?_
      refine lv_iload_n hx hb dX5_step_266 rfl (lv_at hl 4 rfl) ?_
      refine go_i (k1 := 0) (n1 := 0) (wr := [(k0, .inr (6, [.ref k0c, .ref k0l, .int x_k0_2])), (k0l, .inl (ct 1, 16, .inl g_k0l)), (k0c, .inl (ct 0, 4096, .inl g_k0c)), (m0s, .inl (ct 0, 64, .inl g_m0s)), (o0, .inr (5, [.ref o0r, .int x_o0_1])), (o0r, .inl (ct 1, 60000, .inl g_o0r)), (m0, .inr (4, [.ref m0r, .ref m0s, .ref k0, .int x_m0_3, .int x_m0_4, .int x_m0_5, .int x_m0_6, .int x_m0_7, .long x_m0_8, .int x_m0_9])), (m0r, .inl (ct 2, 32, .inr (.inl g_m0r)))]) [] [0, 1, 2, 3, 4, 5, 6, 7] (rn_S (As := [.int r5_1]) (rest := [.long r38_1, .ref m0]) (c_X5_storeNumber l D ct r5_1  _) (cb_of (n := 1) hn mw_1462 mw_5 mw_1460 mhX5_storeNumber ⟨(Nat.le_of_ble_eq_true rfl), (Nat.le_of_ble_eq_true rfl)⟩) hx hb hml hown hn hK hSK hZ hS mw_1461 rfl hl.1 (Nat.le_of_ble_eq_true rfl) dX5_step_267 ⟨(Nat.le_of_ble_eq_true rfl), (Nat.le_of_ble_eq_true rfl)⟩) hP hD hS hA rfl rfl (by decide) (by decide) (by decide) (Nat.le_of_ble_eq_true rfl) (Nat.le_of_ble_eq_true rfl) (fun r267_1 u267_2 H locs hp267_3 hP hD hS => ?_)
      have hP : va_P D vwCl [(k0, .inr (6, [.ref k0c, .ref k0l, .int x_k0_2])), (k0l, .inl (ct 1, 16, .inl g_k0l)), (k0c, .inl (ct 0, 4096, .inl g_k0c)), (m0s, .inl (ct 0, 64, .inl g_m0s)), (o0, .inr (5, [.ref o0r, .int x_o0_1])), (o0r, .inl (ct 1, 60000, .inl g_o0r)), (m0, .inr (4, [.ref m0r, .ref m0s, .ref k0, .int x_m0_3, .int x_m0_4, .int x_m0_5, .int x_m0_6, .int x_m0_7, .long x_m0_8, .int x_m0_9])), (m0r, .inl (ct 2, 32, .inr (.inl g_m0r)))] _ := hP
      have hD : va_D A [(k0, .inr (6, [.ref k0c, .ref k0l, .int x_k0_2])), (k0l, .inl (ct 1, 16, .inl g_k0l)), (k0c, .inl (ct 0, 4096, .inl g_k0c)), (m0s, .inl (ct 0, 64, .inl g_m0s)), (o0, .inr (5, [.ref o0r, .int x_o0_1])), (o0r, .inl (ct 1, 60000, .inl g_o0r)), (m0, .inr (4, [.ref m0r, .ref m0s, .ref k0, .int x_m0_3, .int x_m0_4, .int x_m0_5, .int x_m0_6, .int x_m0_7, .long x_m0_8, .int x_m0_9])), (m0r, .inl (ct 2, 32, .inr (.inl g_m0r)))] := hD
      refine lv_i2l hx hb dX5_step_270 rfl ?_
      refine lv_topl (fun z270_1 ez270_1 => ?_)
      have r270_2 : rl z270_1 (-2147483648) 2147483647 := rl_i2l ez270_1 (rg_any r267_1)
      refine lv_ladd hx hb dX5_step_271 ?_
      refine lv_topl (fun z271_1 ez271_1 => ?_)
      refine lv_iload_n hx hb dX5_step_272 rfl (lv_at hl 4 rfl) ?_
      refine go_i (k1 := 0) (n1 := 0) (wr := [(k0, .inr (6, [.ref k0c, .ref k0l, .int x_k0_2])), (k0l, .inl (ct 1, 16, .inl g_k0l)), (k0c, .inl (ct 0, 4096, .inl g_k0c)), (m0s, .inl (ct 0, 64, .inl g_m0s)), (o0, .inr (5, [.ref o0r, .int x_o0_1])), (o0r, .inl (ct 1, 60000, .inl g_o0r)), (m0, .inr (4, [.ref m0r, .ref m0s, .ref k0, .int x_m0_3, .int x_m0_4, .int x_m0_5, .int x_m0_6, .int x_m0_7, .long x_m0_8, .int x_m0_9])), (m0r, .inl (ct 2, 32, .inr (.inl g_m0r)))]) [] [0, 1, 2, 3, 4, 5, 6, 7] (rn_S (As := [.int r5_1]) (rest := [.long z271_1, .ref m0]) (c_X5_middlePart l D ct r5_1  _) (cb_of (n := 1) hn mw_1425 mw_5 mw_1423 mhX5_middlePart ⟨(Nat.le_of_ble_eq_true rfl), (Nat.le_of_ble_eq_true rfl)⟩) hx hb hml hown hn hK hSK hZ hS mw_1424 rfl hl.1 (Nat.le_of_ble_eq_true rfl) dX5_step_273 ⟨(Nat.le_of_ble_eq_true rfl), (Nat.le_of_ble_eq_true rfl)⟩) hP hD hS hA rfl rfl (by decide) (by decide) (by decide) (Nat.le_of_ble_eq_true rfl) (Nat.le_of_ble_eq_true rfl) (fun r273_1 u273_2 H locs hp273_3 hP hD hS => ?_)
      have hp273_4 := hp273_3
      have hp273_4 : rg r273_1 0 7 := hp273_4
      have hP : va_P D vwCl [(k0, .inr (6, [.ref k0c, .ref k0l, .int x_k0_2])), (k0l, .inl (ct 1, 16, .inl g_k0l)), (k0c, .inl (ct 0, 4096, .inl g_k0c)), (m0s, .inl (ct 0, 64, .inl g_m0s)), (o0, .inr (5, [.ref o0r, .int x_o0_1])), (o0r, .inl (ct 1, 60000, .inl g_o0r)), (m0, .inr (4, [.ref m0r, .ref m0s, .ref k0, .int x_m0_3, .int x_m0_4, .int x_m0_5, .int x_m0_6, .int x_m0_7, .long x_m0_8, .int x_m0_9])), (m0r, .inl (ct 2, 32, .inr (.inl g_m0r)))] _ := hP
      have hD : va_D A [(k0, .inr (6, [.ref k0c, .ref k0l, .int x_k0_2])), (k0l, .inl (ct 1, 16, .inl g_k0l)), (k0c, .inl (ct 0, 4096, .inl g_k0c)), (m0s, .inl (ct 0, 64, .inl g_m0s)), (o0, .inr (5, [.ref o0r, .int x_o0_1])), (o0r, .inl (ct 1, 60000, .inl g_o0r)), (m0, .inr (4, [.ref m0r, .ref m0s, .ref k0, .int x_m0_3, .int x_m0_4, .int x_m0_5, .int x_m0_6, .int x_m0_7, .long x_m0_8, .int x_m0_9])), (m0r, .inl (ct 2, 32, .inr (.inl g_m0r)))] := hD
      refine lv_lload hx hb dX5_step_276 (lv_at hl 1 rfl) ?_
      refine go_v (k1 := 0) (n1 := 0) (wr := [(k0, .inr (6, [.ref k0c, .ref k0l, .int x_k0_2])), (k0l, .inl (ct 1, 16, .inl g_k0l)), (k0c, .inl (ct 0, 4096, .inl g_k0c)), (o0, .inr (5, [.ref o0r, .int x_o0_1])), (o0r, .inl (ct 1, 60000, .inl g_o0r)), (m0r, .inl (ct 2, 32, .inr (.inl g_m0r)))]) [6, 3] [0, 1, 2, 4, 5, 7] (rn_S (As := [.ref m0, .long z271_1, .int r273_1, .long r51_1]) (rest := []) (c_X5_keepInMemory l D ct m0 z271_1 r273_1 r51_1 m0r m0s k0 x_m0_3 x_m0_4 x_m0_5 x_m0_6 x_m0_7 x_m0_8 x_m0_9 g_m0s h_x_m0_9 h_g_m0s _) (cb_of (n := 4) hn mw_1465 mw_5 mw_1463 mhX5_keepInMemory ⟨(Nat.le_of_ble_eq_true rfl), (Nat.le_of_ble_eq_true rfl)⟩) hx hb hml hown hn hK hSK hZ hS mw_1464 rfl hl.1 (Nat.le_of_ble_eq_true rfl) dX5_step_278 ⟨(Nat.le_of_ble_eq_true rfl), (Nat.le_of_ble_eq_true rfl)⟩) hP hD hS hA rfl rfl (by decide) (by decide) (by decide) (Nat.le_of_ble_eq_true rfl) (Nat.le_of_ble_eq_true rfl) (fun u278_2 H locs hp278_3 hP hD hS => ?_)
      obtain ⟨y_m0_5278_4, y_m0_9278_5, k_m0s278_6⟩ := u278_2
      obtain ⟨hp278_7, hp278_8⟩ := hp278_3
      have hp278_7 : rg y_m0_9278_5 0 1 := hp278_7
      have hP : va_P D vwCl [(k0, .inr (6, [.ref k0c, .ref k0l, .int x_k0_2])), (k0l, .inl (ct 1, 16, .inl g_k0l)), (k0c, .inl (ct 0, 4096, .inl g_k0c)), (o0, .inr (5, [.ref o0r, .int x_o0_1])), (o0r, .inl (ct 1, 60000, .inl g_o0r)), (m0r, .inl (ct 2, 32, .inr (.inl g_m0r))), (m0, .inr (4, [.ref m0r, .ref m0s, .ref k0, .int x_m0_3, .int x_m0_4, .int y_m0_5278_4, .int x_m0_6, .int x_m0_7, .long x_m0_8, .int y_m0_9278_5])), (m0s, .inl (ct 0, 64, .inl k_m0s278_6))] _ := hP
      have hD : va_D A [(k0, .inr (6, [.ref k0c, .ref k0l, .int x_k0_2])), (k0l, .inl (ct 1, 16, .inl g_k0l)), (k0c, .inl (ct 0, 4096, .inl g_k0c)), (o0, .inr (5, [.ref o0r, .int x_o0_1])), (o0r, .inl (ct 1, 60000, .inl g_o0r)), (m0r, .inl (ct 2, 32, .inr (.inl g_m0r))), (m0, .inr (4, [.ref m0r, .ref m0s, .ref k0, .int x_m0_3, .int x_m0_4, .int y_m0_5278_4, .int x_m0_6, .int x_m0_7, .long x_m0_8, .int y_m0_9278_5])), (m0s, .inl (ct 0, 64, .inl k_m0s278_6))] := hD
      refine lv_goto (tgt := 381) hx hb dX5_step_281 (by decide) ?_
      exact endq_v hQ hx hb hr hlocks dX5_step_381 (y_m0_5278_4, x_m0_8, y_m0_9278_5, g_m0r, k_m0s278_6) ⟨hp278_7, hp278_8⟩ hP hD hS [3, 6, 4, 5, 0, 1, 2, 7] rfl (by decide) rfl (Nat.le_of_ble_eq_true rfl) (Nat.le_of_ble_eq_true rfl)
    by_cases h67_141 : z66_1.toInt = 51
    · have r67_142 : rg z66_1 51 51 := rg_at h67_141
      refine lv_lookup (off := 240) (tgt := 307) hx hb dX5_step_67 (by decide) (by rw [h67_141]; rfl) (by decide) ?_
      refine lv_aload_n hx hb dX5_step_307 rfl (lv_at hl 6 rfl) ?_
      refine lv_iload_n hx hb dX5_step_308 rfl (lv_at hl 3 rfl) ?_
      refine lv_iload_n hx hb dX5_step_309 rfl (lv_at hl 4 rfl) ?_
      refine go_i (k1 := 0) (n1 := 0) (wr := [(k0, .inr (6, [.ref k0c, .ref k0l, .int x_k0_2])), (k0l, .inl (ct 1, 16, .inl g_k0l)), (k0c, .inl (ct 0, 4096, .inl g_k0c)), (m0s, .inl (ct 0, 64, .inl g_m0s)), (o0, .inr (5, [.ref o0r, .int x_o0_1])), (o0r, .inl (ct 1, 60000, .inl g_o0r)), (m0, .inr (4, [.ref m0r, .ref m0s, .ref k0, .int x_m0_3, .int x_m0_4, .int x_m0_5, .int x_m0_6, .int x_m0_7, .long x_m0_8, .int x_m0_9])), (m0r, .inl (ct 2, 32, .inr (.inl g_m0r)))]) [] [0, 1, 2, 3, 4, 5, 6, 7] (rn_S (As := [.int r5_1]) (rest := [.int z28_1, .ref m0]) (c_X5_middlePart l D ct r5_1  _) (cb_of (n := 1) hn mw_1425 mw_5 mw_1423 mhX5_middlePart ⟨(Nat.le_of_ble_eq_true rfl), (Nat.le_of_ble_eq_true rfl)⟩) hx hb hml hown hn hK hSK hZ hS mw_1424 rfl hl.1 (Nat.le_of_ble_eq_true rfl) dX5_step_310 ⟨(Nat.le_of_ble_eq_true rfl), (Nat.le_of_ble_eq_true rfl)⟩) hP hD hS hA rfl rfl (by decide) (by decide) (by decide) (Nat.le_of_ble_eq_true rfl) (Nat.le_of_ble_eq_true rfl) (fun r310_1 u310_2 H locs hp310_3 hP hD hS => ?_)
      have hp310_4 := hp310_3
      have hp310_4 : rg r310_1 0 7 := hp310_4
      have hP : va_P D vwCl [(k0, .inr (6, [.ref k0c, .ref k0l, .int x_k0_2])), (k0l, .inl (ct 1, 16, .inl g_k0l)), (k0c, .inl (ct 0, 4096, .inl g_k0c)), (m0s, .inl (ct 0, 64, .inl g_m0s)), (o0, .inr (5, [.ref o0r, .int x_o0_1])), (o0r, .inl (ct 1, 60000, .inl g_o0r)), (m0, .inr (4, [.ref m0r, .ref m0s, .ref k0, .int x_m0_3, .int x_m0_4, .int x_m0_5, .int x_m0_6, .int x_m0_7, .long x_m0_8, .int x_m0_9])), (m0r, .inl (ct 2, 32, .inr (.inl g_m0r)))] _ := hP
      have hD : va_D A [(k0, .inr (6, [.ref k0c, .ref k0l, .int x_k0_2])), (k0l, .inl (ct 1, 16, .inl g_k0l)), (k0c, .inl (ct 0, 4096, .inl g_k0c)), (m0s, .inl (ct 0, 64, .inl g_m0s)), (o0, .inr (5, [.ref o0r, .int x_o0_1])), (o0r, .inl (ct 1, 60000, .inl g_o0r)), (m0, .inr (4, [.ref m0r, .ref m0s, .ref k0, .int x_m0_3, .int x_m0_4, .int x_m0_5, .int x_m0_6, .int x_m0_7, .long x_m0_8, .int x_m0_9])), (m0r, .inl (ct 2, 32, .inr (.inl g_m0r)))] := hD
      refine lv_iload_n hx hb dX5_step_313 rfl (lv_at hl 4 rfl) ?_
      refine go_i (k1 := 0) (n1 := 0) (wr := [(k0, .inr (6, [.ref k0c, .ref k0l, .int x_k0_2])), (k0l, .inl (ct 1, 16, .inl g_k0l)), (k0c, .inl (ct 0, 4096, .inl g_k0c)), (m0s, .inl (ct 0, 64, .inl g_m0s)), (o0, .inr (5, [.ref o0r, .int x_o0_1])), (o0r, .inl (ct 1, 60000, .inl g_o0r)), (m0, .inr (4, [.ref m0r, .ref m0s, .ref k0, .int x_m0_3, .int x_m0_4, .int x_m0_5, .int x_m0_6, .int x_m0_7, .long x_m0_8, .int x_m0_9])), (m0r, .inl (ct 2, 32, .inr (.inl g_m0r)))]) [] [0, 1, 2, 3, 4, 5, 6, 7] (rn_S (As := [.int r5_1]) (rest := [.int r310_1, .int z28_1, .ref m0]) (c_X5_highPart l D ct r5_1  _) (cb_of (n := 1) hn mw_1428 mw_5 mw_1426 mhX5_highPart ⟨(Nat.le_of_ble_eq_true rfl), (Nat.le_of_ble_eq_true rfl)⟩) hx hb hml hown hn hK hSK hZ hS mw_1427 rfl hl.1 (Nat.le_of_ble_eq_true rfl) dX5_step_314 ⟨(Nat.le_of_ble_eq_true rfl), (Nat.le_of_ble_eq_true rfl)⟩) hP hD hS hA rfl rfl (by decide) (by decide) (by decide) (Nat.le_of_ble_eq_true rfl) (Nat.le_of_ble_eq_true rfl) (fun r314_1 u314_2 H locs hp314_3 hP hD hS => ?_)
      have hp314_4 := hp314_3
      have hp314_4 : rg r314_1 0 127 := hp314_4
      have hP : va_P D vwCl [(k0, .inr (6, [.ref k0c, .ref k0l, .int x_k0_2])), (k0l, .inl (ct 1, 16, .inl g_k0l)), (k0c, .inl (ct 0, 4096, .inl g_k0c)), (m0s, .inl (ct 0, 64, .inl g_m0s)), (o0, .inr (5, [.ref o0r, .int x_o0_1])), (o0r, .inl (ct 1, 60000, .inl g_o0r)), (m0, .inr (4, [.ref m0r, .ref m0s, .ref k0, .int x_m0_3, .int x_m0_4, .int x_m0_5, .int x_m0_6, .int x_m0_7, .long x_m0_8, .int x_m0_9])), (m0r, .inl (ct 2, 32, .inr (.inl g_m0r)))] _ := hP
      have hD : va_D A [(k0, .inr (6, [.ref k0c, .ref k0l, .int x_k0_2])), (k0l, .inl (ct 1, 16, .inl g_k0l)), (k0c, .inl (ct 0, 4096, .inl g_k0c)), (m0s, .inl (ct 0, 64, .inl g_m0s)), (o0, .inr (5, [.ref o0r, .int x_o0_1])), (o0r, .inl (ct 1, 60000, .inl g_o0r)), (m0, .inr (4, [.ref m0r, .ref m0s, .ref k0, .int x_m0_3, .int x_m0_4, .int x_m0_5, .int x_m0_6, .int x_m0_7, .long x_m0_8, .int x_m0_9])), (m0r, .inl (ct 2, 32, .inr (.inl g_m0r)))] := hD
      refine lv_lload hx hb dX5_step_317 (lv_at hl 2 rfl) ?_
      refine lv_lload hx hb dX5_step_319 (lv_at hl 1 rfl) ?_
      refine go_l (k1 := 0) (n1 := 0) (wr := [(k0, .inr (6, [.ref k0c, .ref k0l, .int x_k0_2])), (k0l, .inl (ct 1, 16, .inl g_k0l)), (k0c, .inl (ct 0, 4096, .inl g_k0c)), (m0s, .inl (ct 0, 64, .inl g_m0s)), (o0, .inr (5, [.ref o0r, .int x_o0_1])), (o0r, .inl (ct 1, 60000, .inl g_o0r)), (m0, .inr (4, [.ref m0r, .ref m0s, .ref k0, .int x_m0_3, .int x_m0_4, .int x_m0_5, .int x_m0_6, .int x_m0_7, .long x_m0_8, .int x_m0_9])), (m0r, .inl (ct 2, 32, .inr (.inl g_m0r)))]) [] [0, 1, 2, 3, 4, 5, 6, 7] (rn_S (As := [.int r310_1, .int r314_1, .long r38_1, .long r51_1]) (rest := [.int z28_1, .ref m0]) (c_X5_made l D ct r310_1 r314_1 r38_1 r51_1  _) (cb_of (n := 4) hn mw_1472 mw_5 mw_1470 mhX5_made ⟨(Nat.le_of_ble_eq_true rfl), (Nat.le_of_ble_eq_true rfl)⟩) hx hb hml hown hn hK hSK hZ hS mw_1471 rfl hl.1 (Nat.le_of_ble_eq_true rfl) dX5_step_321 ⟨(Nat.le_of_ble_eq_true rfl), (Nat.le_of_ble_eq_true rfl)⟩) hP hD hS hA rfl rfl (by decide) (by decide) (by decide) (Nat.le_of_ble_eq_true rfl) (Nat.le_of_ble_eq_true rfl) (fun r321_1 u321_2 H locs hp321_3 hP hD hS => ?_)
      have hP : va_P D vwCl [(k0, .inr (6, [.ref k0c, .ref k0l, .int x_k0_2])), (k0l, .inl (ct 1, 16, .inl g_k0l)), (k0c, .inl (ct 0, 4096, .inl g_k0c)), (m0s, .inl (ct 0, 64, .inl g_m0s)), (o0, .inr (5, [.ref o0r, .int x_o0_1])), (o0r, .inl (ct 1, 60000, .inl g_o0r)), (m0, .inr (4, [.ref m0r, .ref m0s, .ref k0, .int x_m0_3, .int x_m0_4, .int x_m0_5, .int x_m0_6, .int x_m0_7, .long x_m0_8, .int x_m0_9])), (m0r, .inl (ct 2, 32, .inr (.inl g_m0r)))] _ := hP
      have hD : va_D A [(k0, .inr (6, [.ref k0c, .ref k0l, .int x_k0_2])), (k0l, .inl (ct 1, 16, .inl g_k0l)), (k0c, .inl (ct 0, 4096, .inl g_k0c)), (m0s, .inl (ct 0, 64, .inl g_m0s)), (o0, .inr (5, [.ref o0r, .int x_o0_1])), (o0r, .inl (ct 1, 60000, .inl g_o0r)), (m0, .inr (4, [.ref m0r, .ref m0s, .ref k0, .int x_m0_3, .int x_m0_4, .int x_m0_5, .int x_m0_6, .int x_m0_7, .long x_m0_8, .int x_m0_9])), (m0r, .inl (ct 2, 32, .inr (.inl g_m0r)))] := hD
      refine go_v (k1 := 0) (n1 := 0) (wr := [(k0, .inr (6, [.ref k0c, .ref k0l, .int x_k0_2])), (k0l, .inl (ct 1, 16, .inl g_k0l)), (k0c, .inl (ct 0, 4096, .inl g_k0c)), (m0s, .inl (ct 0, 64, .inl g_m0s)), (o0, .inr (5, [.ref o0r, .int x_o0_1])), (o0r, .inl (ct 1, 60000, .inl g_o0r))]) [6, 7] [0, 1, 2, 3, 4, 5] (rn_S (As := [.ref m0, .int z28_1, .long r321_1]) (rest := []) (c_X5_keep l D ct m0 z28_1 r321_1 m0r m0s k0 x_m0_3 x_m0_4 x_m0_5 x_m0_6 x_m0_7 x_m0_8 x_m0_9 g_m0r h_x_m0_9 _) (cb_of (n := 3) hn mw_1432 mw_5 mw_1430 mhX5_keep ⟨(Nat.le_of_ble_eq_true rfl), (Nat.le_of_ble_eq_true rfl)⟩) hx hb hml hown hn hK hSK hZ hS mw_1431 rfl hl.1 (Nat.le_of_ble_eq_true rfl) dX5_step_324 ⟨(Nat.le_of_ble_eq_true rfl), (Nat.le_of_ble_eq_true rfl)⟩) hP hD hS hA rfl rfl (by decide) (by decide) (by decide) (Nat.le_of_ble_eq_true rfl) (Nat.le_of_ble_eq_true rfl) (fun u324_2 H locs hp324_3 hP hD hS => ?_)
      have hP : va_P D vwCl [(k0, .inr (6, [.ref k0c, .ref k0l, .int x_k0_2])), (k0l, .inl (ct 1, 16, .inl g_k0l)), (k0c, .inl (ct 0, 4096, .inl g_k0c)), (m0s, .inl (ct 0, 64, .inl g_m0s)), (o0, .inr (5, [.ref o0r, .int x_o0_1])), (o0r, .inl (ct 1, 60000, .inl g_o0r)), (m0, .inr (4, [.ref m0r, .ref m0s, .ref k0, .int x_m0_3, .int x_m0_4, .int x_m0_5, .int x_m0_6, .int x_m0_7, .long x_m0_8, .int x_m0_9])), (m0r, .inl (ct 2, 32, .inr (.inl u324_2)))] _ := hP
      have hD : va_D A [(k0, .inr (6, [.ref k0c, .ref k0l, .int x_k0_2])), (k0l, .inl (ct 1, 16, .inl g_k0l)), (k0c, .inl (ct 0, 4096, .inl g_k0c)), (m0s, .inl (ct 0, 64, .inl g_m0s)), (o0, .inr (5, [.ref o0r, .int x_o0_1])), (o0r, .inl (ct 1, 60000, .inl g_o0r)), (m0, .inr (4, [.ref m0r, .ref m0s, .ref k0, .int x_m0_3, .int x_m0_4, .int x_m0_5, .int x_m0_6, .int x_m0_7, .long x_m0_8, .int x_m0_9])), (m0r, .inl (ct 2, 32, .inr (.inl u324_2)))] := hD
      refine lv_goto (tgt := 381) hx hb dX5_step_327 (by decide) ?_
      exact endq_v hQ hx hb hr hlocks dX5_step_381 (x_m0_5, x_m0_8, x_m0_9, u324_2, g_m0s) ⟨h_x_m0_9, h_g_m0s⟩ hP hD hS [4, 6, 5, 7, 0, 1, 2, 3] rfl (by decide) rfl (Nat.le_of_ble_eq_true rfl) (Nat.le_of_ble_eq_true rfl)
    by_cases h67_151 : z66_1.toInt = 55
    · have r67_152 : rg z66_1 55 55 := rg_at h67_151
      refine lv_lookup (off := 89) (tgt := 156) hx hb dX5_step_67 (by decide) (by rw [h67_151]; rfl) (by decide) ?_
      refine lv_aload_n hx hb dX5_step_156 rfl (lv_at hl 6 rfl) ?_
      refine lv_iload_n hx hb dX5_step_157 rfl (lv_at hl 3 rfl) ?_
      refine lv_iload_n hx hb dX5_step_158 rfl (lv_at hl 4 rfl) ?_
      refine lv_sipush (v := (-4096)) hx hb dX5_step_159 (by decide) ?_
      refine lv_iand hx hb dX5_step_162 ?_
      refine lv_topi (fun z162_1 ez162_1 => ?_)
      refine lv_i2l hx hb dX5_step_163 rfl ?_
      refine lv_topl (fun z163_1 ez163_1 => ?_)
      have r163_2 : rl z163_1 (-2147483648) 2147483647 := rl_i2l ez163_1 (rg_any z162_1)
      refine go_v (k1 := 0) (n1 := 0) (wr := [(k0, .inr (6, [.ref k0c, .ref k0l, .int x_k0_2])), (k0l, .inl (ct 1, 16, .inl g_k0l)), (k0c, .inl (ct 0, 4096, .inl g_k0c)), (m0s, .inl (ct 0, 64, .inl g_m0s)), (o0, .inr (5, [.ref o0r, .int x_o0_1])), (o0r, .inl (ct 1, 60000, .inl g_o0r))]) [6, 7] [0, 1, 2, 3, 4, 5] (rn_S (As := [.ref m0, .int z28_1, .long z163_1]) (rest := []) (c_X5_keep l D ct m0 z28_1 z163_1 m0r m0s k0 x_m0_3 x_m0_4 x_m0_5 x_m0_6 x_m0_7 x_m0_8 x_m0_9 g_m0r h_x_m0_9 _) (cb_of (n := 3) hn mw_1432 mw_5 mw_1430 mhX5_keep ⟨(Nat.le_of_ble_eq_true rfl), (Nat.le_of_ble_eq_true rfl)⟩) hx hb hml hown hn hK hSK hZ hS mw_1431 rfl hl.1 (Nat.le_of_ble_eq_true rfl) dX5_step_164 ⟨(Nat.le_of_ble_eq_true rfl), (Nat.le_of_ble_eq_true rfl)⟩) hP hD hS hA rfl rfl (by decide) (by decide) (by decide) (Nat.le_of_ble_eq_true rfl) (Nat.le_of_ble_eq_true rfl) (fun u164_2 H locs hp164_3 hP hD hS => ?_)
      have hP : va_P D vwCl [(k0, .inr (6, [.ref k0c, .ref k0l, .int x_k0_2])), (k0l, .inl (ct 1, 16, .inl g_k0l)), (k0c, .inl (ct 0, 4096, .inl g_k0c)), (m0s, .inl (ct 0, 64, .inl g_m0s)), (o0, .inr (5, [.ref o0r, .int x_o0_1])), (o0r, .inl (ct 1, 60000, .inl g_o0r)), (m0, .inr (4, [.ref m0r, .ref m0s, .ref k0, .int x_m0_3, .int x_m0_4, .int x_m0_5, .int x_m0_6, .int x_m0_7, .long x_m0_8, .int x_m0_9])), (m0r, .inl (ct 2, 32, .inr (.inl u164_2)))] _ := hP
      have hD : va_D A [(k0, .inr (6, [.ref k0c, .ref k0l, .int x_k0_2])), (k0l, .inl (ct 1, 16, .inl g_k0l)), (k0c, .inl (ct 0, 4096, .inl g_k0c)), (m0s, .inl (ct 0, 64, .inl g_m0s)), (o0, .inr (5, [.ref o0r, .int x_o0_1])), (o0r, .inl (ct 1, 60000, .inl g_o0r)), (m0, .inr (4, [.ref m0r, .ref m0s, .ref k0, .int x_m0_3, .int x_m0_4, .int x_m0_5, .int x_m0_6, .int x_m0_7, .long x_m0_8, .int x_m0_9])), (m0r, .inl (ct 2, 32, .inr (.inl u164_2)))] := hD
      refine lv_goto (tgt := 381) hx hb dX5_step_167 (by decide) ?_
      exact endq_v hQ hx hb hr hlocks dX5_step_381 (x_m0_5, x_m0_8, x_m0_9, u164_2, g_m0s) ⟨h_x_m0_9, h_g_m0s⟩ hP hD hS [4, 6, 5, 7, 0, 1, 2, 3] rfl (by decide) rfl (Nat.le_of_ble_eq_true rfl) (Nat.le_of_ble_eq_true rfl)
    by_cases h67_161 : z66_1.toInt = 59
    · have r67_162 : rg z66_1 59 59 := rg_at h67_161
      refine lv_lookup (off := 286) (tgt := 353) hx hb dX5_step_67 (by decide) (by rw [h67_161]; rfl) (by decide) ?_
      refine lv_aload_n hx hb dX5_step_353 rfl (lv_at hl 6 rfl) ?_
      refine lv_iload_n hx hb dX5_step_354 rfl (lv_at hl 3 rfl) ?_
      refine lv_iload_n hx hb dX5_step_355 rfl (lv_at hl 4 rfl) ?_
      refine go_i (k1 := 0) (n1 := 0) (wr := [(k0, .inr (6, [.ref k0c, .ref k0l, .int x_k0_2])), (k0l, .inl (ct 1, 16, .inl g_k0l)), (k0c, .inl (ct 0, 4096, .inl g_k0c)), (m0s, .inl (ct 0, 64, .inl g_m0s)), (o0, .inr (5, [.ref o0r, .int x_o0_1])), (o0r, .inl (ct 1, 60000, .inl g_o0r)), (m0, .inr (4, [.ref m0r, .ref m0s, .ref k0, .int x_m0_3, .int x_m0_4, .int x_m0_5, .int x_m0_6, .int x_m0_7, .long x_m0_8, .int x_m0_9])), (m0r, .inl (ct 2, 32, .inr (.inl g_m0r)))]) [] [0, 1, 2, 3, 4, 5, 6, 7] (rn_S (As := [.int r5_1]) (rest := [.int z28_1, .ref m0]) (c_X5_middlePart l D ct r5_1  _) (cb_of (n := 1) hn mw_1425 mw_5 mw_1423 mhX5_middlePart ⟨(Nat.le_of_ble_eq_true rfl), (Nat.le_of_ble_eq_true rfl)⟩) hx hb hml hown hn hK hSK hZ hS mw_1424 rfl hl.1 (Nat.le_of_ble_eq_true rfl) dX5_step_356 ⟨(Nat.le_of_ble_eq_true rfl), (Nat.le_of_ble_eq_true rfl)⟩) hP hD hS hA rfl rfl (by decide) (by decide) (by decide) (Nat.le_of_ble_eq_true rfl) (Nat.le_of_ble_eq_true rfl) (fun r356_1 u356_2 H locs hp356_3 hP hD hS => ?_)
      have hp356_4 := hp356_3
      have hp356_4 : rg r356_1 0 7 := hp356_4
      have hP : va_P D vwCl [(k0, .inr (6, [.ref k0c, .ref k0l, .int x_k0_2])), (k0l, .inl (ct 1, 16, .inl g_k0l)), (k0c, .inl (ct 0, 4096, .inl g_k0c)), (m0s, .inl (ct 0, 64, .inl g_m0s)), (o0, .inr (5, [.ref o0r, .int x_o0_1])), (o0r, .inl (ct 1, 60000, .inl g_o0r)), (m0, .inr (4, [.ref m0r, .ref m0s, .ref k0, .int x_m0_3, .int x_m0_4, .int x_m0_5, .int x_m0_6, .int x_m0_7, .long x_m0_8, .int x_m0_9])), (m0r, .inl (ct 2, 32, .inr (.inl g_m0r)))] _ := hP
      have hD : va_D A [(k0, .inr (6, [.ref k0c, .ref k0l, .int x_k0_2])), (k0l, .inl (ct 1, 16, .inl g_k0l)), (k0c, .inl (ct 0, 4096, .inl g_k0c)), (m0s, .inl (ct 0, 64, .inl g_m0s)), (o0, .inr (5, [.ref o0r, .int x_o0_1])), (o0r, .inl (ct 1, 60000, .inl g_o0r)), (m0, .inr (4, [.ref m0r, .ref m0s, .ref k0, .int x_m0_3, .int x_m0_4, .int x_m0_5, .int x_m0_6, .int x_m0_7, .long x_m0_8, .int x_m0_9])), (m0r, .inl (ct 2, 32, .inr (.inl g_m0r)))] := hD
      refine lv_iload_n hx hb dX5_step_359 rfl (lv_at hl 4 rfl) ?_
      refine go_i (k1 := 0) (n1 := 0) (wr := [(k0, .inr (6, [.ref k0c, .ref k0l, .int x_k0_2])), (k0l, .inl (ct 1, 16, .inl g_k0l)), (k0c, .inl (ct 0, 4096, .inl g_k0c)), (m0s, .inl (ct 0, 64, .inl g_m0s)), (o0, .inr (5, [.ref o0r, .int x_o0_1])), (o0r, .inl (ct 1, 60000, .inl g_o0r)), (m0, .inr (4, [.ref m0r, .ref m0s, .ref k0, .int x_m0_3, .int x_m0_4, .int x_m0_5, .int x_m0_6, .int x_m0_7, .long x_m0_8, .int x_m0_9])), (m0r, .inl (ct 2, 32, .inr (.inl g_m0r)))]) [] [0, 1, 2, 3, 4, 5, 6, 7] (rn_S (As := [.int r5_1]) (rest := [.int r356_1, .int z28_1, .ref m0]) (c_X5_highPart l D ct r5_1  _) (cb_of (n := 1) hn mw_1428 mw_5 mw_1426 mhX5_highPart ⟨(Nat.le_of_ble_eq_true rfl), (Nat.le_of_ble_eq_true rfl)⟩) hx hb hml hown hn hK hSK hZ hS mw_1427 rfl hl.1 (Nat.le_of_ble_eq_true rfl) dX5_step_360 ⟨(Nat.le_of_ble_eq_true rfl), (Nat.le_of_ble_eq_true rfl)⟩) hP hD hS hA rfl rfl (by decide) (by decide) (by decide) (Nat.le_of_ble_eq_true rfl) (Nat.le_of_ble_eq_true rfl) (fun r360_1 u360_2 H locs hp360_3 hP hD hS => ?_)
      have hp360_4 := hp360_3
      have hp360_4 : rg r360_1 0 127 := hp360_4
      have hP : va_P D vwCl [(k0, .inr (6, [.ref k0c, .ref k0l, .int x_k0_2])), (k0l, .inl (ct 1, 16, .inl g_k0l)), (k0c, .inl (ct 0, 4096, .inl g_k0c)), (m0s, .inl (ct 0, 64, .inl g_m0s)), (o0, .inr (5, [.ref o0r, .int x_o0_1])), (o0r, .inl (ct 1, 60000, .inl g_o0r)), (m0, .inr (4, [.ref m0r, .ref m0s, .ref k0, .int x_m0_3, .int x_m0_4, .int x_m0_5, .int x_m0_6, .int x_m0_7, .long x_m0_8, .int x_m0_9])), (m0r, .inl (ct 2, 32, .inr (.inl g_m0r)))] _ := hP
      have hD : va_D A [(k0, .inr (6, [.ref k0c, .ref k0l, .int x_k0_2])), (k0l, .inl (ct 1, 16, .inl g_k0l)), (k0c, .inl (ct 0, 4096, .inl g_k0c)), (m0s, .inl (ct 0, 64, .inl g_m0s)), (o0, .inr (5, [.ref o0r, .int x_o0_1])), (o0r, .inl (ct 1, 60000, .inl g_o0r)), (m0, .inr (4, [.ref m0r, .ref m0s, .ref k0, .int x_m0_3, .int x_m0_4, .int x_m0_5, .int x_m0_6, .int x_m0_7, .long x_m0_8, .int x_m0_9])), (m0r, .inl (ct 2, 32, .inr (.inl g_m0r)))] := hD
      refine lv_lload hx hb dX5_step_363 (lv_at hl 2 rfl) ?_
      refine lv_lload hx hb dX5_step_365 (lv_at hl 1 rfl) ?_
      refine go_l (k1 := 0) (n1 := 0) (wr := [(k0, .inr (6, [.ref k0c, .ref k0l, .int x_k0_2])), (k0l, .inl (ct 1, 16, .inl g_k0l)), (k0c, .inl (ct 0, 4096, .inl g_k0c)), (m0s, .inl (ct 0, 64, .inl g_m0s)), (o0, .inr (5, [.ref o0r, .int x_o0_1])), (o0r, .inl (ct 1, 60000, .inl g_o0r)), (m0, .inr (4, [.ref m0r, .ref m0s, .ref k0, .int x_m0_3, .int x_m0_4, .int x_m0_5, .int x_m0_6, .int x_m0_7, .long x_m0_8, .int x_m0_9])), (m0r, .inl (ct 2, 32, .inr (.inl g_m0r)))]) [] [0, 1, 2, 3, 4, 5, 6, 7] (rn_S (As := [.int r356_1, .int r360_1, .long r38_1, .long r51_1]) (rest := [.int z28_1, .ref m0]) (c_X5_made32 l D ct r356_1 r360_1 r38_1 r51_1  _) (cb_of (n := 4) hn mw_1480 mw_5 mw_1478 mhX5_made32 ⟨(Nat.le_of_ble_eq_true rfl), (Nat.le_of_ble_eq_true rfl)⟩) hx hb hml hown hn hK hSK hZ hS mw_1479 rfl hl.1 (Nat.le_of_ble_eq_true rfl) dX5_step_367 ⟨(Nat.le_of_ble_eq_true rfl), (Nat.le_of_ble_eq_true rfl)⟩) hP hD hS hA rfl rfl (by decide) (by decide) (by decide) (Nat.le_of_ble_eq_true rfl) (Nat.le_of_ble_eq_true rfl) (fun r367_1 u367_2 H locs hp367_3 hP hD hS => ?_)
      have hp367_4 := hp367_3
      have hp367_4 : rl r367_1 (-2147483648) 2147483647 := hp367_4
      have hP : va_P D vwCl [(k0, .inr (6, [.ref k0c, .ref k0l, .int x_k0_2])), (k0l, .inl (ct 1, 16, .inl g_k0l)), (k0c, .inl (ct 0, 4096, .inl g_k0c)), (m0s, .inl (ct 0, 64, .inl g_m0s)), (o0, .inr (5, [.ref o0r, .int x_o0_1])), (o0r, .inl (ct 1, 60000, .inl g_o0r)), (m0, .inr (4, [.ref m0r, .ref m0s, .ref k0, .int x_m0_3, .int x_m0_4, .int x_m0_5, .int x_m0_6, .int x_m0_7, .long x_m0_8, .int x_m0_9])), (m0r, .inl (ct 2, 32, .inr (.inl g_m0r)))] _ := hP
      have hD : va_D A [(k0, .inr (6, [.ref k0c, .ref k0l, .int x_k0_2])), (k0l, .inl (ct 1, 16, .inl g_k0l)), (k0c, .inl (ct 0, 4096, .inl g_k0c)), (m0s, .inl (ct 0, 64, .inl g_m0s)), (o0, .inr (5, [.ref o0r, .int x_o0_1])), (o0r, .inl (ct 1, 60000, .inl g_o0r)), (m0, .inr (4, [.ref m0r, .ref m0s, .ref k0, .int x_m0_3, .int x_m0_4, .int x_m0_5, .int x_m0_6, .int x_m0_7, .long x_m0_8, .int x_m0_9])), (m0r, .inl (ct 2, 32, .inr (.inl g_m0r)))] := hD
      refine go_v (k1 := 0) (n1 := 0) (wr := [(k0, .inr (6, [.ref k0c, .ref k0l, .int x_k0_2])), (k0l, .inl (ct 1, 16, .inl g_k0l)), (k0c, .inl (ct 0, 4096, .inl g_k0c)), (m0s, .inl (ct 0, 64, .inl g_m0s)), (o0, .inr (5, [.ref o0r, .int x_o0_1])), (o0r, .inl (ct 1, 60000, .inl g_o0r))]) [6, 7] [0, 1, 2, 3, 4, 5] (rn_S (As := [.ref m0, .int z28_1, .long r367_1]) (rest := []) (c_X5_keep l D ct m0 z28_1 r367_1 m0r m0s k0 x_m0_3 x_m0_4 x_m0_5 x_m0_6 x_m0_7 x_m0_8 x_m0_9 g_m0r h_x_m0_9 _) (cb_of (n := 3) hn mw_1432 mw_5 mw_1430 mhX5_keep ⟨(Nat.le_of_ble_eq_true rfl), (Nat.le_of_ble_eq_true rfl)⟩) hx hb hml hown hn hK hSK hZ hS mw_1431 rfl hl.1 (Nat.le_of_ble_eq_true rfl) dX5_step_370 ⟨(Nat.le_of_ble_eq_true rfl), (Nat.le_of_ble_eq_true rfl)⟩) hP hD hS hA rfl rfl (by decide) (by decide) (by decide) (Nat.le_of_ble_eq_true rfl) (Nat.le_of_ble_eq_true rfl) (fun u370_2 H locs hp370_3 hP hD hS => ?_)
      have hP : va_P D vwCl [(k0, .inr (6, [.ref k0c, .ref k0l, .int x_k0_2])), (k0l, .inl (ct 1, 16, .inl g_k0l)), (k0c, .inl (ct 0, 4096, .inl g_k0c)), (m0s, .inl (ct 0, 64, .inl g_m0s)), (o0, .inr (5, [.ref o0r, .int x_o0_1])), (o0r, .inl (ct 1, 60000, .inl g_o0r)), (m0, .inr (4, [.ref m0r, .ref m0s, .ref k0, .int x_m0_3, .int x_m0_4, .int x_m0_5, .int x_m0_6, .int x_m0_7, .long x_m0_8, .int x_m0_9])), (m0r, .inl (ct 2, 32, .inr (.inl u370_2)))] _ := hP
      have hD : va_D A [(k0, .inr (6, [.ref k0c, .ref k0l, .int x_k0_2])), (k0l, .inl (ct 1, 16, .inl g_k0l)), (k0c, .inl (ct 0, 4096, .inl g_k0c)), (m0s, .inl (ct 0, 64, .inl g_m0s)), (o0, .inr (5, [.ref o0r, .int x_o0_1])), (o0r, .inl (ct 1, 60000, .inl g_o0r)), (m0, .inr (4, [.ref m0r, .ref m0s, .ref k0, .int x_m0_3, .int x_m0_4, .int x_m0_5, .int x_m0_6, .int x_m0_7, .long x_m0_8, .int x_m0_9])), (m0r, .inl (ct 2, 32, .inr (.inl u370_2)))] := hD
      refine lv_goto (tgt := 381) hx hb dX5_step_373 (by decide) ?_
      exact endq_v hQ hx hb hr hlocks dX5_step_381 (x_m0_5, x_m0_8, x_m0_9, u370_2, g_m0s) ⟨h_x_m0_9, h_g_m0s⟩ hP hD hS [4, 6, 5, 7, 0, 1, 2, 3] rfl (by decide) rfl (Nat.le_of_ble_eq_true rfl) (Nat.le_of_ble_eq_true rfl)
    by_cases h67_171 : z66_1.toInt = 99
    · have r67_172 : rg z66_1 99 99 := rg_at h67_171
      refine lv_lookup (off := 143) (tgt := 210) hx hb dX5_step_67 (by decide) (by rw [h67_171]; rfl) (by decide) ?_
      refine lv_iload_n hx hb dX5_step_210 rfl (lv_at hl 4 rfl) ?_
      refine go_i (k1 := 0) (n1 := 0) (wr := [(k0, .inr (6, [.ref k0c, .ref k0l, .int x_k0_2])), (k0l, .inl (ct 1, 16, .inl g_k0l)), (k0c, .inl (ct 0, 4096, .inl g_k0c)), (m0s, .inl (ct 0, 64, .inl g_m0s)), (o0, .inr (5, [.ref o0r, .int x_o0_1])), (o0r, .inl (ct 1, 60000, .inl g_o0r)), (m0, .inr (4, [.ref m0r, .ref m0s, .ref k0, .int x_m0_3, .int x_m0_4, .int x_m0_5, .int x_m0_6, .int x_m0_7, .long x_m0_8, .int x_m0_9])), (m0r, .inl (ct 2, 32, .inr (.inl g_m0r)))]) [] [0, 1, 2, 3, 4, 5, 6, 7] (rn_S (As := [.int r5_1]) (rest := []) (c_X5_middlePart l D ct r5_1  _) (cb_of (n := 1) hn mw_1425 mw_5 mw_1423 mhX5_middlePart ⟨(Nat.le_of_ble_eq_true rfl), (Nat.le_of_ble_eq_true rfl)⟩) hx hb hml hown hn hK hSK hZ hS mw_1424 rfl hl.1 (Nat.le_of_ble_eq_true rfl) dX5_step_211 ⟨(Nat.le_of_ble_eq_true rfl), (Nat.le_of_ble_eq_true rfl)⟩) hP hD hS hA rfl rfl (by decide) (by decide) (by decide) (Nat.le_of_ble_eq_true rfl) (Nat.le_of_ble_eq_true rfl) (fun r211_1 u211_2 H locs hp211_3 hP hD hS => ?_)
      have hp211_4 := hp211_3
      have hp211_4 : rg r211_1 0 7 := hp211_4
      have hP : va_P D vwCl [(k0, .inr (6, [.ref k0c, .ref k0l, .int x_k0_2])), (k0l, .inl (ct 1, 16, .inl g_k0l)), (k0c, .inl (ct 0, 4096, .inl g_k0c)), (m0s, .inl (ct 0, 64, .inl g_m0s)), (o0, .inr (5, [.ref o0r, .int x_o0_1])), (o0r, .inl (ct 1, 60000, .inl g_o0r)), (m0, .inr (4, [.ref m0r, .ref m0s, .ref k0, .int x_m0_3, .int x_m0_4, .int x_m0_5, .int x_m0_6, .int x_m0_7, .long x_m0_8, .int x_m0_9])), (m0r, .inl (ct 2, 32, .inr (.inl g_m0r)))] _ := hP
      have hD : va_D A [(k0, .inr (6, [.ref k0c, .ref k0l, .int x_k0_2])), (k0l, .inl (ct 1, 16, .inl g_k0l)), (k0c, .inl (ct 0, 4096, .inl g_k0c)), (m0s, .inl (ct 0, 64, .inl g_m0s)), (o0, .inr (5, [.ref o0r, .int x_o0_1])), (o0r, .inl (ct 1, 60000, .inl g_o0r)), (m0, .inr (4, [.ref m0r, .ref m0s, .ref k0, .int x_m0_3, .int x_m0_4, .int x_m0_5, .int x_m0_6, .int x_m0_7, .long x_m0_8, .int x_m0_9])), (m0r, .inl (ct 2, 32, .inr (.inl g_m0r)))] := hD
      refine lv_lload hx hb dX5_step_214 (lv_at hl 2 rfl) ?_
      refine lv_lload hx hb dX5_step_216 (lv_at hl 1 rfl) ?_
      refine go_i (k1 := 0) (n1 := 0) (wr := [(k0, .inr (6, [.ref k0c, .ref k0l, .int x_k0_2])), (k0l, .inl (ct 1, 16, .inl g_k0l)), (k0c, .inl (ct 0, 4096, .inl g_k0c)), (m0s, .inl (ct 0, 64, .inl g_m0s)), (o0, .inr (5, [.ref o0r, .int x_o0_1])), (o0r, .inl (ct 1, 60000, .inl g_o0r)), (m0, .inr (4, [.ref m0r, .ref m0s, .ref k0, .int x_m0_3, .int x_m0_4, .int x_m0_5, .int x_m0_6, .int x_m0_7, .long x_m0_8, .int x_m0_9])), (m0r, .inl (ct 2, 32, .inr (.inl g_m0r)))]) [] [0, 1, 2, 3, 4, 5, 6, 7] (rn_S (As := [.int r211_1, .long r38_1, .long r51_1]) (rest := []) (c_X5_branches l D ct r211_1 r38_1 r51_1  _) (cb_of (n := 3) hn mw_1449 mw_5 mw_1447 mhX5_branches ⟨(Nat.le_of_ble_eq_true rfl), (Nat.le_of_ble_eq_true rfl)⟩) hx hb hml hown hn hK hSK hZ hS mw_1448 rfl hl.1 (Nat.le_of_ble_eq_true rfl) dX5_step_218 ⟨(Nat.le_of_ble_eq_true rfl), (Nat.le_of_ble_eq_true rfl)⟩) hP hD hS hA rfl rfl (by decide) (by decide) (by decide) (Nat.le_of_ble_eq_true rfl) (Nat.le_of_ble_eq_true rfl) (fun r218_1 u218_2 H locs hp218_3 hP hD hS => ?_)
      have hp218_4 := hp218_3
      have hp218_4 : rg r218_1 0 1 := hp218_4
      have hP : va_P D vwCl [(k0, .inr (6, [.ref k0c, .ref k0l, .int x_k0_2])), (k0l, .inl (ct 1, 16, .inl g_k0l)), (k0c, .inl (ct 0, 4096, .inl g_k0c)), (m0s, .inl (ct 0, 64, .inl g_m0s)), (o0, .inr (5, [.ref o0r, .int x_o0_1])), (o0r, .inl (ct 1, 60000, .inl g_o0r)), (m0, .inr (4, [.ref m0r, .ref m0s, .ref k0, .int x_m0_3, .int x_m0_4, .int x_m0_5, .int x_m0_6, .int x_m0_7, .long x_m0_8, .int x_m0_9])), (m0r, .inl (ct 2, 32, .inr (.inl g_m0r)))] _ := hP
      have hD : va_D A [(k0, .inr (6, [.ref k0c, .ref k0l, .int x_k0_2])), (k0l, .inl (ct 1, 16, .inl g_k0l)), (k0c, .inl (ct 0, 4096, .inl g_k0c)), (m0s, .inl (ct 0, 64, .inl g_m0s)), (o0, .inr (5, [.ref o0r, .int x_o0_1])), (o0r, .inl (ct 1, 60000, .inl g_o0r)), (m0, .inr (4, [.ref m0r, .ref m0s, .ref k0, .int x_m0_3, .int x_m0_4, .int x_m0_5, .int x_m0_6, .int x_m0_7, .long x_m0_8, .int x_m0_9])), (m0r, .inl (ct 2, 32, .inr (.inl g_m0r)))] := hD
      refine lv_if_eq (tgt := 381) hx hb dX5_step_221 (by decide) (fun c221_1 => ?_) (fun c221_1 => ?_)
      · have t221_2 := (i_eq c221_1)
        have r221_3 : rg r218_1 0 0 := rg_eqA t221_2 hp218_4 (show rg (0 : Int32) 0 0 from rg_l (by decide)) (by decide)
        exact endq_v hQ hx hb hr hlocks dX5_step_381 (x_m0_5, x_m0_8, x_m0_9, g_m0r, g_m0s) ⟨h_x_m0_9, h_g_m0s⟩ hP hD hS [4, 6, 5, 7, 0, 1, 2, 3] rfl (by decide) rfl (Nat.le_of_ble_eq_true rfl) (Nat.le_of_ble_eq_true rfl)
      · have t221_2 := (i_ne c221_1)
        have r221_3 : rg r218_1 1 1 := rg_neAl t221_2 hp218_4 (show rg (0 : Int32) 0 0 from rg_l (by decide)) (by decide)
        refine lv_aload_n hx hb dX5_step_224 rfl (lv_at hl 6 rfl) ?_
        refine lv_ldc2 (v := 4) hx hb hown (hn.get mw_1433 rfl) dX5_step_225 ?_
        refine lv_aload_n hx hb dX5_step_228 rfl (lv_at hl 6 rfl) ?_
        refine va_getN (D := D) (ci := 4) (v := .int x_m0_7) (C := RX4) (T := TX4) (N := 10) hx hb (htX4 hn) (fun _ h => h) hown hK hP 6 rfl rfl 7 (by decide) (hn.get mw_93 rfl) (fun _ h9 => h9) rfl dX5_step_229 ?_
        refine lv_i2l hx hb dX5_step_232 rfl ?_
        refine lv_topl (fun z232_1 ez232_1 => ?_)
        have r232_2 : rl z232_1 (-2147483648) 2147483647 := rl_i2l ez232_1 (rg_any x_m0_7)
        refine lv_lmul hx hb dX5_step_233 ?_
        refine lv_topl (fun z233_1 ez233_1 => ?_)
        refine lv_iload_n hx hb dX5_step_234 rfl (lv_at hl 4 rfl) ?_
        refine go_i (k1 := 0) (n1 := 0) (wr := [(k0, .inr (6, [.ref k0c, .ref k0l, .int x_k0_2])), (k0l, .inl (ct 1, 16, .inl g_k0l)), (k0c, .inl (ct 0, 4096, .inl g_k0c)), (m0s, .inl (ct 0, 64, .inl g_m0s)), (o0, .inr (5, [.ref o0r, .int x_o0_1])), (o0r, .inl (ct 1, 60000, .inl g_o0r)), (m0, .inr (4, [.ref m0r, .ref m0s, .ref k0, .int x_m0_3, .int x_m0_4, .int x_m0_5, .int x_m0_6, .int x_m0_7, .long x_m0_8, .int x_m0_9])), (m0r, .inl (ct 2, 32, .inr (.inl g_m0r)))]) [] [0, 1, 2, 3, 4, 5, 6, 7] (rn_S (As := [.int r5_1]) (rest := [.long z233_1, .ref m0]) (c_X5_branchNumber l D ct r5_1  _) (cb_of (n := 1) hn mw_1453 mw_5 mw_1451 mhX5_branchNumber ⟨(Nat.le_of_ble_eq_true rfl), (Nat.le_of_ble_eq_true rfl)⟩) hx hb hml hown hn hK hSK hZ hS mw_1452 rfl hl.1 (Nat.le_of_ble_eq_true rfl) dX5_step_235 ⟨(Nat.le_of_ble_eq_true rfl), (Nat.le_of_ble_eq_true rfl)⟩) hP hD hS hA rfl rfl (by decide) (by decide) (by decide) (Nat.le_of_ble_eq_true rfl) (Nat.le_of_ble_eq_true rfl) (fun r235_1 u235_2 H locs hp235_3 hP hD hS => ?_)
        have hP : va_P D vwCl [(k0, .inr (6, [.ref k0c, .ref k0l, .int x_k0_2])), (k0l, .inl (ct 1, 16, .inl g_k0l)), (k0c, .inl (ct 0, 4096, .inl g_k0c)), (m0s, .inl (ct 0, 64, .inl g_m0s)), (o0, .inr (5, [.ref o0r, .int x_o0_1])), (o0r, .inl (ct 1, 60000, .inl g_o0r)), (m0, .inr (4, [.ref m0r, .ref m0s, .ref k0, .int x_m0_3, .int x_m0_4, .int x_m0_5, .int x_m0_6, .int x_m0_7, .long x_m0_8, .int x_m0_9])), (m0r, .inl (ct 2, 32, .inr (.inl g_m0r)))] _ := hP
        have hD : va_D A [(k0, .inr (6, [.ref k0c, .ref k0l, .int x_k0_2])), (k0l, .inl (ct 1, 16, .inl g_k0l)), (k0c, .inl (ct 0, 4096, .inl g_k0c)), (m0s, .inl (ct 0, 64, .inl g_m0s)), (o0, .inr (5, [.ref o0r, .int x_o0_1])), (o0r, .inl (ct 1, 60000, .inl g_o0r)), (m0, .inr (4, [.ref m0r, .ref m0s, .ref k0, .int x_m0_3, .int x_m0_4, .int x_m0_5, .int x_m0_6, .int x_m0_7, .long x_m0_8, .int x_m0_9])), (m0r, .inl (ct 2, 32, .inr (.inl g_m0r)))] := hD
        refine lv_i2l hx hb dX5_step_238 rfl ?_
        refine lv_topl (fun z238_1 ez238_1 => ?_)
        have r238_2 : rl z238_1 (-2147483648) 2147483647 := rl_i2l ez238_1 (rg_any r235_1)
        refine lv_ladd hx hb dX5_step_239 ?_
        refine lv_topl (fun z239_1 ez239_1 => ?_)
        refine go_v (k1 := 0) (n1 := 0) (wr := [(k0, .inr (6, [.ref k0c, .ref k0l, .int x_k0_2])), (k0l, .inl (ct 1, 16, .inl g_k0l)), (k0c, .inl (ct 0, 4096, .inl g_k0c)), (m0s, .inl (ct 0, 64, .inl g_m0s)), (o0, .inr (5, [.ref o0r, .int x_o0_1])), (o0r, .inl (ct 1, 60000, .inl g_o0r)), (m0r, .inl (ct 2, 32, .inr (.inl g_m0r)))]) [6] [0, 1, 2, 3, 4, 5, 7] (rn_S (As := [.ref m0, .long z239_1]) (rest := []) (c_X5_go l D ct m0 z239_1 m0r m0s k0 x_m0_3 x_m0_4 x_m0_5 x_m0_6 x_m0_7 x_m0_8 x_m0_9 h_x_m0_9 _) (cb_of (n := 2) hn mw_1443 mw_5 mw_1441 mhX5_go ⟨(Nat.le_of_ble_eq_true rfl), (Nat.le_of_ble_eq_true rfl)⟩) hx hb hml hown hn hK hSK hZ hS mw_1442 rfl hl.1 (Nat.le_of_ble_eq_true rfl) dX5_step_240 ⟨(Nat.le_of_ble_eq_true rfl), (Nat.le_of_ble_eq_true rfl)⟩) hP hD hS hA rfl rfl (by decide) (by decide) (by decide) (Nat.le_of_ble_eq_true rfl) (Nat.le_of_ble_eq_true rfl) (fun u240_2 H locs hp240_3 hP hD hS => ?_)
        have hP : va_P D vwCl [(k0, .inr (6, [.ref k0c, .ref k0l, .int x_k0_2])), (k0l, .inl (ct 1, 16, .inl g_k0l)), (k0c, .inl (ct 0, 4096, .inl g_k0c)), (m0s, .inl (ct 0, 64, .inl g_m0s)), (o0, .inr (5, [.ref o0r, .int x_o0_1])), (o0r, .inl (ct 1, 60000, .inl g_o0r)), (m0r, .inl (ct 2, 32, .inr (.inl g_m0r))), (m0, .inr (4, [.ref m0r, .ref m0s, .ref k0, .int x_m0_3, .int x_m0_4, .int x_m0_5, .int x_m0_6, .int x_m0_7, .long u240_2, .int x_m0_9]))] _ := hP
        have hD : va_D A [(k0, .inr (6, [.ref k0c, .ref k0l, .int x_k0_2])), (k0l, .inl (ct 1, 16, .inl g_k0l)), (k0c, .inl (ct 0, 4096, .inl g_k0c)), (m0s, .inl (ct 0, 64, .inl g_m0s)), (o0, .inr (5, [.ref o0r, .int x_o0_1])), (o0r, .inl (ct 1, 60000, .inl g_o0r)), (m0r, .inl (ct 2, 32, .inr (.inl g_m0r))), (m0, .inr (4, [.ref m0r, .ref m0s, .ref k0, .int x_m0_3, .int x_m0_4, .int x_m0_5, .int x_m0_6, .int x_m0_7, .long u240_2, .int x_m0_9]))] := hD
        refine lv_goto (tgt := 381) hx hb dX5_step_243 (by decide) ?_
        exact endq_v hQ hx hb hr hlocks dX5_step_381 (x_m0_5, u240_2, x_m0_9, g_m0r, g_m0s) ⟨h_x_m0_9, h_g_m0s⟩ hP hD hS [4, 7, 5, 6, 0, 1, 2, 3] rfl (by decide) rfl (Nat.le_of_ble_eq_true rfl) (Nat.le_of_ble_eq_true rfl)
    by_cases h67_181 : z66_1.toInt = 103
    · have r67_182 : rg z66_1 103 103 := rg_at h67_181
      refine lv_lookup (off := 126) (tgt := 193) hx hb dX5_step_67 (by decide) (by rw [h67_181]; rfl) (by decide) ?_
      refine lv_aload_n hx hb dX5_step_193 rfl (lv_at hl 6 rfl) ?_
      refine lv_iload_n hx hb dX5_step_194 rfl (lv_at hl 3 rfl) ?_
      refine lv_lload hx hb dX5_step_195 (lv_at hl 2 rfl) ?_
      refine lv_lload hx hb dX5_step_197 (lv_at hl 0 rfl) ?_
      refine lv_ladd hx hb dX5_step_199 ?_
      refine lv_topl (fun z199_1 ez199_1 => ?_)
      refine lv_ldc2 (v := (-2)) hx hb hown (hn.get mw_1446 rfl) dX5_step_200 ?_
      refine lv_land hx hb dX5_step_203 ?_
      refine lv_topl (fun z203_1 ez203_1 => ?_)
      refine go_v (k1 := 0) (n1 := 0) (wr := [(k0, .inr (6, [.ref k0c, .ref k0l, .int x_k0_2])), (k0l, .inl (ct 1, 16, .inl g_k0l)), (k0c, .inl (ct 0, 4096, .inl g_k0c)), (m0s, .inl (ct 0, 64, .inl g_m0s)), (o0, .inr (5, [.ref o0r, .int x_o0_1])), (o0r, .inl (ct 1, 60000, .inl g_o0r))]) [6, 7] [0, 1, 2, 3, 4, 5] (rn_S (As := [.ref m0, .int z28_1, .long z203_1]) (rest := []) (c_X5_goLinked l D ct m0 z28_1 z203_1 m0r m0s k0 x_m0_3 x_m0_4 x_m0_5 x_m0_6 x_m0_7 x_m0_8 x_m0_9 g_m0r h_x_m0_9 _) (cb_of (n := 3) hn mw_1440 mw_5 mw_1438 mhX5_goLinked ⟨(Nat.le_of_ble_eq_true rfl), (Nat.le_of_ble_eq_true rfl)⟩) hx hb hml hown hn hK hSK hZ hS mw_1439 rfl hl.1 (Nat.le_of_ble_eq_true rfl) dX5_step_204 ⟨(Nat.le_of_ble_eq_true rfl), (Nat.le_of_ble_eq_true rfl)⟩) hP hD hS hA rfl rfl (by decide) (by decide) (by decide) (Nat.le_of_ble_eq_true rfl) (Nat.le_of_ble_eq_true rfl) (fun u204_2 H locs hp204_3 hP hD hS => ?_)
      obtain ⟨y_m0_8204_4, k_m0r204_5⟩ := u204_2
      have hP : va_P D vwCl [(k0, .inr (6, [.ref k0c, .ref k0l, .int x_k0_2])), (k0l, .inl (ct 1, 16, .inl g_k0l)), (k0c, .inl (ct 0, 4096, .inl g_k0c)), (m0s, .inl (ct 0, 64, .inl g_m0s)), (o0, .inr (5, [.ref o0r, .int x_o0_1])), (o0r, .inl (ct 1, 60000, .inl g_o0r)), (m0, .inr (4, [.ref m0r, .ref m0s, .ref k0, .int x_m0_3, .int x_m0_4, .int x_m0_5, .int x_m0_6, .int x_m0_7, .long y_m0_8204_4, .int x_m0_9])), (m0r, .inl (ct 2, 32, .inr (.inl k_m0r204_5)))] _ := hP
      have hD : va_D A [(k0, .inr (6, [.ref k0c, .ref k0l, .int x_k0_2])), (k0l, .inl (ct 1, 16, .inl g_k0l)), (k0c, .inl (ct 0, 4096, .inl g_k0c)), (m0s, .inl (ct 0, 64, .inl g_m0s)), (o0, .inr (5, [.ref o0r, .int x_o0_1])), (o0r, .inl (ct 1, 60000, .inl g_o0r)), (m0, .inr (4, [.ref m0r, .ref m0s, .ref k0, .int x_m0_3, .int x_m0_4, .int x_m0_5, .int x_m0_6, .int x_m0_7, .long y_m0_8204_4, .int x_m0_9])), (m0r, .inl (ct 2, 32, .inr (.inl k_m0r204_5)))] := hD
      refine lv_goto (tgt := 381) hx hb dX5_step_207 (by decide) ?_
      exact endq_v hQ hx hb hr hlocks dX5_step_381 (x_m0_5, y_m0_8204_4, x_m0_9, k_m0r204_5, g_m0s) ⟨h_x_m0_9, h_g_m0s⟩ hP hD hS [4, 6, 5, 7, 0, 1, 2, 3] rfl (by decide) rfl (Nat.le_of_ble_eq_true rfl) (Nat.le_of_ble_eq_true rfl)
    by_cases h67_191 : z66_1.toInt = 111
    · have r67_192 : rg z66_1 111 111 := rg_at h67_191
      refine lv_lookup (off := 103) (tgt := 170) hx hb dX5_step_67 (by decide) (by rw [h67_191]; rfl) (by decide) ?_
      refine lv_aload_n hx hb dX5_step_170 rfl (lv_at hl 6 rfl) ?_
      refine lv_iload_n hx hb dX5_step_171 rfl (lv_at hl 3 rfl) ?_
      refine lv_ldc2 (v := 4) hx hb hown (hn.get mw_1433 rfl) dX5_step_172 ?_
      refine lv_aload_n hx hb dX5_step_175 rfl (lv_at hl 6 rfl) ?_
      refine va_getN (D := D) (ci := 4) (v := .int x_m0_7) (C := RX4) (T := TX4) (N := 10) hx hb (htX4 hn) (fun _ h => h) hown hK hP 6 rfl rfl 7 (by decide) (hn.get mw_93 rfl) (fun _ h9 => h9) rfl dX5_step_176 ?_
      refine lv_i2l hx hb dX5_step_179 rfl ?_
      refine lv_topl (fun z179_1 ez179_1 => ?_)
      have r179_2 : rl z179_1 (-2147483648) 2147483647 := rl_i2l ez179_1 (rg_any x_m0_7)
      refine lv_lmul hx hb dX5_step_180 ?_
      refine lv_topl (fun z180_1 ez180_1 => ?_)
      refine lv_iload_n hx hb dX5_step_181 rfl (lv_at hl 4 rfl) ?_
      refine go_i (k1 := 0) (n1 := 0) (wr := [(k0, .inr (6, [.ref k0c, .ref k0l, .int x_k0_2])), (k0l, .inl (ct 1, 16, .inl g_k0l)), (k0c, .inl (ct 0, 4096, .inl g_k0c)), (m0s, .inl (ct 0, 64, .inl g_m0s)), (o0, .inr (5, [.ref o0r, .int x_o0_1])), (o0r, .inl (ct 1, 60000, .inl g_o0r)), (m0, .inr (4, [.ref m0r, .ref m0s, .ref k0, .int x_m0_3, .int x_m0_4, .int x_m0_5, .int x_m0_6, .int x_m0_7, .long x_m0_8, .int x_m0_9])), (m0r, .inl (ct 2, 32, .inr (.inl g_m0r)))]) [] [0, 1, 2, 3, 4, 5, 6, 7] (rn_S (As := [.int r5_1]) (rest := [.long z180_1, .int z28_1, .ref m0]) (c_X5_farNumber l D ct r5_1  _) (cb_of (n := 1) hn mw_1436 mw_5 mw_1434 mhX5_farNumber ⟨(Nat.le_of_ble_eq_true rfl), (Nat.le_of_ble_eq_true rfl)⟩) hx hb hml hown hn hK hSK hZ hS mw_1435 rfl hl.1 (Nat.le_of_ble_eq_true rfl) dX5_step_182 ⟨(Nat.le_of_ble_eq_true rfl), (Nat.le_of_ble_eq_true rfl)⟩) hP hD hS hA rfl rfl (by decide) (by decide) (by decide) (Nat.le_of_ble_eq_true rfl) (Nat.le_of_ble_eq_true rfl) (fun r182_1 u182_2 H locs hp182_3 hP hD hS => ?_)
      have hP : va_P D vwCl [(k0, .inr (6, [.ref k0c, .ref k0l, .int x_k0_2])), (k0l, .inl (ct 1, 16, .inl g_k0l)), (k0c, .inl (ct 0, 4096, .inl g_k0c)), (m0s, .inl (ct 0, 64, .inl g_m0s)), (o0, .inr (5, [.ref o0r, .int x_o0_1])), (o0r, .inl (ct 1, 60000, .inl g_o0r)), (m0, .inr (4, [.ref m0r, .ref m0s, .ref k0, .int x_m0_3, .int x_m0_4, .int x_m0_5, .int x_m0_6, .int x_m0_7, .long x_m0_8, .int x_m0_9])), (m0r, .inl (ct 2, 32, .inr (.inl g_m0r)))] _ := hP
      have hD : va_D A [(k0, .inr (6, [.ref k0c, .ref k0l, .int x_k0_2])), (k0l, .inl (ct 1, 16, .inl g_k0l)), (k0c, .inl (ct 0, 4096, .inl g_k0c)), (m0s, .inl (ct 0, 64, .inl g_m0s)), (o0, .inr (5, [.ref o0r, .int x_o0_1])), (o0r, .inl (ct 1, 60000, .inl g_o0r)), (m0, .inr (4, [.ref m0r, .ref m0s, .ref k0, .int x_m0_3, .int x_m0_4, .int x_m0_5, .int x_m0_6, .int x_m0_7, .long x_m0_8, .int x_m0_9])), (m0r, .inl (ct 2, 32, .inr (.inl g_m0r)))] := hD
      refine lv_i2l hx hb dX5_step_185 rfl ?_
      refine lv_topl (fun z185_1 ez185_1 => ?_)
      have r185_2 : rl z185_1 (-2147483648) 2147483647 := rl_i2l ez185_1 (rg_any r182_1)
      refine lv_ladd hx hb dX5_step_186 ?_
      refine lv_topl (fun z186_1 ez186_1 => ?_)
      refine go_v (k1 := 0) (n1 := 0) (wr := [(k0, .inr (6, [.ref k0c, .ref k0l, .int x_k0_2])), (k0l, .inl (ct 1, 16, .inl g_k0l)), (k0c, .inl (ct 0, 4096, .inl g_k0c)), (m0s, .inl (ct 0, 64, .inl g_m0s)), (o0, .inr (5, [.ref o0r, .int x_o0_1])), (o0r, .inl (ct 1, 60000, .inl g_o0r))]) [6, 7] [0, 1, 2, 3, 4, 5] (rn_S (As := [.ref m0, .int z28_1, .long z186_1]) (rest := []) (c_X5_goLinked l D ct m0 z28_1 z186_1 m0r m0s k0 x_m0_3 x_m0_4 x_m0_5 x_m0_6 x_m0_7 x_m0_8 x_m0_9 g_m0r h_x_m0_9 _) (cb_of (n := 3) hn mw_1440 mw_5 mw_1438 mhX5_goLinked ⟨(Nat.le_of_ble_eq_true rfl), (Nat.le_of_ble_eq_true rfl)⟩) hx hb hml hown hn hK hSK hZ hS mw_1439 rfl hl.1 (Nat.le_of_ble_eq_true rfl) dX5_step_187 ⟨(Nat.le_of_ble_eq_true rfl), (Nat.le_of_ble_eq_true rfl)⟩) hP hD hS hA rfl rfl (by decide) (by decide) (by decide) (Nat.le_of_ble_eq_true rfl) (Nat.le_of_ble_eq_true rfl) (fun u187_2 H locs hp187_3 hP hD hS => ?_)
      obtain ⟨y_m0_8187_4, k_m0r187_5⟩ := u187_2
      have hP : va_P D vwCl [(k0, .inr (6, [.ref k0c, .ref k0l, .int x_k0_2])), (k0l, .inl (ct 1, 16, .inl g_k0l)), (k0c, .inl (ct 0, 4096, .inl g_k0c)), (m0s, .inl (ct 0, 64, .inl g_m0s)), (o0, .inr (5, [.ref o0r, .int x_o0_1])), (o0r, .inl (ct 1, 60000, .inl g_o0r)), (m0, .inr (4, [.ref m0r, .ref m0s, .ref k0, .int x_m0_3, .int x_m0_4, .int x_m0_5, .int x_m0_6, .int x_m0_7, .long y_m0_8187_4, .int x_m0_9])), (m0r, .inl (ct 2, 32, .inr (.inl k_m0r187_5)))] _ := hP
      have hD : va_D A [(k0, .inr (6, [.ref k0c, .ref k0l, .int x_k0_2])), (k0l, .inl (ct 1, 16, .inl g_k0l)), (k0c, .inl (ct 0, 4096, .inl g_k0c)), (m0s, .inl (ct 0, 64, .inl g_m0s)), (o0, .inr (5, [.ref o0r, .int x_o0_1])), (o0r, .inl (ct 1, 60000, .inl g_o0r)), (m0, .inr (4, [.ref m0r, .ref m0s, .ref k0, .int x_m0_3, .int x_m0_4, .int x_m0_5, .int x_m0_6, .int x_m0_7, .long y_m0_8187_4, .int x_m0_9])), (m0r, .inl (ct 2, 32, .inr (.inl k_m0r187_5)))] := hD
      refine lv_goto (tgt := 381) hx hb dX5_step_190 (by decide) ?_
      exact endq_v hQ hx hb hr hlocks dX5_step_381 (x_m0_5, y_m0_8187_4, x_m0_9, k_m0r187_5, g_m0s) ⟨h_x_m0_9, h_g_m0s⟩ hP hD hS [4, 6, 5, 7, 0, 1, 2, 3] rfl (by decide) rfl (Nat.le_of_ble_eq_true rfl) (Nat.le_of_ble_eq_true rfl)
    refine lv_lookup (off := 309) (tgt := 376) hx hb dX5_step_67 (by decide) (by simp [Op.lookupswitch.offset, (show ¬ (3 : Int) = z66_1.toInt from fun q => h67_101 q.symm), (show ¬ (19 : Int) = z66_1.toInt from fun q => h67_111 q.symm), (show ¬ (27 : Int) = z66_1.toInt from fun q => h67_121 q.symm), (show ¬ (35 : Int) = z66_1.toInt from fun q => h67_131 q.symm), (show ¬ (51 : Int) = z66_1.toInt from fun q => h67_141 q.symm), (show ¬ (55 : Int) = z66_1.toInt from fun q => h67_151 q.symm), (show ¬ (59 : Int) = z66_1.toInt from fun q => h67_161 q.symm), (show ¬ (99 : Int) = z66_1.toInt from fun q => h67_171 q.symm), (show ¬ (103 : Int) = z66_1.toInt from fun q => h67_181 q.symm), (show ¬ (111 : Int) = z66_1.toInt from fun q => h67_191 q.symm)]) (by decide) ?_
    refine lv_aload_n hx hb dX5_step_376 rfl (lv_at hl 6 rfl) ?_
    refine lv_iconst (v := 1) hx hb dX5_step_377 (by decide) ?_
    refine va_putN (D := D) (ci := 4) (v := .int 1) (ty := .boolean) (C := RX4) (T := TX4) (N := 10) hx hb (htX4 hn) (fun _ h => h) tyX4 tyX4_ok nmX4 hown hK hP hD hS 6 rfl rfl 9 (by decide) (hn.get mw_100 rfl) (fun _ h9 => h9) rfl (by decide +kernel) (by decide) rfl (Nat.le_of_ble_eq_true rfl) dX5_step_378 (fun H locs hP hD hS => ?_)
    have hP : va_P D vwCl [(k0, .inr (6, [.ref k0c, .ref k0l, .int x_k0_2])), (k0l, .inl (ct 1, 16, .inl g_k0l)), (k0c, .inl (ct 0, 4096, .inl g_k0c)), (m0s, .inl (ct 0, 64, .inl g_m0s)), (o0, .inr (5, [.ref o0r, .int x_o0_1])), (o0r, .inl (ct 1, 60000, .inl g_o0r)), (m0, .inr (4, [.ref m0r, .ref m0s, .ref k0, .int x_m0_3, .int x_m0_4, .int x_m0_5, .int x_m0_6, .int x_m0_7, .long x_m0_8, .int 1])), (m0r, .inl (ct 2, 32, .inr (.inl g_m0r)))] _ := hP
    have hD : va_D A [(k0, .inr (6, [.ref k0c, .ref k0l, .int x_k0_2])), (k0l, .inl (ct 1, 16, .inl g_k0l)), (k0c, .inl (ct 0, 4096, .inl g_k0c)), (m0s, .inl (ct 0, 64, .inl g_m0s)), (o0, .inr (5, [.ref o0r, .int x_o0_1])), (o0r, .inl (ct 1, 60000, .inl g_o0r)), (m0, .inr (4, [.ref m0r, .ref m0s, .ref k0, .int x_m0_3, .int x_m0_4, .int x_m0_5, .int x_m0_6, .int x_m0_7, .long x_m0_8, .int 1])), (m0r, .inl (ct 2, 32, .inr (.inl g_m0r)))] := hD
    exact endq_v hQ hx hb hr hlocks dX5_step_381 (x_m0_5, x_m0_8, (1 : Int32), g_m0r, g_m0s) ⟨(rg_w (show rg (1 : Int32) 1 1 from rg_l (by decide)) (by decide)), h_g_m0s⟩ hP hD hS [4, 6, 5, 7, 0, 1, 2, 3] rfl (by decide) rfl (Nat.le_of_ble_eq_true rfl) (Nat.le_of_ble_eq_true rfl)
  · have t13_2 := (i_eq c13_1)
    have r13_3 : rg r10_1 0 0 := rg_eqA t13_2 hp10_4 (show rg (0 : Int32) 0 0 from rg_l (by decide)) (by decide)
    refine lv_aload_n hx hb dX5_step_16 rfl (lv_at hl 2 rfl) ?_
    refine lv_iconst (v := 1) hx hb dX5_step_17 (by decide) ?_
    refine go_v (k1 := 0) (n1 := 0) (wr := [(m0r, .inl (ct 2, 32, .inr (.inl g_m0r))), (k0, .inr (6, [.ref k0c, .ref k0l, .int x_k0_2])), (k0l, .inl (ct 1, 16, .inl g_k0l)), (k0c, .inl (ct 0, 4096, .inl g_k0c)), (m0s, .inl (ct 0, 64, .inl g_m0s)), (o0, .inr (5, [.ref o0r, .int x_o0_1])), (o0r, .inl (ct 1, 60000, .inl g_o0r))]) [0] [1, 2, 3, 4, 5, 6, 7] (rn_VN (As := [.int 1]) (rest := []) (c_X4_stop l D ct m0 (1 : Int32) m0r m0s k0 x_m0_3 x_m0_4 x_m0_5 x_m0_6 x_m0_7 x_m0_8 x_m0_9 h_x_m0_9 _) (cn_of (n := 1) hn mw_1214 mw_4 mw_1414 mhX4_stop ⟨(Nat.le_of_ble_eq_true rfl), (Nat.le_of_ble_eq_true rfl)⟩) hx hb hml hown hn hK hSK hZ hS mw_1213 mw_s133 (ci := 4) (q0 := 0) rfl rfl rfl rfl hl.1 (Nat.le_of_ble_eq_true rfl) dX5_step_18 ⟨(Nat.le_of_ble_eq_true rfl), (Nat.le_of_ble_eq_true rfl)⟩) hP hD hS hA rfl rfl (by decide) (by decide) (by decide) (Nat.le_of_ble_eq_true rfl) (Nat.le_of_ble_eq_true rfl) (fun u18_2 H locs hp18_3 hP hD hS => ?_)
    have hp18_4 := hp18_3
    have hp18_4 : u18_2.toInt = (1 : Int32).toInt := hp18_4
    have hP : va_P D vwCl [(m0r, .inl (ct 2, 32, .inr (.inl g_m0r))), (k0, .inr (6, [.ref k0c, .ref k0l, .int x_k0_2])), (k0l, .inl (ct 1, 16, .inl g_k0l)), (k0c, .inl (ct 0, 4096, .inl g_k0c)), (m0s, .inl (ct 0, 64, .inl g_m0s)), (o0, .inr (5, [.ref o0r, .int x_o0_1])), (o0r, .inl (ct 1, 60000, .inl g_o0r)), (m0, .inr (4, [.ref m0r, .ref m0s, .ref k0, .int x_m0_3, .int x_m0_4, .int u18_2, .int x_m0_6, .int x_m0_7, .long x_m0_8, .int 1]))] _ := hP
    have hD : va_D A [(m0r, .inl (ct 2, 32, .inr (.inl g_m0r))), (k0, .inr (6, [.ref k0c, .ref k0l, .int x_k0_2])), (k0l, .inl (ct 1, 16, .inl g_k0l)), (k0c, .inl (ct 0, 4096, .inl g_k0c)), (m0s, .inl (ct 0, 64, .inl g_m0s)), (o0, .inr (5, [.ref o0r, .int x_o0_1])), (o0r, .inl (ct 1, 60000, .inl g_o0r)), (m0, .inr (4, [.ref m0r, .ref m0s, .ref k0, .int x_m0_3, .int x_m0_4, .int u18_2, .int x_m0_6, .int x_m0_7, .long x_m0_8, .int 1]))] := hD
    exact endq_v hQ hx hb hr hlocks dX5_step_21 (u18_2, x_m0_8, (1 : Int32), g_m0r, g_m0s) ⟨(rg_w (show rg (1 : Int32) 1 1 from rg_l (by decide)) (by decide)), h_g_m0s⟩ hP hD hS [5, 7, 6, 0, 1, 2, 3, 4] rfl (by decide) rfl (Nat.le_of_ble_eq_true rfl) (Nat.le_of_ble_eq_true rfl)
set_option maxHeartbeats 2000000 in
theorem c_X5_perform (l : Launch) (D : va_G) (ct : Nat → ClassId) (o0 : Nat) (m0 : Nat) (v1 : Int32) (v2 : Int32) (o0r : Nat) (x_o0_1 : Int32) (m0r : Nat) (m0s : Nat) (k0 : Nat) (x_m0_3 : Int32) (x_m0_4 : Int32) (x_m0_5 : Int32) (x_m0_6 : Int32) (x_m0_7 : Int32) (x_m0_8 : Int64) (x_m0_9 : Int32) (g_m0r : Nat → Int64) (g_m0s : Nat → Int32) (g_o0r : Nat → Int32) (k0c : Nat) (k0l : Nat) (x_k0_2 : Int32) (g_k0l : Nat → Int32) (g_k0c : Nat → Int32) (h_x_o0_1 : rg x_o0_1 0 60000) (h_x_m0_9 : rg x_m0_9 0 1) (h_g_m0s : Rg g_m0s 64 (-128) 127) (h_x_k0_2 : rg x_k0_2 0 16) (h_g_k0l : Rg g_k0l 16 0 256) (h_g_k0c : Rg g_k0c 4096 (-128) 127) : KL (S := Int32 × Int32 × Int32 × Int32 × Int32 × Int64 × Int32 × (Nat → Int64) × (Nat → Int32)) l yX5_perform cX5_perform 5 (some .long) 7 168 D ct [.ref o0, .ref m0, .int v1, .int v2] [(o0, .inr (5, [.ref o0r, .int x_o0_1])), (m0, .inr (4, [.ref m0r, .ref m0s, .ref k0, .int x_m0_3, .int x_m0_4, .int x_m0_5, .int x_m0_6, .int x_m0_7, .long x_m0_8, .int x_m0_9])), (m0r, .inl (ct 2, 32, .inr (.inl g_m0r))), (m0s, .inl (ct 0, 64, .inl g_m0s)), (o0r, .inl (ct 1, 60000, .inl g_o0r)), (k0, .inr (6, [.ref k0c, .ref k0l, .int x_k0_2])), (k0l, .inl (ct 1, 16, .inl g_k0l)), (k0c, .inl (ct 0, 4096, .inl g_k0c))] 0 0 (fun (r : Int64) (u : Int32 × Int32 × Int32 × Int32 × Int32 × Int64 × Int32 × (Nat → Int64) × (Nat → Int32)) => match u with | (y_m0_3, y_m0_4, y_m0_5, y_m0_6, y_m0_7, y_m0_8, y_m0_9, k_m0r, k_m0s) => rg y_m0_9 0 1 ∧ Rg k_m0s 64 (-128) 127 ∧ (y_m0_3.toInt = v1.toInt)) (fun (u : Int32 × Int32 × Int32 × Int32 × Int32 × Int64 × Int32 × (Nat → Int64) × (Nat → Int32)) => match u with | (y_m0_3, y_m0_4, y_m0_5, y_m0_6, y_m0_7, y_m0_8, y_m0_9, k_m0r, k_m0s) => [(o0, .inr (5, [.ref o0r, .int x_o0_1])), (m0, .inr (4, [.ref m0r, .ref m0s, .ref k0, .int y_m0_3, .int y_m0_4, .int y_m0_5, .int y_m0_6, .int y_m0_7, .long y_m0_8, .int y_m0_9])), (m0r, .inl (ct 2, 32, .inr (.inl k_m0r))), (m0s, .inl (ct 0, 64, .inl k_m0s)), (o0r, .inl (ct 1, 60000, .inl g_o0r)), (k0, .inr (6, [.ref k0c, .ref k0l, .int x_k0_2])), (k0l, .inl (ct 1, 16, .inl g_k0l)), (k0c, .inl (ct 0, 4096, .inl g_k0c))]) := by
  refine KLq_of (by decide) (Nat.le_of_ble_eq_true rfl) (fun p e s m below meth c A Q C0 hA H locs hS hP hD hQ ls hl => ?_)
  obtain ⟨hx, hb, hr, hown, hin, hml, hlocks, hn, hK, hZ, hSK⟩ := C0
  have hl : lv_has ls 5 [(0, .ref o0), (1, .ref m0), (2, .int v1), (3, .int v2)] := hl
  refine lv_aload_n hx hb dX5_perform_0 rfl (lv_at hl 1 rfl) ?_
  refine lv_bipush (v := 32) hx hb dX5_perform_1 (by decide) ?_
  refine lv_iload_n hx hb dX5_perform_3 rfl (lv_at hl 2 rfl) ?_
  refine go_v (k1 := 0) (n1 := 0) (wr := [(o0, .inr (5, [.ref o0r, .int x_o0_1])), (o0r, .inl (ct 1, 60000, .inl g_o0r)), (k0, .inr (6, [.ref k0c, .ref k0l, .int x_k0_2])), (k0l, .inl (ct 1, 16, .inl g_k0l)), (k0c, .inl (ct 0, 4096, .inl g_k0c))]) [1, 2, 3] [0, 4, 5, 6, 7] (rn_VN (As := [.int 32, .int v1]) (rest := []) (c_X4_begin l D ct m0 (32 : Int32) v1 m0r m0s k0 x_m0_3 x_m0_4 x_m0_5 x_m0_6 x_m0_7 x_m0_8 x_m0_9 g_m0r g_m0s h_x_m0_9 h_g_m0s _) (cn_of (n := 2) hn mw_1205 mw_4 mw_1409 mhX4_begin ⟨(Nat.le_of_ble_eq_true rfl), (Nat.le_of_ble_eq_true rfl)⟩) hx hb hml hown hn hK hSK hZ hS mw_1204 mw_s131 (ci := 4) (q0 := 0) rfl rfl rfl rfl hl.1 (Nat.le_of_ble_eq_true rfl) dX5_perform_4 ⟨(Nat.le_of_ble_eq_true rfl), (Nat.le_of_ble_eq_true rfl)⟩) hP hD hS hA rfl rfl (by decide) (by decide) (by decide) (Nat.le_of_ble_eq_true rfl) (Nat.le_of_ble_eq_true rfl) (fun u4_2 H locs hp4_3 hP hD hS => ?_)
  obtain ⟨y_m0_34_4, y_m0_44_5, k_m0r4_6, k_m0s4_7⟩ := u4_2
  obtain ⟨hp4_8, hp4_9, hp4_10⟩ := hp4_3
  have hp4_9 : y_m0_34_4.toInt = v1.toInt := hp4_9
  have hp4_10 : y_m0_44_5.toInt = (32 : Int32).toInt := hp4_10
  have hP : va_P D vwCl [(o0, .inr (5, [.ref o0r, .int x_o0_1])), (o0r, .inl (ct 1, 60000, .inl g_o0r)), (k0, .inr (6, [.ref k0c, .ref k0l, .int x_k0_2])), (k0l, .inl (ct 1, 16, .inl g_k0l)), (k0c, .inl (ct 0, 4096, .inl g_k0c)), (m0, .inr (4, [.ref m0r, .ref m0s, .ref k0, .int y_m0_34_4, .int y_m0_44_5, .int 0, .int 0, .int 0, .long 1, .int 0])), (m0r, .inl (ct 2, 32, .inr (.inl k_m0r4_6))), (m0s, .inl (ct 0, 64, .inl k_m0s4_7))] _ := hP
  have hD : va_D A [(o0, .inr (5, [.ref o0r, .int x_o0_1])), (o0r, .inl (ct 1, 60000, .inl g_o0r)), (k0, .inr (6, [.ref k0c, .ref k0l, .int x_k0_2])), (k0l, .inl (ct 1, 16, .inl g_k0l)), (k0c, .inl (ct 0, 4096, .inl g_k0c)), (m0, .inr (4, [.ref m0r, .ref m0s, .ref k0, .int y_m0_34_4, .int y_m0_44_5, .int 0, .int 0, .int 0, .long 1, .int 0])), (m0r, .inl (ct 2, 32, .inr (.inl k_m0r4_6))), (m0s, .inl (ct 0, 64, .inl k_m0s4_7))] := hD
  refine lv_aload_n hx hb dX5_perform_7 rfl (lv_at hl 1 rfl) ?_
  refine lv_bipush (v := 8) hx hb dX5_perform_8 (by decide) ?_
  refine lv_ldc2 (v := 65536) hx hb hown (hn.get mw_1410 rfl) dX5_perform_10 ?_
  refine go_v (k1 := 0) (n1 := 0) (wr := [(o0, .inr (5, [.ref o0r, .int x_o0_1])), (o0r, .inl (ct 1, 60000, .inl g_o0r)), (k0, .inr (6, [.ref k0c, .ref k0l, .int x_k0_2])), (k0l, .inl (ct 1, 16, .inl g_k0l)), (k0c, .inl (ct 0, 4096, .inl g_k0c)), (m0s, .inl (ct 0, 64, .inl k_m0s4_7))]) [5, 6] [0, 1, 2, 3, 4, 7] (rn_VN (As := [.int 8, .long 65536]) (rest := []) (c_X4_set l D ct m0 (8 : Int32) (65536 : Int64) m0r m0s k0 y_m0_34_4 y_m0_44_5 (0 : Int32) (0 : Int32) (0 : Int32) (1 : Int64) (0 : Int32) k_m0r4_6 (rg_w (show rg (0 : Int32) 0 0 from rg_l (by decide)) (by decide)) _) (cn_of (n := 2) hn mw_1209 mw_4 mw_1411 mhX4_set ⟨(Nat.le_of_ble_eq_true rfl), (Nat.le_of_ble_eq_true rfl)⟩) hx hb hml hown hn hK hSK hZ hS mw_1208 mw_s132 (ci := 4) (q0 := 0) rfl rfl rfl rfl hl.1 (Nat.le_of_ble_eq_true rfl) dX5_perform_13 ⟨(Nat.le_of_ble_eq_true rfl), (Nat.le_of_ble_eq_true rfl)⟩) hP hD hS hA rfl rfl (by decide) (by decide) (by decide) (Nat.le_of_ble_eq_true rfl) (Nat.le_of_ble_eq_true rfl) (fun u13_2 H locs hp13_3 hP hD hS => ?_)
  have hP : va_P D vwCl [(o0, .inr (5, [.ref o0r, .int x_o0_1])), (o0r, .inl (ct 1, 60000, .inl g_o0r)), (k0, .inr (6, [.ref k0c, .ref k0l, .int x_k0_2])), (k0l, .inl (ct 1, 16, .inl g_k0l)), (k0c, .inl (ct 0, 4096, .inl g_k0c)), (m0s, .inl (ct 0, 64, .inl k_m0s4_7)), (m0, .inr (4, [.ref m0r, .ref m0s, .ref k0, .int y_m0_34_4, .int y_m0_44_5, .int 0, .int 0, .int 0, .long 1, .int 0])), (m0r, .inl (ct 2, 32, .inr (.inl u13_2)))] _ := hP
  have hD : va_D A [(o0, .inr (5, [.ref o0r, .int x_o0_1])), (o0r, .inl (ct 1, 60000, .inl g_o0r)), (k0, .inr (6, [.ref k0c, .ref k0l, .int x_k0_2])), (k0l, .inl (ct 1, 16, .inl g_k0l)), (k0c, .inl (ct 0, 4096, .inl g_k0c)), (m0s, .inl (ct 0, 64, .inl k_m0s4_7)), (m0, .inr (4, [.ref m0r, .ref m0s, .ref k0, .int y_m0_34_4, .int y_m0_44_5, .int 0, .int 0, .int 0, .long 1, .int 0])), (m0r, .inl (ct 2, 32, .inr (.inl u13_2)))] := hD
  refine lv_aload_n hx hb dX5_perform_16 rfl (lv_at hl 1 rfl) ?_
  refine lv_bipush (v := 9) hx hb dX5_perform_17 (by decide) ?_
  refine lv_iload_n hx hb dX5_perform_19 rfl (lv_at hl 3 rfl) ?_
  refine lv_i2l hx hb dX5_perform_20 rfl ?_
  refine lv_topl (fun z20_1 ez20_1 => ?_)
  have r20_2 : rl z20_1 (-2147483648) 2147483647 := rl_i2l ez20_1 (rg_any v2)
  refine go_v (k1 := 0) (n1 := 0) (wr := [(o0, .inr (5, [.ref o0r, .int x_o0_1])), (o0r, .inl (ct 1, 60000, .inl g_o0r)), (k0, .inr (6, [.ref k0c, .ref k0l, .int x_k0_2])), (k0l, .inl (ct 1, 16, .inl g_k0l)), (k0c, .inl (ct 0, 4096, .inl g_k0c)), (m0s, .inl (ct 0, 64, .inl k_m0s4_7))]) [6, 7] [0, 1, 2, 3, 4, 5] (rn_VN (As := [.int 9, .long z20_1]) (rest := []) (c_X4_set l D ct m0 (9 : Int32) z20_1 m0r m0s k0 y_m0_34_4 y_m0_44_5 (0 : Int32) (0 : Int32) (0 : Int32) (1 : Int64) (0 : Int32) u13_2 (rg_w (show rg (0 : Int32) 0 0 from rg_l (by decide)) (by decide)) _) (cn_of (n := 2) hn mw_1209 mw_4 mw_1411 mhX4_set ⟨(Nat.le_of_ble_eq_true rfl), (Nat.le_of_ble_eq_true rfl)⟩) hx hb hml hown hn hK hSK hZ hS mw_1208 mw_s132 (ci := 4) (q0 := 0) rfl rfl rfl rfl hl.1 (Nat.le_of_ble_eq_true rfl) dX5_perform_21 ⟨(Nat.le_of_ble_eq_true rfl), (Nat.le_of_ble_eq_true rfl)⟩) hP hD hS hA rfl rfl (by decide) (by decide) (by decide) (Nat.le_of_ble_eq_true rfl) (Nat.le_of_ble_eq_true rfl) (fun u21_2 H locs hp21_3 hP hD hS => ?_)
  have hP : va_P D vwCl [(o0, .inr (5, [.ref o0r, .int x_o0_1])), (o0r, .inl (ct 1, 60000, .inl g_o0r)), (k0, .inr (6, [.ref k0c, .ref k0l, .int x_k0_2])), (k0l, .inl (ct 1, 16, .inl g_k0l)), (k0c, .inl (ct 0, 4096, .inl g_k0c)), (m0s, .inl (ct 0, 64, .inl k_m0s4_7)), (m0, .inr (4, [.ref m0r, .ref m0s, .ref k0, .int y_m0_34_4, .int y_m0_44_5, .int 0, .int 0, .int 0, .long 1, .int 0])), (m0r, .inl (ct 2, 32, .inr (.inl u21_2)))] _ := hP
  have hD : va_D A [(o0, .inr (5, [.ref o0r, .int x_o0_1])), (o0r, .inl (ct 1, 60000, .inl g_o0r)), (k0, .inr (6, [.ref k0c, .ref k0l, .int x_k0_2])), (k0l, .inl (ct 1, 16, .inl g_k0l)), (k0c, .inl (ct 0, 4096, .inl g_k0c)), (m0s, .inl (ct 0, 64, .inl k_m0s4_7)), (m0, .inr (4, [.ref m0r, .ref m0s, .ref k0, .int y_m0_34_4, .int y_m0_44_5, .int 0, .int 0, .int 0, .long 1, .int 0])), (m0r, .inl (ct 2, 32, .inr (.inl u21_2)))] := hD
  refine lv_aload_n hx hb dX5_perform_24 rfl (lv_at hl 1 rfl) ?_
  refine lv_bipush (v := 11) hx hb dX5_perform_25 (by decide) ?_
  refine lv_iload_n hx hb dX5_perform_27 rfl (lv_at hl 3 rfl) ?_
  refine lv_i2l hx hb dX5_perform_28 rfl ?_
  refine lv_topl (fun z28_1 ez28_1 => ?_)
  have r28_2 : rl z28_1 (-2147483648) 2147483647 := rl_i2l ez28_1 (rg_any v2)
  refine go_v (k1 := 0) (n1 := 0) (wr := [(o0, .inr (5, [.ref o0r, .int x_o0_1])), (o0r, .inl (ct 1, 60000, .inl g_o0r)), (k0, .inr (6, [.ref k0c, .ref k0l, .int x_k0_2])), (k0l, .inl (ct 1, 16, .inl g_k0l)), (k0c, .inl (ct 0, 4096, .inl g_k0c)), (m0s, .inl (ct 0, 64, .inl k_m0s4_7))]) [6, 7] [0, 1, 2, 3, 4, 5] (rn_VN (As := [.int 11, .long z28_1]) (rest := []) (c_X4_set l D ct m0 (11 : Int32) z28_1 m0r m0s k0 y_m0_34_4 y_m0_44_5 (0 : Int32) (0 : Int32) (0 : Int32) (1 : Int64) (0 : Int32) u21_2 (rg_w (show rg (0 : Int32) 0 0 from rg_l (by decide)) (by decide)) _) (cn_of (n := 2) hn mw_1209 mw_4 mw_1411 mhX4_set ⟨(Nat.le_of_ble_eq_true rfl), (Nat.le_of_ble_eq_true rfl)⟩) hx hb hml hown hn hK hSK hZ hS mw_1208 mw_s132 (ci := 4) (q0 := 0) rfl rfl rfl rfl hl.1 (Nat.le_of_ble_eq_true rfl) dX5_perform_29 ⟨(Nat.le_of_ble_eq_true rfl), (Nat.le_of_ble_eq_true rfl)⟩) hP hD hS hA rfl rfl (by decide) (by decide) (by decide) (Nat.le_of_ble_eq_true rfl) (Nat.le_of_ble_eq_true rfl) (fun u29_2 H locs hp29_3 hP hD hS => ?_)
  have hP : va_P D vwCl [(o0, .inr (5, [.ref o0r, .int x_o0_1])), (o0r, .inl (ct 1, 60000, .inl g_o0r)), (k0, .inr (6, [.ref k0c, .ref k0l, .int x_k0_2])), (k0l, .inl (ct 1, 16, .inl g_k0l)), (k0c, .inl (ct 0, 4096, .inl g_k0c)), (m0s, .inl (ct 0, 64, .inl k_m0s4_7)), (m0, .inr (4, [.ref m0r, .ref m0s, .ref k0, .int y_m0_34_4, .int y_m0_44_5, .int 0, .int 0, .int 0, .long 1, .int 0])), (m0r, .inl (ct 2, 32, .inr (.inl u29_2)))] _ := hP
  have hD : va_D A [(o0, .inr (5, [.ref o0r, .int x_o0_1])), (o0r, .inl (ct 1, 60000, .inl g_o0r)), (k0, .inr (6, [.ref k0c, .ref k0l, .int x_k0_2])), (k0l, .inl (ct 1, 16, .inl g_k0l)), (k0c, .inl (ct 0, 4096, .inl g_k0c)), (m0s, .inl (ct 0, 64, .inl k_m0s4_7)), (m0, .inr (4, [.ref m0r, .ref m0s, .ref k0, .int y_m0_34_4, .int y_m0_44_5, .int 0, .int 0, .int 0, .long 1, .int 0])), (m0r, .inl (ct 2, 32, .inr (.inl u29_2)))] := hD
  refine lv_aload_n hx hb dX5_perform_32 rfl (lv_at hl 1 rfl) ?_
  refine lv_bipush (v := 22) hx hb dX5_perform_33 (by decide) ?_
  refine lv_ldc2 (v := 131136) hx hb hown (hn.get mw_1412 rfl) dX5_perform_35 ?_
  refine go_v (k1 := 0) (n1 := 0) (wr := [(o0, .inr (5, [.ref o0r, .int x_o0_1])), (o0r, .inl (ct 1, 60000, .inl g_o0r)), (k0, .inr (6, [.ref k0c, .ref k0l, .int x_k0_2])), (k0l, .inl (ct 1, 16, .inl g_k0l)), (k0c, .inl (ct 0, 4096, .inl g_k0c)), (m0s, .inl (ct 0, 64, .inl k_m0s4_7))]) [6, 7] [0, 1, 2, 3, 4, 5] (rn_VN (As := [.int 22, .long 131136]) (rest := []) (c_X4_set l D ct m0 (22 : Int32) (131136 : Int64) m0r m0s k0 y_m0_34_4 y_m0_44_5 (0 : Int32) (0 : Int32) (0 : Int32) (1 : Int64) (0 : Int32) u29_2 (rg_w (show rg (0 : Int32) 0 0 from rg_l (by decide)) (by decide)) _) (cn_of (n := 2) hn mw_1209 mw_4 mw_1411 mhX4_set ⟨(Nat.le_of_ble_eq_true rfl), (Nat.le_of_ble_eq_true rfl)⟩) hx hb hml hown hn hK hSK hZ hS mw_1208 mw_s132 (ci := 4) (q0 := 0) rfl rfl rfl rfl hl.1 (Nat.le_of_ble_eq_true rfl) dX5_perform_38 ⟨(Nat.le_of_ble_eq_true rfl), (Nat.le_of_ble_eq_true rfl)⟩) hP hD hS hA rfl rfl (by decide) (by decide) (by decide) (Nat.le_of_ble_eq_true rfl) (Nat.le_of_ble_eq_true rfl) (fun u38_2 H locs hp38_3 hP hD hS => ?_)
  have hP : va_P D vwCl [(o0, .inr (5, [.ref o0r, .int x_o0_1])), (o0r, .inl (ct 1, 60000, .inl g_o0r)), (k0, .inr (6, [.ref k0c, .ref k0l, .int x_k0_2])), (k0l, .inl (ct 1, 16, .inl g_k0l)), (k0c, .inl (ct 0, 4096, .inl g_k0c)), (m0s, .inl (ct 0, 64, .inl k_m0s4_7)), (m0, .inr (4, [.ref m0r, .ref m0s, .ref k0, .int y_m0_34_4, .int y_m0_44_5, .int 0, .int 0, .int 0, .long 1, .int 0])), (m0r, .inl (ct 2, 32, .inr (.inl u38_2)))] _ := hP
  have hD : va_D A [(o0, .inr (5, [.ref o0r, .int x_o0_1])), (o0r, .inl (ct 1, 60000, .inl g_o0r)), (k0, .inr (6, [.ref k0c, .ref k0l, .int x_k0_2])), (k0l, .inl (ct 1, 16, .inl g_k0l)), (k0c, .inl (ct 0, 4096, .inl g_k0c)), (m0s, .inl (ct 0, 64, .inl k_m0s4_7)), (m0, .inr (4, [.ref m0r, .ref m0s, .ref k0, .int y_m0_34_4, .int y_m0_44_5, .int 0, .int 0, .int 0, .long 1, .int 0])), (m0r, .inl (ct 2, 32, .inr (.inl u38_2)))] := hD
  refine lv_iconst (v := 0) hx hb dX5_perform_41 (by decide) ?_
  refine lv_istore (lv' := [(4, .int 0), (0, .ref o0), (1, .ref m0), (2, .int v1), (3, .int v2)]) hx hb dX5_perform_42 hl (by decide) rfl (fun ls hl => ?_)
  have b44 : ∀ (n : Nat) (j44_l4 : Int32) (j44_cm0s : Nat → Int32) (j44_fm0_5 : Int32) (j44_fm0_6 : Int32) (j44_fm0_7 : Int32) (j44_fm0_8 : Int64) (j44_fm0_9 : Int32) (j44_cm0r : Nat → Int64) (H : Heap) (locs : List Loc) (ls : Array Slot), (rg j44_l4 0 2147483647) → (Rg j44_cm0s 64 (-128) 127) → (rg j44_fm0_9 0 1) → ((2147483647 : Int) - j44_l4.toInt).toNat < n → lv_has ls 5 [(0, .ref o0), (1, .ref m0), (4, .int j44_l4)] → va_P D vwCl [(o0, .inr (5, [.ref o0r, .int x_o0_1])), (o0r, .inl (ct 1, 60000, .inl g_o0r)), (k0, .inr (6, [.ref k0c, .ref k0l, .int x_k0_2])), (k0l, .inl (ct 1, 16, .inl g_k0l)), (k0c, .inl (ct 0, 4096, .inl g_k0c)), (m0s, .inl (ct 0, 64, .inl j44_cm0s)), (m0, .inr (4, [.ref m0r, .ref m0s, .ref k0, .int y_m0_34_4, .int y_m0_44_5, .int j44_fm0_5, .int j44_fm0_6, .int j44_fm0_7, .long j44_fm0_8, .int j44_fm0_9])), (m0r, .inl (ct 2, 32, .inr (.inl j44_cm0r)))] H → va_D A [(o0, .inr (5, [.ref o0r, .int x_o0_1])), (o0r, .inl (ct 1, 60000, .inl g_o0r)), (k0, .inr (6, [.ref k0c, .ref k0l, .int x_k0_2])), (k0l, .inl (ct 1, 16, .inl g_k0l)), (k0c, .inl (ct 0, 4096, .inl g_k0c)), (m0s, .inl (ct 0, 64, .inl j44_cm0s)), (m0, .inr (4, [.ref m0r, .ref m0s, .ref k0, .int y_m0_34_4, .int y_m0_44_5, .int j44_fm0_5, .int j44_fm0_6, .int j44_fm0_7, .long j44_fm0_8, .int j44_fm0_9])), (m0r, .inl (ct 2, 32, .inr (.inl j44_cm0r)))] → va_S A s.heap H locs → W p l e ({ frames := 7, cells := 0, slots := 0, locals := 168 }) s m [.ref o0, .ref m0, .int v1, .int v2].toArray below meth c H locs 0 0 Q (F0 m 44 ls []) := by
    intro n
    induction n with
    | zero => intros; rename_i hms _ _ _ _; exact absurd hms (Nat.not_lt_zero _)
    | succ n ih =>
      intro j44_l4 j44_cm0s j44_fm0_5 j44_fm0_6 j44_fm0_7 j44_fm0_8 j44_fm0_9 j44_cm0r H locs ls r44_1001 hc44_1002 r44_1003 hms hl hP hD hS
      refine lv_aload_n hx hb dX5_perform_44 rfl (lv_at hl 1 rfl) ?_
      refine va_getN (D := D) (ci := 4) (v := .int j44_fm0_9) (C := RX4) (T := TX4) (N := 10) hx hb (htX4 hn) (fun _ h => h) hown hK hP 6 rfl rfl 9 (by decide) (hn.get mw_100 rfl) (fun _ h9 => h9) rfl dX5_perform_45 ?_
      have b93 : ∀  (H : Heap) (locs : List Loc) (ls : Array Slot), lv_has ls 5 [(1, .ref m0)] → va_P D vwCl [(o0, .inr (5, [.ref o0r, .int x_o0_1])), (o0r, .inl (ct 1, 60000, .inl g_o0r)), (k0, .inr (6, [.ref k0c, .ref k0l, .int x_k0_2])), (k0l, .inl (ct 1, 16, .inl g_k0l)), (k0c, .inl (ct 0, 4096, .inl g_k0c)), (m0s, .inl (ct 0, 64, .inl j44_cm0s)), (m0, .inr (4, [.ref m0r, .ref m0s, .ref k0, .int y_m0_34_4, .int y_m0_44_5, .int j44_fm0_5, .int j44_fm0_6, .int j44_fm0_7, .long j44_fm0_8, .int j44_fm0_9])), (m0r, .inl (ct 2, 32, .inr (.inl j44_cm0r)))] H → va_D A [(o0, .inr (5, [.ref o0r, .int x_o0_1])), (o0r, .inl (ct 1, 60000, .inl g_o0r)), (k0, .inr (6, [.ref k0c, .ref k0l, .int x_k0_2])), (k0l, .inl (ct 1, 16, .inl g_k0l)), (k0c, .inl (ct 0, 4096, .inl g_k0c)), (m0s, .inl (ct 0, 64, .inl j44_cm0s)), (m0, .inr (4, [.ref m0r, .ref m0s, .ref k0, .int y_m0_34_4, .int y_m0_44_5, .int j44_fm0_5, .int j44_fm0_6, .int j44_fm0_7, .long j44_fm0_8, .int j44_fm0_9])), (m0r, .inl (ct 2, 32, .inr (.inl j44_cm0r)))] → va_S A s.heap H locs → W p l e ({ frames := 7, cells := 0, slots := 0, locals := 168 }) s m [.ref o0, .ref m0, .int v1, .int v2].toArray below meth c H locs 0 0 Q (F0 m 93 ls []) := by
        intro  H locs ls  hl hP hD hS
        refine lv_aload_n hx hb dX5_perform_93 rfl (lv_at hl 0 rfl) ?_
        refine va_getN (D := D) (ci := 4) (v := .int j44_fm0_5) (C := RX4) (T := TX4) (N := 10) hx hb (htX4 hn) (fun _ h => h) hown hK hP 6 rfl rfl 5 (by decide) (hn.get mw_87 rfl) (fun _ h9 => h9) rfl dX5_perform_94 ?_
        refine lv_if_ne (tgt := 109) hx hb dX5_perform_97 (by decide) (fun c97_1 => ?_) (fun c97_1 => ?_)
        · have t97_2 := (i_ne c97_1)
          refine lv_lconst (v := 0) hx hb dX5_perform_109 (by decide) ?_
          exact endq_l hQ hx hb hr hlocks dX5_perform_110 (y_m0_34_4, y_m0_44_5, j44_fm0_5, j44_fm0_6, j44_fm0_7, j44_fm0_8, j44_fm0_9, j44_cm0r, j44_cm0s) ⟨r44_1003, hc44_1002, (show y_m0_34_4.toInt = v1.toInt by have q0 := (rg_any v1).1; have q1 := (rg_any v1).2; have q2 := (rg_any y_m0_34_4).1; have q3 := (rg_any y_m0_34_4).2; have q4 := hp4_9; omega)⟩ hP hD hS [0, 6, 7, 5, 1, 2, 3, 4] rfl (by decide) rfl (Nat.le_of_ble_eq_true rfl) (Nat.le_of_ble_eq_true rfl)
        · have t97_2 := (i_eq c97_1)
          have r97_3 : rg j44_fm0_5 0 0 := rg_eqA t97_2 (rg_any j44_fm0_5) (show rg (0 : Int32) 0 0 from rg_l (by decide)) (by decide)
          refine lv_aload_n hx hb dX5_perform_100 rfl (lv_at hl 0 rfl) ?_
          refine lv_bipush (v := 10) hx hb dX5_perform_101 (by decide) ?_
          refine go_l (k1 := 0) (n1 := 0) (wr := [(o0, .inr (5, [.ref o0r, .int x_o0_1])), (o0r, .inl (ct 1, 60000, .inl g_o0r)), (k0, .inr (6, [.ref k0c, .ref k0l, .int x_k0_2])), (k0l, .inl (ct 1, 16, .inl g_k0l)), (k0c, .inl (ct 0, 4096, .inl g_k0c)), (m0s, .inl (ct 0, 64, .inl j44_cm0s))]) [6, 7] [0, 1, 2, 3, 4, 5] (rn_VN (As := [.int 10]) (rest := []) (c_X4_get l D ct m0 (10 : Int32) m0r m0s k0 y_m0_34_4 y_m0_44_5 j44_fm0_5 j44_fm0_6 j44_fm0_7 j44_fm0_8 j44_fm0_9 j44_cm0r r44_1003 _) (cn_of (n := 1) hn mw_1225 mw_4 mw_1429 mhX4_get ⟨(Nat.le_of_ble_eq_true rfl), (Nat.le_of_ble_eq_true rfl)⟩) hx hb hml hown hn hK hSK hZ hS mw_1224 mw_s135 (ci := 4) (q0 := 0) rfl rfl rfl rfl hl.1 (Nat.le_of_ble_eq_true rfl) dX5_perform_103 ⟨(Nat.le_of_ble_eq_true rfl), (Nat.le_of_ble_eq_true rfl)⟩) hP hD hS hA rfl rfl (by decide) (by decide) (by decide) (Nat.le_of_ble_eq_true rfl) (Nat.le_of_ble_eq_true rfl) (fun r103_1 u103_2 H locs hp103_3 hP hD hS => ?_)
          have hP : va_P D vwCl [(o0, .inr (5, [.ref o0r, .int x_o0_1])), (o0r, .inl (ct 1, 60000, .inl g_o0r)), (k0, .inr (6, [.ref k0c, .ref k0l, .int x_k0_2])), (k0l, .inl (ct 1, 16, .inl g_k0l)), (k0c, .inl (ct 0, 4096, .inl g_k0c)), (m0s, .inl (ct 0, 64, .inl j44_cm0s)), (m0, .inr (4, [.ref m0r, .ref m0s, .ref k0, .int y_m0_34_4, .int y_m0_44_5, .int j44_fm0_5, .int j44_fm0_6, .int j44_fm0_7, .long j44_fm0_8, .int j44_fm0_9])), (m0r, .inl (ct 2, 32, .inr (.inl j44_cm0r)))] _ := hP
          have hD : va_D A [(o0, .inr (5, [.ref o0r, .int x_o0_1])), (o0r, .inl (ct 1, 60000, .inl g_o0r)), (k0, .inr (6, [.ref k0c, .ref k0l, .int x_k0_2])), (k0l, .inl (ct 1, 16, .inl g_k0l)), (k0c, .inl (ct 0, 4096, .inl g_k0c)), (m0s, .inl (ct 0, 64, .inl j44_cm0s)), (m0, .inr (4, [.ref m0r, .ref m0s, .ref k0, .int y_m0_34_4, .int y_m0_44_5, .int j44_fm0_5, .int j44_fm0_6, .int j44_fm0_7, .long j44_fm0_8, .int j44_fm0_9])), (m0r, .inl (ct 2, 32, .inr (.inl j44_cm0r)))] := hD
          refine lv_goto (tgt := 110) hx hb dX5_perform_106 (by decide) ?_
          exact endq_l hQ hx hb hr hlocks dX5_perform_110 (y_m0_34_4, y_m0_44_5, j44_fm0_5, j44_fm0_6, j44_fm0_7, j44_fm0_8, j44_fm0_9, j44_cm0r, j44_cm0s) ⟨r44_1003, hc44_1002, (show y_m0_34_4.toInt = v1.toInt by have q0 := (rg_any v1).1; have q1 := (rg_any v1).2; have q2 := (rg_any y_m0_34_4).1; have q3 := (rg_any y_m0_34_4).2; have q4 := hp4_9; omega)⟩ hP hD hS [0, 6, 7, 5, 1, 2, 3, 4] rfl (by decide) rfl (Nat.le_of_ble_eq_true rfl) (Nat.le_of_ble_eq_true rfl)
      refine lv_if_ne (tgt := 93) hx hb dX5_perform_48 (by decide) (fun c48_1 => ?_) (fun c48_1 => ?_)
      · have t48_2 := (i_ne c48_1)
        have r48_3 : rg j44_fm0_9 1 1 := rg_neAl t48_2 r44_1003 (show rg (0 : Int32) 0 0 from rg_l (by decide)) (by decide)
        exact b93  H locs ls  (lv_sub hl [1] rfl) hP hD hS
      · have t48_2 := (i_eq c48_1)
        have r48_3 : rg j44_fm0_9 0 0 := rg_eqA t48_2 r44_1003 (show rg (0 : Int32) 0 0 from rg_l (by decide)) (by decide)
        refine lv_iload hx hb dX5_perform_51 (lv_at hl 2 rfl) ?_
        refine lv_ldc (v := 100000) hx hb hown (hn.get mw_1413 rfl) dX5_perform_53 ?_
        refine lv_icmp_gt (tgt := 93) hx hb dX5_perform_55 (by decide) (fun c55_1 => ?_) (fun c55_1 => ?_)
        · have t55_2 := (i_lt c55_1)
          have r55_3 : rg j44_l4 100001 2147483647 := rg_ltB t55_2 (show rg (100000 : Int32) 100000 100000 from rg_l (by decide)) r44_1001 (by decide)
          exact b93  H locs ls  (lv_sub hl [1] rfl) hP hD hS
        · have t55_2 := (i_nlt c55_1)
          have r55_3 : rg j44_l4 0 100000 := rg_leA t55_2 r44_1001 (show rg (100000 : Int32) 100000 100000 from rg_l (by decide)) (by decide)
          refine lv_iload hx hb dX5_perform_58 (lv_at hl 2 rfl) ?_
          refine lv_ldc (v := 100000) hx hb hown (hn.get mw_1413 rfl) dX5_perform_60 ?_
          have b87 : ∀ (j87_cm0r : Nat → Int64) (j87_cm0s : Nat → Int32) (j87_fm0_5 : Int32) (j87_fm0_6 : Int32) (j87_fm0_7 : Int32) (j87_fm0_8 : Int64) (j87_fm0_9 : Int32) (H : Heap) (locs : List Loc) (ls : Array Slot), (Rg j87_cm0s 64 (-128) 127) → (rg j87_fm0_9 0 1) → lv_has ls 5 [(0, .ref o0), (1, .ref m0), (4, .int j44_l4)] → va_P D vwCl [(o0, .inr (5, [.ref o0r, .int x_o0_1])), (o0r, .inl (ct 1, 60000, .inl g_o0r)), (m0r, .inl (ct 2, 32, .inr (.inl j87_cm0r))), (k0, .inr (6, [.ref k0c, .ref k0l, .int x_k0_2])), (k0l, .inl (ct 1, 16, .inl g_k0l)), (k0c, .inl (ct 0, 4096, .inl g_k0c)), (m0s, .inl (ct 0, 64, .inl j87_cm0s)), (m0, .inr (4, [.ref m0r, .ref m0s, .ref k0, .int y_m0_34_4, .int y_m0_44_5, .int j87_fm0_5, .int j87_fm0_6, .int j87_fm0_7, .long j87_fm0_8, .int j87_fm0_9]))] H → va_D A [(o0, .inr (5, [.ref o0r, .int x_o0_1])), (o0r, .inl (ct 1, 60000, .inl g_o0r)), (m0r, .inl (ct 2, 32, .inr (.inl j87_cm0r))), (k0, .inr (6, [.ref k0c, .ref k0l, .int x_k0_2])), (k0l, .inl (ct 1, 16, .inl g_k0l)), (k0c, .inl (ct 0, 4096, .inl g_k0c)), (m0s, .inl (ct 0, 64, .inl j87_cm0s)), (m0, .inr (4, [.ref m0r, .ref m0s, .ref k0, .int y_m0_34_4, .int y_m0_44_5, .int j87_fm0_5, .int j87_fm0_6, .int j87_fm0_7, .long j87_fm0_8, .int j87_fm0_9]))] → va_S A s.heap H locs → W p l e ({ frames := 7, cells := 0, slots := 0, locals := 168 }) s m [.ref o0, .ref m0, .int v1, .int v2].toArray below meth c H locs 0 0 Q (F0 m 87 ls []) := by
            intro j87_cm0r j87_cm0s j87_fm0_5 j87_fm0_6 j87_fm0_7 j87_fm0_8 j87_fm0_9 H locs ls hc87_1001 r87_1002 hl hP hD hS
            obtain ⟨x87_1, ex87_1⟩ : ∃ z : Int32, z = j44_l4 + 1 := ⟨_, rfl⟩
            have r87_2 : rg x87_1 1 100001 := rg_add ex87_1 r55_3 (show rg (1 : Int32) 1 1 from rg_l (by decide)) (by decide)
            refine lv_iinc (v := x87_1) (lv' := [(4, .int x87_1), (0, .ref o0), (1, .ref m0)]) hx hb dX5_perform_87 hl (k := 2) rfl (by rw [ex87_1]; rfl) (by decide) rfl (fun ls hl => ?_)
            refine lv_goto (tgt := 44) hx hb dX5_perform_90 (by decide) ?_
            have hP := hP.sub (ws' := [(o0, .inr (5, [.ref o0r, .int x_o0_1])), (o0r, .inl (ct 1, 60000, .inl g_o0r)), (k0, .inr (6, [.ref k0c, .ref k0l, .int x_k0_2])), (k0l, .inl (ct 1, 16, .inl g_k0l)), (k0c, .inl (ct 0, 4096, .inl g_k0c)), (m0s, .inl (ct 0, 64, .inl j87_cm0s)), (m0, .inr (4, [.ref m0r, .ref m0s, .ref k0, .int y_m0_34_4, .int y_m0_44_5, .int j87_fm0_5, .int j87_fm0_6, .int j87_fm0_7, .long j87_fm0_8, .int j87_fm0_9])), (m0r, .inl (ct 2, 32, .inr (.inl j87_cm0r)))]) [0, 1, 3, 4, 5, 6, 7, 2] rfl
            have hD := hD.sub (ws' := [(o0, .inr (5, [.ref o0r, .int x_o0_1])), (o0r, .inl (ct 1, 60000, .inl g_o0r)), (k0, .inr (6, [.ref k0c, .ref k0l, .int x_k0_2])), (k0l, .inl (ct 1, 16, .inl g_k0l)), (k0c, .inl (ct 0, 4096, .inl g_k0c)), (m0s, .inl (ct 0, 64, .inl j87_cm0s)), (m0, .inr (4, [.ref m0r, .ref m0s, .ref k0, .int y_m0_34_4, .int y_m0_44_5, .int j87_fm0_5, .int j87_fm0_6, .int j87_fm0_7, .long j87_fm0_8, .int j87_fm0_9])), (m0r, .inl (ct 2, 32, .inr (.inl j87_cm0r)))]) [0, 1, 3, 4, 5, 6, 7, 2] (by decide) rfl
            exact ih x87_1 j87_cm0s j87_fm0_5 j87_fm0_6 j87_fm0_7 j87_fm0_8 j87_fm0_9 j87_cm0r H locs ls (rg_w r87_2 (by decide)) hc87_1001 r87_1002 (show ((2147483647 : Int) - x87_1.toInt).toNat < n by have q0 := r55_3.1; have q1 := r55_3.2; have q2 := r87_2.1; have q3 := r87_2.2; have q4 := (eq_add ex87_1 r55_3 (show rg (1 : Int32) 1 1 from rg_l (by decide)) (by decide)); have q5 := (show rg (1 : Int32) 1 1 from rg_l (by decide)).1; have q6 := (show rg (1 : Int32) 1 1 from rg_l (by decide)).2; have q7 := (show rg (100000 : Int32) 100000 100000 from rg_l (by decide)).1; have q8 := (show rg (100000 : Int32) 100000 100000 from rg_l (by decide)).2; have q9 := t55_2; have q10 := hms; omega) (lv_sub hl [1, 2, 0] rfl) hP hD hS
          refine lv_icmp_ne (tgt := 74) hx hb dX5_perform_62 (by decide) (fun c62_1 => ?_) (fun c62_1 => ?_)
          · have t62_2 := (i_ne c62_1)
            have r62_3 : rg j44_l4 0 99999 := rg_neAh t62_2 r55_3 (show rg (100000 : Int32) 100000 100000 from rg_l (by decide)) (by decide)
            refine lv_aload_n hx hb dX5_perform_74 rfl (lv_at hl 0 rfl) ?_
            refine lv_aload_n hx hb dX5_perform_75 rfl (lv_at hl 1 rfl) ?_
            refine go_v (k1 := 0) (n1 := 0) (wr := []) [0, 6, 1, 7, 2, 3, 4, 5] [] (rn_V (As := [.ref m0]) (rest := []) (c_X5_step l D ct o0 m0 o0r x_o0_1 m0r m0s k0 y_m0_34_4 y_m0_44_5 j44_fm0_5 j44_fm0_6 j44_fm0_7 j44_fm0_8 j44_fm0_9 g_o0r j44_cm0r k0c k0l x_k0_2 g_k0l g_k0c j44_cm0s h_x_o0_1 (rg_w r48_3 (by decide)) h_x_k0_2 h_g_k0l h_g_k0c hc44_1002 _) (cb_of (n := 1) hn mw_1418 mw_5 mw_1415 mhX5_step ⟨(Nat.le_of_ble_eq_true rfl), (Nat.le_of_ble_eq_true rfl)⟩) hx hb hml hown hn hK hSK hZ hS mw_1417 mw_s166 (ci := 5) (q0 := 0) rfl rfl rfl rfl hl.1 (Nat.le_of_ble_eq_true rfl) dX5_perform_76 ⟨(Nat.le_of_ble_eq_true rfl), (Nat.le_of_ble_eq_true rfl)⟩) hP hD hS hA rfl rfl (by decide) (by decide) (by decide) (Nat.le_of_ble_eq_true rfl) (Nat.le_of_ble_eq_true rfl) (fun u76_2 H locs hp76_3 hP hD hS => ?_)
            obtain ⟨y_m0_576_4, y_m0_876_5, y_m0_976_6, k_m0r76_7, k_m0s76_8⟩ := u76_2
            obtain ⟨hp76_9, hp76_10⟩ := hp76_3
            have hp76_9 : rg y_m0_976_6 0 1 := hp76_9
            have hP : va_P D vwCl [(o0, .inr (5, [.ref o0r, .int x_o0_1])), (m0, .inr (4, [.ref m0r, .ref m0s, .ref k0, .int y_m0_34_4, .int y_m0_44_5, .int y_m0_576_4, .int j44_fm0_6, .int j44_fm0_7, .long y_m0_876_5, .int y_m0_976_6])), (o0r, .inl (ct 1, 60000, .inl g_o0r)), (m0r, .inl (ct 2, 32, .inr (.inl k_m0r76_7))), (k0, .inr (6, [.ref k0c, .ref k0l, .int x_k0_2])), (k0l, .inl (ct 1, 16, .inl g_k0l)), (k0c, .inl (ct 0, 4096, .inl g_k0c)), (m0s, .inl (ct 0, 64, .inl k_m0s76_8))] _ := hP
            have hD : va_D A [(o0, .inr (5, [.ref o0r, .int x_o0_1])), (m0, .inr (4, [.ref m0r, .ref m0s, .ref k0, .int y_m0_34_4, .int y_m0_44_5, .int y_m0_576_4, .int j44_fm0_6, .int j44_fm0_7, .long y_m0_876_5, .int y_m0_976_6])), (o0r, .inl (ct 1, 60000, .inl g_o0r)), (m0r, .inl (ct 2, 32, .inr (.inl k_m0r76_7))), (k0, .inr (6, [.ref k0c, .ref k0l, .int x_k0_2])), (k0l, .inl (ct 1, 16, .inl g_k0l)), (k0c, .inl (ct 0, 4096, .inl g_k0c)), (m0s, .inl (ct 0, 64, .inl k_m0s76_8))] := hD
            refine lv_aload_n hx hb dX5_perform_79 rfl (lv_at hl 1 rfl) ?_
            refine lv_aload_n hx hb dX5_perform_80 rfl (lv_at hl 0 rfl) ?_
            refine va_get (D := D) (ci := 5) (v := .int x_o0_1) (C := RX5) (T := TX5) (N := 2) hx hb (htX5 hn) (fun _ h => h) hown hK hP 0 rfl rfl 1 (by decide) (hn.get mw_133 rfl) (fun _ h9 => h9) rfl dX5_perform_81 ?_
            refine go_v (k1 := 0) (n1 := 0) (wr := [(o0, .inr (5, [.ref o0r, .int x_o0_1])), (o0r, .inl (ct 1, 60000, .inl g_o0r)), (m0r, .inl (ct 2, 32, .inr (.inl k_m0r76_7))), (k0, .inr (6, [.ref k0c, .ref k0l, .int x_k0_2])), (k0l, .inl (ct 1, 16, .inl g_k0l)), (k0c, .inl (ct 0, 4096, .inl g_k0c)), (m0s, .inl (ct 0, 64, .inl k_m0s76_8))]) [1] [0, 2, 3, 4, 5, 6, 7] (rn_VN (As := [.int x_o0_1]) (rest := []) (c_X4_stepOn l D ct m0 x_o0_1 m0r m0s k0 y_m0_34_4 y_m0_44_5 y_m0_576_4 j44_fm0_6 j44_fm0_7 y_m0_876_5 y_m0_976_6 hp76_9 _) (cn_of (n := 1) hn mw_1280 mw_4 mw_1482 mhX4_stepOn ⟨(Nat.le_of_ble_eq_true rfl), (Nat.le_of_ble_eq_true rfl)⟩) hx hb hml hown hn hK hSK hZ hS mw_1279 mw_s143 (ci := 4) (q0 := 0) rfl rfl rfl rfl hl.1 (Nat.le_of_ble_eq_true rfl) dX5_perform_84 ⟨(Nat.le_of_ble_eq_true rfl), (Nat.le_of_ble_eq_true rfl)⟩) hP hD hS hA rfl rfl (by decide) (by decide) (by decide) (Nat.le_of_ble_eq_true rfl) (Nat.le_of_ble_eq_true rfl) (fun u84_2 H locs hp84_3 hP hD hS => ?_)
            obtain ⟨y_m0_584_4, y_m0_684_5, y_m0_784_6, y_m0_884_7, y_m0_984_8⟩ := u84_2
            have hp84_9 := hp84_3
            have hp84_9 : rg y_m0_984_8 0 1 := hp84_9
            have hP : va_P D vwCl [(o0, .inr (5, [.ref o0r, .int x_o0_1])), (o0r, .inl (ct 1, 60000, .inl g_o0r)), (m0r, .inl (ct 2, 32, .inr (.inl k_m0r76_7))), (k0, .inr (6, [.ref k0c, .ref k0l, .int x_k0_2])), (k0l, .inl (ct 1, 16, .inl g_k0l)), (k0c, .inl (ct 0, 4096, .inl g_k0c)), (m0s, .inl (ct 0, 64, .inl k_m0s76_8)), (m0, .inr (4, [.ref m0r, .ref m0s, .ref k0, .int y_m0_34_4, .int y_m0_44_5, .int y_m0_584_4, .int y_m0_684_5, .int y_m0_784_6, .long y_m0_884_7, .int y_m0_984_8]))] _ := hP
            have hD : va_D A [(o0, .inr (5, [.ref o0r, .int x_o0_1])), (o0r, .inl (ct 1, 60000, .inl g_o0r)), (m0r, .inl (ct 2, 32, .inr (.inl k_m0r76_7))), (k0, .inr (6, [.ref k0c, .ref k0l, .int x_k0_2])), (k0l, .inl (ct 1, 16, .inl g_k0l)), (k0c, .inl (ct 0, 4096, .inl g_k0c)), (m0s, .inl (ct 0, 64, .inl k_m0s76_8)), (m0, .inr (4, [.ref m0r, .ref m0s, .ref k0, .int y_m0_34_4, .int y_m0_44_5, .int y_m0_584_4, .int y_m0_684_5, .int y_m0_784_6, .long y_m0_884_7, .int y_m0_984_8]))] := hD
            exact b87 k_m0r76_7 k_m0s76_8 y_m0_584_4 y_m0_684_5 y_m0_784_6 y_m0_884_7 y_m0_984_8 H locs ls hp76_10 hp84_9 (lv_sub hl [0, 1, 2] rfl) hP hD hS
          · have t62_2 := (i_eq c62_1)
            have r62_3 : rg j44_l4 100000 100000 := rg_eqA t62_2 r55_3 (show rg (100000 : Int32) 100000 100000 from rg_l (by decide)) (by decide)
            refine lv_aload_n hx hb dX5_perform_65 rfl (lv_at hl 1 rfl) ?_
            refine lv_bipush (v := 9) hx hb dX5_perform_66 (by decide) ?_
            refine go_v (k1 := 0) (n1 := 0) (wr := [(o0, .inr (5, [.ref o0r, .int x_o0_1])), (o0r, .inl (ct 1, 60000, .inl g_o0r)), (k0, .inr (6, [.ref k0c, .ref k0l, .int x_k0_2])), (k0l, .inl (ct 1, 16, .inl g_k0l)), (k0c, .inl (ct 0, 4096, .inl g_k0c)), (m0s, .inl (ct 0, 64, .inl j44_cm0s)), (m0r, .inl (ct 2, 32, .inr (.inl j44_cm0r)))]) [6] [0, 1, 2, 3, 4, 5, 7] (rn_VN (As := [.int 9]) (rest := []) (c_X4_stop l D ct m0 (9 : Int32) m0r m0s k0 y_m0_34_4 y_m0_44_5 j44_fm0_5 j44_fm0_6 j44_fm0_7 j44_fm0_8 j44_fm0_9 (rg_w r48_3 (by decide)) _) (cn_of (n := 1) hn mw_1214 mw_4 mw_1414 mhX4_stop ⟨(Nat.le_of_ble_eq_true rfl), (Nat.le_of_ble_eq_true rfl)⟩) hx hb hml hown hn hK hSK hZ hS mw_1213 mw_s133 (ci := 4) (q0 := 0) rfl rfl rfl rfl hl.1 (Nat.le_of_ble_eq_true rfl) dX5_perform_68 ⟨(Nat.le_of_ble_eq_true rfl), (Nat.le_of_ble_eq_true rfl)⟩) hP hD hS hA rfl rfl (by decide) (by decide) (by decide) (Nat.le_of_ble_eq_true rfl) (Nat.le_of_ble_eq_true rfl) (fun u68_2 H locs hp68_3 hP hD hS => ?_)
            have hp68_4 := hp68_3
            have hp68_4 : u68_2.toInt = (9 : Int32).toInt := hp68_4
            have hP : va_P D vwCl [(o0, .inr (5, [.ref o0r, .int x_o0_1])), (o0r, .inl (ct 1, 60000, .inl g_o0r)), (k0, .inr (6, [.ref k0c, .ref k0l, .int x_k0_2])), (k0l, .inl (ct 1, 16, .inl g_k0l)), (k0c, .inl (ct 0, 4096, .inl g_k0c)), (m0s, .inl (ct 0, 64, .inl j44_cm0s)), (m0r, .inl (ct 2, 32, .inr (.inl j44_cm0r))), (m0, .inr (4, [.ref m0r, .ref m0s, .ref k0, .int y_m0_34_4, .int y_m0_44_5, .int u68_2, .int j44_fm0_6, .int j44_fm0_7, .long j44_fm0_8, .int 1]))] _ := hP
            have hD : va_D A [(o0, .inr (5, [.ref o0r, .int x_o0_1])), (o0r, .inl (ct 1, 60000, .inl g_o0r)), (k0, .inr (6, [.ref k0c, .ref k0l, .int x_k0_2])), (k0l, .inl (ct 1, 16, .inl g_k0l)), (k0c, .inl (ct 0, 4096, .inl g_k0c)), (m0s, .inl (ct 0, 64, .inl j44_cm0s)), (m0r, .inl (ct 2, 32, .inr (.inl j44_cm0r))), (m0, .inr (4, [.ref m0r, .ref m0s, .ref k0, .int y_m0_34_4, .int y_m0_44_5, .int u68_2, .int j44_fm0_6, .int j44_fm0_7, .long j44_fm0_8, .int 1]))] := hD
            refine lv_goto (tgt := 87) hx hb dX5_perform_71 (by decide) ?_
            have hP := hP.sub (ws' := [(o0, .inr (5, [.ref o0r, .int x_o0_1])), (o0r, .inl (ct 1, 60000, .inl g_o0r)), (m0r, .inl (ct 2, 32, .inr (.inl j44_cm0r))), (k0, .inr (6, [.ref k0c, .ref k0l, .int x_k0_2])), (k0l, .inl (ct 1, 16, .inl g_k0l)), (k0c, .inl (ct 0, 4096, .inl g_k0c)), (m0s, .inl (ct 0, 64, .inl j44_cm0s)), (m0, .inr (4, [.ref m0r, .ref m0s, .ref k0, .int y_m0_34_4, .int y_m0_44_5, .int u68_2, .int j44_fm0_6, .int j44_fm0_7, .long j44_fm0_8, .int 1]))]) [0, 1, 6, 2, 3, 4, 5, 7] rfl
            have hD := hD.sub (ws' := [(o0, .inr (5, [.ref o0r, .int x_o0_1])), (o0r, .inl (ct 1, 60000, .inl g_o0r)), (m0r, .inl (ct 2, 32, .inr (.inl j44_cm0r))), (k0, .inr (6, [.ref k0c, .ref k0l, .int x_k0_2])), (k0l, .inl (ct 1, 16, .inl g_k0l)), (k0c, .inl (ct 0, 4096, .inl g_k0c)), (m0s, .inl (ct 0, 64, .inl j44_cm0s)), (m0, .inr (4, [.ref m0r, .ref m0s, .ref k0, .int y_m0_34_4, .int y_m0_44_5, .int u68_2, .int j44_fm0_6, .int j44_fm0_7, .long j44_fm0_8, .int 1]))]) [0, 1, 6, 2, 3, 4, 5, 7] (by decide) rfl
            exact b87 j44_cm0r j44_cm0s u68_2 j44_fm0_6 j44_fm0_7 j44_fm0_8 (1 : Int32) H locs ls hc44_1002 (rg_w (show rg (1 : Int32) 1 1 from rg_l (by decide)) (by decide)) (lv_sub hl [0, 1, 2] rfl) hP hD hS
  exact b44 _ (0 : Int32) k_m0s4_7 (0 : Int32) (0 : Int32) (0 : Int32) (1 : Int64) (0 : Int32) u38_2 H locs ls (rg_w (show rg (0 : Int32) 0 0 from rg_l (by decide)) (by decide)) hp4_8 (rg_w (show rg (0 : Int32) 0 0 from rg_l (by decide)) (by decide)) (Nat.lt_succ_self _) (lv_sub hl [1, 2, 0] rfl) hP hD hS
