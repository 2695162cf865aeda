/-! what packet, load and raw answer -/
set_option maxHeartbeats 2000000 in
theorem c_X6_add_w (l : Launch) (D : va_G) (ct : Nat → ClassId) (k0 : Nat) (t0 : Nat) (k0c : Nat) (k0l : Nat) (x_k0_2 : Int32) (t0r : Nat) (x_t0_1 : Int32) (g_k0l : Nat → Int32) (g_t0r : Nat → Int32) (g_k0c : Nat → Int32) (h_x_k0_2 : rg x_k0_2 0 16) (h_x_t0_1 : rg x_t0_1 0 2000) (h_g_k0l : Rg g_k0l 16 0 256) (h_g_t0r : Rg g_t0r 2000 (-128) 127) (h_g_k0c : Rg g_k0c 4096 (-128) 127) : KI (S := Int32 × (Nat → Int32) × (Nat → Int32)) l yX6_add cX6_add 3 (some .int) 2 41 D ct [.ref k0, .ref t0] [(k0, .inr (6, [.ref k0c, .ref k0l, .int x_k0_2])), (t0, .inr (9, [.ref t0r, .int x_t0_1])), (k0l, .inl (ct 1, 16, .inl g_k0l)), (t0r, .inl (ct 0, 2000, .inl g_t0r)), (k0c, .inl (ct 0, 4096, .inl g_k0c))] 0 0 (fun (r : Int32) (u : Int32 × (Nat → Int32) × (Nat → Int32)) => match u with | (y_k0_2, k_k0l, k_k0c) => rg r (-2) 15 ∧ rg y_k0_2 0 16 ∧ Rg k_k0l 16 0 256 ∧ Rg k_k0c 4096 (-128) 127 ∧ (x_k0_2.toInt + 0 ≤ y_k0_2.toInt ∧ y_k0_2.toInt ≤ x_k0_2.toInt + 1) ∧ (16 ≤ x_k0_2.toInt → r.toInt = -1 ∧ y_k0_2.toInt = x_k0_2.toInt) ∧ (x_k0_2.toInt < 16 ∧ 256 < x_t0_1.toInt → r.toInt = -2 ∧ y_k0_2.toInt = x_k0_2.toInt) ∧ (x_k0_2.toInt < 16 ∧ x_t0_1.toInt ≤ 256 → r.toInt = x_k0_2.toInt ∧ y_k0_2.toInt = x_k0_2.toInt + 1)) (fun (u : Int32 × (Nat → Int32) × (Nat → Int32)) => match u with | (y_k0_2, k_k0l, k_k0c) => [(k0, .inr (6, [.ref k0c, .ref k0l, .int y_k0_2])), (t0, .inr (9, [.ref t0r, .int x_t0_1])), (k0l, .inl (ct 1, 16, .inl k_k0l)), (t0r, .inl (ct 0, 2000, .inl g_t0r)), (k0c, .inl (ct 0, 4096, .inl k_k0c))]) := by
  refine KIq_of (by decide) (Nat.le_of_ble_eq_true rfl) (fun p e s m below meth c A Q C0 hA H locs hS hP hD hQ ls hl => ?_)
  obtain ⟨hx, hb, hr, hown, hin, hml, hlocks, hn, hK, hZ, hSK⟩ := C0
  have hl : lv_has ls 3 [(0, .ref k0), (1, .ref t0)] := hl
  refine lv_aload_n hx hb dX6_add_0 rfl (lv_at hl 0 rfl) ?_
  refine va_get (D := D) (ci := 6) (v := .int x_k0_2) (C := RX6) (T := TX6) (N := 3) hx hb (htX6 hn) (fun _ h => h) hown hK hP 0 rfl rfl 2 (by decide) (hn.get mw_63 rfl) (fun _ h9 => h9) rfl dX6_add_1 ?_
  refine lv_bipush (v := 16) hx hb dX6_add_4 (by decide) ?_
  refine lv_icmp_lt (tgt := 11) hx hb dX6_add_6 (by decide) (fun c6_1 => ?_) (fun c6_1 => ?_)
  · have t6_2 := FF.mk (i_lt c6_1)
    have r6_3 : rg x_k0_2 0 15 := rg_ltA t6_2 h_x_k0_2 (show rg (16 : Int32) 16 16 from rg_l (by decide)) (by decide)
    refine lv_aload_n hx hb dX6_add_11 rfl (lv_at hl 1 rfl) ?_
    refine va_getN (D := D) (ci := 9) (v := .int x_t0_1) (C := RX9) (T := TX9) (N := 2) hx hb (htX9 hn) (fun _ h => h) hown hK hP 1 rfl rfl 1 (by decide) (hn.get mw_46 rfl) (fun _ h9 => h9) rfl dX6_add_12 ?_
    refine lv_sipush (v := 256) hx hb dX6_add_15 (by decide) ?_
    refine lv_icmp_le (tgt := 24) hx hb dX6_add_18 (by decide) (fun c18_1 => ?_) (fun c18_1 => ?_)
    · have t18_2 := FF.mk (i_le c18_1)
      have r18_3 : rg x_t0_1 0 256 := rg_leA t18_2 h_x_t0_1 (show rg (256 : Int32) 256 256 from rg_l (by decide)) (by decide)
      refine lv_iconst (v := 0) hx hb dX6_add_24 (by decide) ?_
      refine lv_istore_n (lv' := [(2, .int 0), (0, .ref k0), (1, .ref t0)]) hx hb dX6_add_25 rfl hl (by decide) rfl (fun ls hl => ?_)
      have b26 : ∀ (n26 : Nat) (j26_l2 : Int32) (j26_ck0c : Nat → Int32) (H : Heap) (locs : List Loc) (ls : Array Slot), (rg j26_l2 0 256) → (Rg j26_ck0c 4096 (-128) 127) → ((2147483647 : Int) - j26_l2.toInt).toNat < n26 → lv_has ls 3 [(0, .ref k0), (1, .ref t0), (2, .int j26_l2)] → va_P D vwCl [(k0, .inr (6, [.ref k0c, .ref k0l, .int x_k0_2])), (t0, .inr (9, [.ref t0r, .int x_t0_1])), (k0l, .inl (ct 1, 16, .inl g_k0l)), (t0r, .inl (ct 0, 2000, .inl g_t0r)), (k0c, .inl (ct 0, 4096, .inl j26_ck0c))] H → va_D A [(k0, .inr (6, [.ref k0c, .ref k0l, .int x_k0_2])), (t0, .inr (9, [.ref t0r, .int x_t0_1])), (k0l, .inl (ct 1, 16, .inl g_k0l)), (t0r, .inl (ct 0, 2000, .inl g_t0r)), (k0c, .inl (ct 0, 4096, .inl j26_ck0c))] → va_S A s.heap H locs → W p l e ({ frames := 2, cells := 0, slots := 0, locals := 41 }) s m [.ref k0, .ref t0].toArray below meth c H locs 0 0 Q (F0 m 26 ls []) := by
        intro n26
        induction n26 with
        | zero => intros; rename_i hms _ _ _ _; exact absurd hms (Nat.not_lt_zero _)
        | succ n26 ih26 =>
          intro j26_l2 j26_ck0c H locs ls r26_1001 hc26_1002 hms26 hl hP hD hS
          refine lv_iload_n hx hb dX6_add_26 rfl (lv_at hl 2 rfl) ?_
          refine lv_aload_n hx hb dX6_add_27 rfl (lv_at hl 1 rfl) ?_
          refine va_getN (D := D) (ci := 9) (v := .int x_t0_1) (C := RX9) (T := TX9) (N := 2) hx hb (htX9 hn) (fun _ h => h) hown hK hP 1 rfl rfl 1 (by decide) (hn.get mw_46 rfl) (fun _ h9 => h9) rfl dX6_add_28 ?_
          refine lv_icmp_ge (tgt := 61) hx hb dX6_add_31 (by decide) (fun c31_1 => ?_) (fun c31_1 => ?_)
          · have t31_2 := FF.mk (i_le c31_1)
            refine lv_aload_n hx hb dX6_add_61 rfl (lv_at hl 0 rfl) ?_
            refine va_get (D := D) (ci := 6) (v := .ref k0l) (C := RX6) (T := TX6) (N := 3) hx hb (htX6 hn) (fun _ h => h) hown hK hP 0 rfl rfl 1 (by decide) (hn.get mw_62 rfl) (fun _ h9 => h9) rfl dX6_add_62 ?_
            refine lv_aload_n hx hb dX6_add_65 rfl (lv_at hl 0 rfl) ?_
            refine va_get (D := D) (ci := 6) (v := .int x_k0_2) (C := RX6) (T := TX6) (N := 3) hx hb (htX6 hn) (fun _ h => h) hown hK hP 0 rfl rfl 2 (by decide) (hn.get mw_63 rfl) (fun _ h9 => h9) rfl dX6_add_66 ?_
            refine lv_aload_n hx hb dX6_add_69 rfl (lv_at hl 1 rfl) ?_
            refine va_getN (D := D) (ci := 9) (v := .int x_t0_1) (C := RX9) (T := TX9) (N := 2) hx hb (htX9 hn) (fun _ h => h) hown hK hP 1 rfl rfl 1 (by decide) (hn.get mw_46 rfl) (fun _ h9 => h9) rfl dX6_add_70 ?_
            have hi73_1 : vp_in x_k0_2 16 := (in_rg r6_3 (by decide))
            refine va_iast hx hb hK hP hD hS 2 1 rfl rfl hi73_1 dX6_add_73 (fun H locs hP hD hS => ?_)
            have hP : va_P D vwCl [(k0, .inr (6, [.ref k0c, .ref k0l, .int x_k0_2])), (t0, .inr (9, [.ref t0r, .int x_t0_1])), (k0l, .inl (ct 1, 16, .inl (upd g_k0l x_k0_2.toNatClampNeg x_t0_1))), (t0r, .inl (ct 0, 2000, .inl g_t0r)), (k0c, .inl (ct 0, 4096, .inl j26_ck0c))] _ := hP
            have hD : va_D A [(k0, .inr (6, [.ref k0c, .ref k0l, .int x_k0_2])), (t0, .inr (9, [.ref t0r, .int x_t0_1])), (k0l, .inl (ct 1, 16, .inl (upd g_k0l x_k0_2.toNatClampNeg x_t0_1))), (t0r, .inl (ct 0, 2000, .inl g_t0r)), (k0c, .inl (ct 0, 4096, .inl j26_ck0c))] := hD
            obtain ⟨f73_2, ef73_2⟩ : ∃ z, z = (upd g_k0l x_k0_2.toNatClampNeg x_t0_1) := ⟨_, rfl⟩
            rw [← ef73_2] at hP hD
            have hc73_3 : Rg f73_2 16 0 256 := Rg_upd ef73_2 h_g_k0l r18_3
            refine lv_aload_n hx hb dX6_add_74 rfl (lv_at hl 0 rfl) ?_
            refine lv_dup hx hb dX6_add_75 rfl ?_
            refine va_get (D := D) (ci := 6) (v := .int x_k0_2) (C := RX6) (T := TX6) (N := 3) hx hb (htX6 hn) (fun _ h => h) hown hK hP 0 rfl rfl 2 (by decide) (hn.get mw_63 rfl) (fun _ h9 => h9) rfl dX6_add_76 ?_
            refine lv_iconst (v := 1) hx hb dX6_add_79 (by decide) ?_
            refine lv_iadd hx hb dX6_add_80 ?_
            refine lv_topi (fun z80_1 ez80_1 => ?_)
            have r80_2 : rg z80_1 1 16 := rg_add ez80_1 r6_3 (show rg (1 : Int32) 1 1 from rg_l (by decide)) (by decide)
            refine va_put (D := D) (ci := 6) (v := .int z80_1) (ty := .int) (C := RX6) (T := TX6) (N := 3) hx hb (htX6 hn) (fun _ h => h) tyX6 tyX6_ok nmX6 hown hK hP hD hS 0 rfl rfl 2 (by decide) (hn.get mw_63 rfl) (fun _ h9 => h9) rfl (by decide +kernel) rfl rfl (Nat.le_of_ble_eq_true rfl) dX6_add_81 (fun H locs hP hD hS => ?_)
            have hP : va_P D vwCl [(k0, .inr (6, [.ref k0c, .ref k0l, .int z80_1])), (t0, .inr (9, [.ref t0r, .int x_t0_1])), (k0l, .inl (ct 1, 16, .inl f73_2)), (t0r, .inl (ct 0, 2000, .inl g_t0r)), (k0c, .inl (ct 0, 4096, .inl j26_ck0c))] _ := hP
            have hD : va_D A [(k0, .inr (6, [.ref k0c, .ref k0l, .int z80_1])), (t0, .inr (9, [.ref t0r, .int x_t0_1])), (k0l, .inl (ct 1, 16, .inl f73_2)), (t0r, .inl (ct 0, 2000, .inl g_t0r)), (k0c, .inl (ct 0, 4096, .inl j26_ck0c))] := hD
            refine lv_aload_n hx hb dX6_add_84 rfl (lv_at hl 0 rfl) ?_
            refine va_get (D := D) (ci := 6) (v := .int z80_1) (C := RX6) (T := TX6) (N := 3) hx hb (htX6 hn) (fun _ h => h) hown hK hP 0 rfl rfl 2 (by decide) (hn.get mw_63 rfl) (fun _ h9 => h9) rfl dX6_add_85 ?_
            refine lv_iconst (v := 1) hx hb dX6_add_88 (by decide) ?_
            refine lv_isub hx hb dX6_add_89 ?_
            refine lv_topi (fun z89_1 ez89_1 => ?_)
            have r89_2 : rg z89_1 0 15 := rg_sub ez89_1 r80_2 (show rg (1 : Int32) 1 1 from rg_l (by decide)) (by decide)
            exact endq_i hQ hx hb hr hlocks dX6_add_90 rfl (z80_1, f73_2, j26_ck0c) ⟨(rg_w r89_2 (by decide)), (rg_w r80_2 (by decide)), hc73_3, hc26_1002, (show x_k0_2.toInt + 0 ≤ z80_1.toInt ∧ z80_1.toInt ≤ x_k0_2.toInt + 1 by have q0 := (eq_add ez80_1 r6_3 (show rg (1 : Int32) 1 1 from rg_l (by decide)) (by decide)); have q1 := (show (1 : Int32).toInt = 1 from by decide); omega), (show 16 ≤ x_k0_2.toInt → z89_1.toInt = -1 ∧ z80_1.toInt = x_k0_2.toInt by have q0 := r6_3.2; omega), (show x_k0_2.toInt < 16 ∧ 256 < x_t0_1.toInt → z89_1.toInt = -2 ∧ z80_1.toInt = x_k0_2.toInt by have q0 := r18_3.2; omega), (show x_k0_2.toInt < 16 ∧ x_t0_1.toInt ≤ 256 → z89_1.toInt = x_k0_2.toInt ∧ z80_1.toInt = x_k0_2.toInt + 1 by have q0 := (eq_add ez80_1 r6_3 (show rg (1 : Int32) 1 1 from rg_l (by decide)) (by decide)); have q1 := (eq_sub ez89_1 r80_2 (show rg (1 : Int32) 1 1 from rg_l (by decide)) (by decide)); have q2 := (show (1 : Int32).toInt = 1 from by decide); omega)⟩ hP hD hS [0, 1, 2, 3, 4] rfl (by decide) rfl (Nat.le_of_ble_eq_true rfl) (Nat.le_of_ble_eq_true rfl)
          · have t31_2 := FF.mk (i_nle c31_1)
            have r31_3 : rg j26_l2 0 255 := rg_ltA t31_2 r26_1001 r18_3 (by decide)
            have r31_4 : rg x_t0_1 1 256 := rg_ltB t31_2 r26_1001 r18_3 (by decide)
            refine lv_aload_n hx hb dX6_add_34 rfl (lv_at hl 0 rfl) ?_
            refine va_get (D := D) (ci := 6) (v := .ref k0c) (C := RX6) (T := TX6) (N := 3) hx hb (htX6 hn) (fun _ h => h) hown hK hP 0 rfl rfl 0 (by decide) (hn.get mw_61 rfl) (fun _ h9 => h9) rfl dX6_add_35 ?_
            refine lv_aload_n hx hb dX6_add_38 rfl (lv_at hl 0 rfl) ?_
            refine va_get (D := D) (ci := 6) (v := .int x_k0_2) (C := RX6) (T := TX6) (N := 3) hx hb (htX6 hn) (fun _ h => h) hown hK hP 0 rfl rfl 2 (by decide) (hn.get mw_63 rfl) (fun _ h9 => h9) rfl dX6_add_39 ?_
            refine lv_sipush (v := 256) hx hb dX6_add_42 (by decide) ?_
            refine lv_imul hx hb dX6_add_45 ?_
            refine lv_topi (fun z45_1 ez45_1 => ?_)
            have r45_2 : rg z45_1 0 3840 := rg_mul ez45_1 r6_3 (show rg (256 : Int32) 256 256 from rg_l (by decide)) (by decide)
            refine lv_iload_n hx hb dX6_add_46 rfl (lv_at hl 2 rfl) ?_
            refine lv_iadd hx hb dX6_add_47 ?_
            refine lv_topi (fun z47_1 ez47_1 => ?_)
            have r47_2 : rg z47_1 0 4095 := rg_add ez47_1 r45_2 r31_3 (by decide)
            refine lv_aload_n hx hb dX6_add_48 rfl (lv_at hl 1 rfl) ?_
            refine lv_iload_n hx hb dX6_add_49 rfl (lv_at hl 2 rfl) ?_
            refine go_i (k1 := 0) (n1 := 0) (wr := [(k0, .inr (6, [.ref k0c, .ref k0l, .int x_k0_2])), (k0l, .inl (ct 1, 16, .inl g_k0l)), (k0c, .inl (ct 0, 4096, .inl j26_ck0c))]) [1, 3] [0, 2, 4] (rn_VN (As := [.int j26_l2]) (rest := [.int z47_1, .ref k0c]) (c_X9_at l D ct t0 j26_l2 t0r x_t0_1 g_t0r (rg_w r31_4 (by decide)) h_g_t0r _) (cn_of (n := 1) hn mw_452 mw_2 mw_449 mhX9_at ⟨(Nat.le_of_ble_eq_true rfl), (Nat.le_of_ble_eq_true rfl)⟩) hx hb hml hown hn hK hSK hZ hS mw_451 mw_s3 (ci := 9) (q0 := 0) rfl rfl rfl rfl hl.1 (Nat.le_of_ble_eq_true rfl) dX6_add_50 ⟨(Nat.le_of_ble_eq_true rfl), (Nat.le_of_ble_eq_true rfl)⟩) hP hD hS hA rfl rfl (by decide) (by decide) (by decide) (Nat.le_of_ble_eq_true rfl) (Nat.le_of_ble_eq_true rfl) (fun r50_1 u50_2 H locs hp50_3 hP hD hS => ?_)
            have hp50_4 := hp50_3
            have hp50_4 : rg r50_1 (-1) 255 := hp50_4
            have hP : va_P D vwCl [(k0, .inr (6, [.ref k0c, .ref k0l, .int x_k0_2])), (k0l, .inl (ct 1, 16, .inl g_k0l)), (k0c, .inl (ct 0, 4096, .inl j26_ck0c)), (t0, .inr (9, [.ref t0r, .int x_t0_1])), (t0r, .inl (ct 0, 2000, .inl g_t0r))] _ := hP
            have hD : va_D A [(k0, .inr (6, [.ref k0c, .ref k0l, .int x_k0_2])), (k0l, .inl (ct 1, 16, .inl g_k0l)), (k0c, .inl (ct 0, 4096, .inl j26_ck0c)), (t0, .inr (9, [.ref t0r, .int x_t0_1])), (t0r, .inl (ct 0, 2000, .inl g_t0r))] := hD
            refine lv_i2b hx hb dX6_add_53 rfl ?_
            refine lv_topi (fun z53_1 ez53_1 => ?_)
            have r53_2 : rg z53_1 (-128) 127 := rg_i2b ez53_1
            have hi54_1 : vp_in z47_1 4096 := (in_rg r47_2 (by decide))
            refine va_bast hx hb hK hP hD hS 2 0 rfl rfl hi54_1 dX6_add_54 (fun H locs hP hD hS => ?_)
            have hP : va_P D vwCl [(k0, .inr (6, [.ref k0c, .ref k0l, .int x_k0_2])), (k0l, .inl (ct 1, 16, .inl g_k0l)), (k0c, .inl (ct 0, 4096, .inl (upd j26_ck0c z47_1.toNatClampNeg (vp_nar .byte z53_1)))), (t0, .inr (9, [.ref t0r, .int x_t0_1])), (t0r, .inl (ct 0, 2000, .inl g_t0r))] _ := hP
            have hD : va_D A [(k0, .inr (6, [.ref k0c, .ref k0l, .int x_k0_2])), (k0l, .inl (ct 1, 16, .inl g_k0l)), (k0c, .inl (ct 0, 4096, .inl (upd j26_ck0c z47_1.toNatClampNeg (vp_nar .byte z53_1)))), (t0, .inr (9, [.ref t0r, .int x_t0_1])), (t0r, .inl (ct 0, 2000, .inl g_t0r))] := hD
            obtain ⟨f54_2, ef54_2⟩ : ∃ z, z = (upd j26_ck0c z47_1.toNatClampNeg (vp_nar .byte z53_1)) := ⟨_, rfl⟩
            rw [← ef54_2] at hP hD
            have hc54_3 : Rg f54_2 4096 (-128) 127 := Rg_upd ef54_2 hc26_1002 (rg_narB z53_1)
            obtain ⟨x55_1, ex55_1⟩ : ∃ z : Int32, z = j26_l2 + 1 := ⟨_, rfl⟩
            have r55_2 : rg x55_1 1 256 := rg_add ex55_1 r31_3 (show rg (1 : Int32) 1 1 from rg_l (by decide)) (by decide)
            refine lv_iinc (v := x55_1) (lv' := [(2, .int x55_1), (0, .ref k0), (1, .ref t0)]) hx hb dX6_add_55 hl (k := 2) rfl (by rw [ex55_1]; rfl) (by decide) rfl (fun ls hl => ?_)
            refine lv_goto (tgt := 26) hx hb dX6_add_58 (by decide) ?_
            have hP := hP.sub (ws' := [(k0, .inr (6, [.ref k0c, .ref k0l, .int x_k0_2])), (t0, .inr (9, [.ref t0r, .int x_t0_1])), (k0l, .inl (ct 1, 16, .inl g_k0l)), (t0r, .inl (ct 0, 2000, .inl g_t0r)), (k0c, .inl (ct 0, 4096, .inl f54_2))]) [0, 3, 1, 4, 2] rfl
            have hD := hD.sub (ws' := [(k0, .inr (6, [.ref k0c, .ref k0l, .int x_k0_2])), (t0, .inr (9, [.ref t0r, .int x_t0_1])), (k0l, .inl (ct 1, 16, .inl g_k0l)), (t0r, .inl (ct 0, 2000, .inl g_t0r)), (k0c, .inl (ct 0, 4096, .inl f54_2))]) [0, 3, 1, 4, 2] (by decide) rfl
            exact ih26 x55_1 f54_2 H locs ls (rg_w r55_2 (by decide)) hc54_3 (show ((2147483647 : Int) - x55_1.toInt).toNat < n26 by have q0 := r31_3.2; have q1 := (eq_add ex55_1 r31_3 (show rg (1 : Int32) 1 1 from rg_l (by decide)) (by decide)); have q2 := (show (1 : Int32).toInt = 1 from by decide); have q3 := hms26; omega) (lv_sub hl [1, 2, 0] rfl) hP hD hS
      exact b26 _ (0 : Int32) g_k0c H locs ls (rg_w (show rg (0 : Int32) 0 0 from rg_l (by decide)) (by decide)) h_g_k0c (Nat.lt_succ_self _) (lv_sub hl [1, 2, 0] rfl) hP hD hS
    · have t18_2 := FF.mk (i_nle c18_1)
      have r18_3 : rg x_t0_1 257 2000 := rg_ltB t18_2 (show rg (256 : Int32) 256 256 from rg_l (by decide)) h_x_t0_1 (by decide)
      refine lv_bipush (v := (-2)) hx hb dX6_add_21 (by decide) ?_
      exact endq_i hQ hx hb hr hlocks dX6_add_23 rfl (x_k0_2, g_k0l, g_k0c) ⟨(rg_w (show rg ((-2) : Int32) (-2) (-2) from rg_l (by decide)) (by decide)), (rg_w r6_3 (by decide)), h_g_k0l, h_g_k0c, (show x_k0_2.toInt + 0 ≤ x_k0_2.toInt ∧ x_k0_2.toInt ≤ x_k0_2.toInt + 1 by omega), (show 16 ≤ x_k0_2.toInt → (-2 : Int32).toInt = -1 ∧ x_k0_2.toInt = x_k0_2.toInt by have q0 := r6_3.2; have q1 := (show (-2 : Int32).toInt = -2 from by decide); omega), (show x_k0_2.toInt < 16 ∧ 256 < x_t0_1.toInt → (-2 : Int32).toInt = -2 ∧ x_k0_2.toInt = x_k0_2.toInt by have q0 := (show (-2 : Int32).toInt = -2 from by decide); omega), (show x_k0_2.toInt < 16 ∧ x_t0_1.toInt ≤ 256 → (-2 : Int32).toInt = x_k0_2.toInt ∧ x_k0_2.toInt = x_k0_2.toInt + 1 by have q0 := r18_3.1; have q1 := (show (-2 : Int32).toInt = -2 from by decide); omega)⟩ hP hD hS [0, 1, 2, 3, 4] rfl (by decide) rfl (Nat.le_of_ble_eq_true rfl) (Nat.le_of_ble_eq_true rfl)
  · have t6_2 := FF.mk (i_nlt c6_1)
    have r6_3 : rg x_k0_2 16 16 := rg_leB t6_2 (show rg (16 : Int32) 16 16 from rg_l (by decide)) h_x_k0_2 (by decide)
    refine lv_iconst (v := (-1)) hx hb dX6_add_9 (by decide) ?_
    exact endq_i hQ hx hb hr hlocks dX6_add_10 rfl (x_k0_2, g_k0l, g_k0c) ⟨(rg_w (show rg ((-1) : Int32) (-1) (-1) from rg_l (by decide)) (by decide)), (rg_w r6_3 (by decide)), h_g_k0l, h_g_k0c, (show x_k0_2.toInt + 0 ≤ x_k0_2.toInt ∧ x_k0_2.toInt ≤ x_k0_2.toInt + 1 by omega), (show 16 ≤ x_k0_2.toInt → (-1 : Int32).toInt = -1 ∧ x_k0_2.toInt = x_k0_2.toInt by have q0 := (show (-1 : Int32).toInt = -1 from by decide); omega), (show x_k0_2.toInt < 16 ∧ 256 < x_t0_1.toInt → (-1 : Int32).toInt = -2 ∧ x_k0_2.toInt = x_k0_2.toInt by have q0 := r6_3.1; have q1 := (show (-1 : Int32).toInt = -1 from by decide); omega), (show x_k0_2.toInt < 16 ∧ x_t0_1.toInt ≤ 256 → (-1 : Int32).toInt = x_k0_2.toInt ∧ x_k0_2.toInt = x_k0_2.toInt + 1 by have q0 := r6_3.1; have q1 := (show (-1 : Int32).toInt = -1 from by decide); omega)⟩ hP hD hS [0, 1, 2, 3, 4] rfl (by decide) rfl (Nat.le_of_ble_eq_true rfl) (Nat.le_of_ble_eq_true rfl)
set_option maxHeartbeats 2000000 in
theorem c_X11_packet_w (l : Launch) (D : va_G) (ct : Nat → ClassId) (ff : Nat) (t0 : Nat) (k0 : Nat) (m0 : Nat) (o0 : Nat) (f0 : Nat) (f1 : Nat) (p0 : Nat) (p1 : Nat) (x_ff_8 : Int32) (rd : Nat) (cd : Nat) (tl : Nat) (in0 : Nat) (in1 : Nat) (k0c : Nat) (k0l : Nat) (x_k0_2 : Int32) (t0r : Nat) (x_t0_1 : Int32) (g_k0l : Nat → Int32) (g_t0r : Nat → Int32) (g_k0c : Nat → Int32) (h_x_ff_8 : rg x_ff_8 0 1) (h_x_k0_2 : rg x_k0_2 0 16) (h_x_t0_1 : rg x_t0_1 0 2000) (h_g_k0l : Rg g_k0l 16 0 256) (h_g_t0r : Rg g_t0r 2000 (-128) 127) (h_g_k0c : Rg g_k0c 4096 (-128) 127) : KI (S := Int32 × (Nat → Int32) × (Nat → Int32)) l yX11_packet cX11_packet 2 (some .int) 3 63 D ct [.ref ff] [(ff, .inr (11, [.ref t0, .ref k0, .ref m0, .ref o0, .ref f0, .ref f1, .ref p0, .ref p1, .int x_ff_8, .ref rd, .ref cd, .ref tl, .ref in0, .ref in1])), (k0, .inr (6, [.ref k0c, .ref k0l, .int x_k0_2])), (t0, .inr (9, [.ref t0r, .int x_t0_1])), (k0l, .inl (ct 1, 16, .inl g_k0l)), (t0r, .inl (ct 0, 2000, .inl g_t0r)), (k0c, .inl (ct 0, 4096, .inl g_k0c))] 0 0 (fun (r : Int32) (u : Int32 × (Nat → Int32) × (Nat → Int32)) => match u with | (y_k0_2, k_k0l, k_k0c) => rg r (-2) 15 ∧ rg y_k0_2 0 16 ∧ Rg k_k0l 16 0 256 ∧ Rg k_k0c 4096 (-128) 127 ∧ (x_k0_2.toInt + 0 ≤ y_k0_2.toInt ∧ y_k0_2.toInt ≤ x_k0_2.toInt + 1) ∧ (16 ≤ x_k0_2.toInt → r.toInt = -1 ∧ y_k0_2.toInt = x_k0_2.toInt) ∧ (x_k0_2.toInt < 16 ∧ 256 < x_t0_1.toInt → r.toInt = -2 ∧ y_k0_2.toInt = x_k0_2.toInt) ∧ (x_k0_2.toInt < 16 ∧ x_t0_1.toInt ≤ 256 → r.toInt = x_k0_2.toInt ∧ y_k0_2.toInt = x_k0_2.toInt + 1)) (fun (u : Int32 × (Nat → Int32) × (Nat → Int32)) => match u with | (y_k0_2, k_k0l, k_k0c) => [(ff, .inr (11, [.ref t0, .ref k0, .ref m0, .ref o0, .ref f0, .ref f1, .ref p0, .ref p1, .int x_ff_8, .ref rd, .ref cd, .ref tl, .ref in0, .ref in1])), (k0, .inr (6, [.ref k0c, .ref k0l, .int y_k0_2])), (t0, .inr (9, [.ref t0r, .int 0])), (k0l, .inl (ct 1, 16, .inl k_k0l)), (t0r, .inl (ct 0, 2000, .inl g_t0r)), (k0c, .inl (ct 0, 4096, .inl k_k0c))]) := by
  refine KIq_of (by decide) (Nat.le_of_ble_eq_true rfl) (fun p e s m below meth c A Q C0 hA H locs hS hP hD hQ ls hl => ?_)
  obtain ⟨hx, hb, hr, hown, hin, hml, hlocks, hn, hK, hZ, hSK⟩ := C0
  have hl : lv_has ls 2 [(0, .ref ff)] := hl
  refine lv_aload_n hx hb dX11_packet_0 rfl (lv_at hl 0 rfl) ?_
  refine va_get (D := D) (ci := 11) (v := .ref k0) (C := RX11) (T := TX11) (N := 14) hx hb (htX11 hn) (fun _ h => h) hown hK hP 0 rfl rfl 1 (by decide) (hn.get mw_382 rfl) (fun _ h9 => h9) rfl dX11_packet_1 ?_
  refine lv_aload_n hx hb dX11_packet_4 rfl (lv_at hl 0 rfl) ?_
  refine va_get (D := D) (ci := 11) (v := .ref t0) (C := RX11) (T := TX11) (N := 14) hx hb (htX11 hn) (fun _ h => h) hown hK hP 0 rfl rfl 0 (by decide) (hn.get mw_381 rfl) (fun _ h9 => h9) rfl dX11_packet_5 ?_
  refine go_i (k1 := 0) (n1 := 0) (wr := [(ff, .inr (11, [.ref t0, .ref k0, .ref m0, .ref o0, .ref f0, .ref f1, .ref p0, .ref p1, .int x_ff_8, .ref rd, .ref cd, .ref tl, .ref in0, .ref in1]))]) [1, 2, 3, 4, 5] [0] (rn_VN (As := [.ref t0]) (rest := []) (c_X6_add_w l D ct k0 t0 k0c k0l x_k0_2 t0r x_t0_1 g_k0l g_t0r g_k0c h_x_k0_2 h_x_t0_1 h_g_k0l h_g_t0r h_g_k0c _) (cn_of (n := 1) hn mw_448 mw_3 mw_445 mhX6_add ⟨(Nat.le_of_ble_eq_true rfl), (Nat.le_of_ble_eq_true rfl)⟩) hx hb hml hown hn hK hSK hZ hS mw_447 mw_s2 (ci := 6) (q0 := 0) rfl rfl rfl rfl hl.1 (Nat.le_of_ble_eq_true rfl) dX11_packet_8 ⟨(Nat.le_of_ble_eq_true rfl), (Nat.le_of_ble_eq_true rfl)⟩) hP hD hS hA rfl rfl (by decide) (by decide) (by decide) (Nat.le_of_ble_eq_true rfl) (Nat.le_of_ble_eq_true rfl) (fun r8_1 u8_2 H locs hp8_3 hP hD hS => ?_)
  obtain ⟨y_k0_28_4, k_k0l8_5, k_k0c8_6⟩ := u8_2
  obtain ⟨hp8_7, hp8_8, hp8_9, hp8_10, hp8_11, hp8_12, hp8_13, hp8_14⟩ := hp8_3
  have hp8_7 : rg r8_1 (-2) 15 := hp8_7
  have hp8_8 : rg y_k0_28_4 0 16 := hp8_8
  replace hp8_11 : FF (x_k0_2.toInt + 0 ≤ y_k0_28_4.toInt ∧ y_k0_28_4.toInt ≤ x_k0_2.toInt + 1) := hp8_11
  replace hp8_12 : FF (16 ≤ x_k0_2.toInt → r8_1.toInt = -1 ∧ y_k0_28_4.toInt = x_k0_2.toInt) := hp8_12
  replace hp8_13 : FF (x_k0_2.toInt < 16 ∧ 256 < x_t0_1.toInt → r8_1.toInt = -2 ∧ y_k0_28_4.toInt = x_k0_2.toInt) := hp8_13
  replace hp8_14 : FF (x_k0_2.toInt < 16 ∧ x_t0_1.toInt ≤ 256 → r8_1.toInt = x_k0_2.toInt ∧ y_k0_28_4.toInt = x_k0_2.toInt + 1) := hp8_14
  have hP : va_P D vwCl [(ff, .inr (11, [.ref t0, .ref k0, .ref m0, .ref o0, .ref f0, .ref f1, .ref p0, .ref p1, .int x_ff_8, .ref rd, .ref cd, .ref tl, .ref in0, .ref in1])), (k0, .inr (6, [.ref k0c, .ref k0l, .int y_k0_28_4])), (t0, .inr (9, [.ref t0r, .int x_t0_1])), (k0l, .inl (ct 1, 16, .inl k_k0l8_5)), (t0r, .inl (ct 0, 2000, .inl g_t0r)), (k0c, .inl (ct 0, 4096, .inl k_k0c8_6))] _ := hP
  have hD : va_D A [(ff, .inr (11, [.ref t0, .ref k0, .ref m0, .ref o0, .ref f0, .ref f1, .ref p0, .ref p1, .int x_ff_8, .ref rd, .ref cd, .ref tl, .ref in0, .ref in1])), (k0, .inr (6, [.ref k0c, .ref k0l, .int y_k0_28_4])), (t0, .inr (9, [.ref t0r, .int x_t0_1])), (k0l, .inl (ct 1, 16, .inl k_k0l8_5)), (t0r, .inl (ct 0, 2000, .inl g_t0r)), (k0c, .inl (ct 0, 4096, .inl k_k0c8_6))] := hD
  refine lv_istore_n (lv' := [(1, .int r8_1), (0, .ref ff)]) hx hb dX11_packet_11 rfl hl (by decide) rfl (fun ls hl => ?_)
  refine lv_aload_n hx hb dX11_packet_12 rfl (lv_at hl 1 rfl) ?_
  refine va_get (D := D) (ci := 11) (v := .ref t0) (C := RX11) (T := TX11) (N := 14) hx hb (htX11 hn) (fun _ h => h) hown hK hP 0 rfl rfl 0 (by decide) (hn.get mw_381 rfl) (fun _ h9 => h9) rfl dX11_packet_13 ?_
  refine lv_iconst (v := 0) hx hb dX11_packet_16 (by decide) ?_
  refine va_putN (D := D) (ci := 9) (v := .int 0) (ty := .int) (C := RX9) (T := TX9) (N := 2) hx hb (htX9 hn) (fun _ h => h) tyX9 tyX9_ok nmX9 hown hK hP hD hS 2 rfl rfl 1 (by decide) (hn.get mw_47 rfl) (fun _ h9 => h9) rfl (by decide +kernel) rfl rfl (Nat.le_of_ble_eq_true rfl) dX11_packet_17 (fun H locs hP hD hS => ?_)
  have hP : va_P D vwCl [(ff, .inr (11, [.ref t0, .ref k0, .ref m0, .ref o0, .ref f0, .ref f1, .ref p0, .ref p1, .int x_ff_8, .ref rd, .ref cd, .ref tl, .ref in0, .ref in1])), (k0, .inr (6, [.ref k0c, .ref k0l, .int y_k0_28_4])), (t0, .inr (9, [.ref t0r, .int 0])), (k0l, .inl (ct 1, 16, .inl k_k0l8_5)), (t0r, .inl (ct 0, 2000, .inl g_t0r)), (k0c, .inl (ct 0, 4096, .inl k_k0c8_6))] _ := hP
  have hD : va_D A [(ff, .inr (11, [.ref t0, .ref k0, .ref m0, .ref o0, .ref f0, .ref f1, .ref p0, .ref p1, .int x_ff_8, .ref rd, .ref cd, .ref tl, .ref in0, .ref in1])), (k0, .inr (6, [.ref k0c, .ref k0l, .int y_k0_28_4])), (t0, .inr (9, [.ref t0r, .int 0])), (k0l, .inl (ct 1, 16, .inl k_k0l8_5)), (t0r, .inl (ct 0, 2000, .inl g_t0r)), (k0c, .inl (ct 0, 4096, .inl k_k0c8_6))] := hD
  refine lv_iload_n hx hb dX11_packet_20 rfl (lv_at hl 0 rfl) ?_
  exact endq_i hQ hx hb hr hlocks dX11_packet_21 rfl (y_k0_28_4, k_k0l8_5, k_k0c8_6) ⟨hp8_7, hp8_8, hp8_9, hp8_10, (show x_k0_2.toInt + 0 ≤ y_k0_28_4.toInt ∧ y_k0_28_4.toInt ≤ x_k0_2.toInt + 1 by have q0 := FF.out hp8_11; omega), (show 16 ≤ x_k0_2.toInt → r8_1.toInt = -1 ∧ y_k0_28_4.toInt = x_k0_2.toInt by have q0 := FF.out hp8_11; have q1 := FF.out hp8_12; omega), (show x_k0_2.toInt < 16 ∧ 256 < x_t0_1.toInt → r8_1.toInt = -2 ∧ y_k0_28_4.toInt = x_k0_2.toInt by have q0 := hp8_7.1; have q1 := FF.out hp8_11; have q2 := FF.out hp8_13; omega), (show x_k0_2.toInt < 16 ∧ x_t0_1.toInt ≤ 256 → r8_1.toInt = x_k0_2.toInt ∧ y_k0_28_4.toInt = x_k0_2.toInt + 1 by have q0 := FF.out hp8_11; have q1 := FF.out hp8_14; omega)⟩ hP hD hS [0, 1, 2, 3, 4, 5] rfl (by decide) rfl (Nat.le_of_ble_eq_true rfl) (Nat.le_of_ble_eq_true rfl)
set_option maxHeartbeats 2000000 in
theorem c_X7_takeTape_w (l : Launch) (D : va_G) (ct : Nat → ClassId) (p0 : Nat) (t0 : Nat) (p0r : Nat) (x_p0_1 : Int32) (t0r : Nat) (x_t0_1 : Int32) (g_t0r : Nat → Int32) (g_p0r : Nat → Int64) (h_x_p0_1 : rg x_p0_1 0 4000) (h_x_t0_1 : rg x_t0_1 0 2000) (h_g_t0r : Rg g_t0r 2000 (-128) 127) : KI (S := Int32 × (Nat → Int64)) l yX7_takeTape cX7_takeTape 3 (some .int) 3 66 D ct [.ref p0, .ref t0] [(p0, .inr (7, [.ref p0r, .int x_p0_1])), (t0, .inr (9, [.ref t0r, .int x_t0_1])), (t0r, .inl (ct 0, 2000, .inl g_t0r)), (p0r, .inl (ct 2, 4000, .inr (.inl g_p0r)))] 0 0 (fun (r : Int32) (u : Int32 × (Nat → Int64)) => match u with | (y_p0_1, k_p0r) => rg r (-1) 250 ∧ rg y_p0_1 0 4000 ∧ ((x_t0_1.toInt = 0 ∨ x_t0_1.toInt % 8 ≠ 0) → r.toInt = -1) ∧ (¬ (x_t0_1.toInt = 0 ∨ x_t0_1.toInt % 8 ≠ 0) → r.toInt = x_t0_1.toInt / 8)) (fun (u : Int32 × (Nat → Int64)) => match u with | (y_p0_1, k_p0r) => [(p0, .inr (7, [.ref p0r, .int y_p0_1])), (t0, .inr (9, [.ref t0r, .int x_t0_1])), (t0r, .inl (ct 0, 2000, .inl g_t0r)), (p0r, .inl (ct 2, 4000, .inr (.inl k_p0r)))]) := by
  refine KIq_of (by decide) (Nat.le_of_ble_eq_true rfl) (fun p e s m below meth c A Q C0 hA H locs hS hP hD hQ ls hl => ?_)
  obtain ⟨hx, hb, hr, hown, hin, hml, hlocks, hn, hK, hZ, hSK⟩ := C0
  have hl : lv_has ls 3 [(0, .ref p0), (1, .ref t0)] := hl
  refine lv_aload_n hx hb dX7_takeTape_0 rfl (lv_at hl 1 rfl) ?_
  refine va_getN (D := D) (ci := 9) (v := .int x_t0_1) (C := RX9) (T := TX9) (N := 2) hx hb (htX9 hn) (fun _ h => h) hown hK hP 1 rfl rfl 1 (by decide) (hn.get mw_44 rfl) (fun _ h9 => h9) rfl dX7_takeTape_1 ?_
  refine lv_if_eq (tgt := 17) hx hb dX7_takeTape_4 (by decide) (fun c4_1 => ?_) (fun c4_1 => ?_)
  · have t4_2 := FF.mk (i_eq c4_1)
    have r4_3 : rg x_t0_1 0 0 := rg_eqA t4_2 h_x_t0_1 (show rg (0 : Int32) 0 0 from rg_l (by decide)) (by decide)
    refine lv_iconst (v := (-1)) hx hb dX7_takeTape_17 (by decide) ?_
    exact endq_i hQ hx hb hr hlocks dX7_takeTape_18 rfl (x_p0_1, g_p0r) ⟨(rg_w (show rg ((-1) : Int32) (-1) (-1) from rg_l (by decide)) (by decide)), h_x_p0_1, (show (x_t0_1.toInt = 0 ∨ x_t0_1.toInt % 8 ≠ 0) → (-1 : Int32).toInt = -1 by have q0 := (show (-1 : Int32).toInt = -1 from by decide); omega), (show ¬ (x_t0_1.toInt = 0 ∨ x_t0_1.toInt % 8 ≠ 0) → (-1 : Int32).toInt = x_t0_1.toInt / 8 by have q0 := r4_3.1; have q1 := r4_3.2; have q2 := (show (-1 : Int32).toInt = -1 from by decide); omega)⟩ hP hD hS [0, 1, 2, 3] rfl (by decide) rfl (Nat.le_of_ble_eq_true rfl) (Nat.le_of_ble_eq_true rfl)
  · have t4_2 := FF.mk (i_ne c4_1)
    have r4_3 : rg x_t0_1 1 2000 := rg_neAl t4_2 h_x_t0_1 (show rg (0 : Int32) 0 0 from rg_l (by decide)) (by decide)
    refine lv_aload_n hx hb dX7_takeTape_7 rfl (lv_at hl 1 rfl) ?_
    refine va_getN (D := D) (ci := 9) (v := .int x_t0_1) (C := RX9) (T := TX9) (N := 2) hx hb (htX9 hn) (fun _ h => h) hown hK hP 1 rfl rfl 1 (by decide) (hn.get mw_44 rfl) (fun _ h9 => h9) rfl dX7_takeTape_8 ?_
    refine lv_bipush (v := 8) hx hb dX7_takeTape_11 (by decide) ?_
    refine lv_irem hx hb dX7_takeTape_13 (by decide) ?_
    refine lv_topi (fun z13_1 ez13_1 => ?_)
    have r13_2 : rg z13_1 0 7 := rg_rem (k := 8) ez13_1 (by decide) r4_3 (by decide)
    refine lv_if_eq (tgt := 19) hx hb dX7_takeTape_14 (by decide) (fun c14_1 => ?_) (fun c14_1 => ?_)
    · have t14_2 := FF.mk (i_eq c14_1)
      have r14_3 : rg z13_1 0 0 := rg_eqA t14_2 r13_2 (show rg (0 : Int32) 0 0 from rg_l (by decide)) (by decide)
      refine lv_aload_n hx hb dX7_takeTape_19 rfl (lv_at hl 0 rfl) ?_
      refine lv_aload_n hx hb dX7_takeTape_20 rfl (lv_at hl 1 rfl) ?_
      refine va_getN (D := D) (ci := 9) (v := .int x_t0_1) (C := RX9) (T := TX9) (N := 2) hx hb (htX9 hn) (fun _ h => h) hown hK hP 1 rfl rfl 1 (by decide) (hn.get mw_44 rfl) (fun _ h9 => h9) rfl dX7_takeTape_21 ?_
      refine lv_bipush (v := 8) hx hb dX7_takeTape_24 (by decide) ?_
      refine lv_idiv hx hb dX7_takeTape_26 (by decide) ?_
      refine lv_topi (fun z26_1 ez26_1 => ?_)
      have r26_2 : rg z26_1 0 250 := rg_div (k := 8) ez26_1 (by decide) r4_3 (by decide)
      refine va_put (D := D) (ci := 7) (v := .int z26_1) (ty := .int) (C := RX7) (T := TX7) (N := 2) hx hb (htX7 hn) (fun _ h => h) tyX7 tyX7_ok nmX7 hown hK hP hD hS 0 rfl rfl 1 (by decide) (hn.get mw_226 rfl) (fun _ h9 => h9) rfl (by decide +kernel) rfl rfl (Nat.le_of_ble_eq_true rfl) dX7_takeTape_27 (fun H locs hP hD hS => ?_)
      have hP : va_P D vwCl [(p0, .inr (7, [.ref p0r, .int z26_1])), (t0, .inr (9, [.ref t0r, .int x_t0_1])), (t0r, .inl (ct 0, 2000, .inl g_t0r)), (p0r, .inl (ct 2, 4000, .inr (.inl g_p0r)))] _ := hP
      have hD : va_D A [(p0, .inr (7, [.ref p0r, .int z26_1])), (t0, .inr (9, [.ref t0r, .int x_t0_1])), (t0r, .inl (ct 0, 2000, .inl g_t0r)), (p0r, .inl (ct 2, 4000, .inr (.inl g_p0r)))] := hD
      refine lv_iconst (v := 0) hx hb dX7_takeTape_30 (by decide) ?_
      refine lv_istore_n (lv' := [(2, .int 0), (0, .ref p0), (1, .ref t0)]) hx hb dX7_takeTape_31 rfl hl (by decide) rfl (fun ls hl => ?_)
      have b32 : ∀ (n32 : Nat) (j32_l2 : Int32) (j32_cp0r : Nat → Int64) (H : Heap) (locs : List Loc) (ls : Array Slot), (rg j32_l2 0 2147483647) → ((2147483647 : Int) - j32_l2.toInt).toNat < n32 → lv_has ls 3 [(0, .ref p0), (1, .ref t0), (2, .int j32_l2)] → va_P D vwCl [(p0, .inr (7, [.ref p0r, .int z26_1])), (t0, .inr (9, [.ref t0r, .int x_t0_1])), (t0r, .inl (ct 0, 2000, .inl g_t0r)), (p0r, .inl (ct 2, 4000, .inr (.inl j32_cp0r)))] H → va_D A [(p0, .inr (7, [.ref p0r, .int z26_1])), (t0, .inr (9, [.ref t0r, .int x_t0_1])), (t0r, .inl (ct 0, 2000, .inl g_t0r)), (p0r, .inl (ct 2, 4000, .inr (.inl j32_cp0r)))] → va_S A s.heap H locs → W p l e ({ frames := 3, cells := 0, slots := 0, locals := 66 }) s m [.ref p0, .ref t0].toArray below meth c H locs 0 0 Q (F0 m 32 ls []) := by
        intro n32
        induction n32 with
        | zero => intros; rename_i hms _ _ _ _; exact absurd hms (Nat.not_lt_zero _)
        | succ n32 ih32 =>
          intro j32_l2 j32_cp0r H locs ls r32_1001 hms32 hl hP hD hS
          refine lv_iload_n hx hb dX7_takeTape_32 rfl (lv_at hl 2 rfl) ?_
          refine lv_aload_n hx hb dX7_takeTape_33 rfl (lv_at hl 0 rfl) ?_
          refine va_get (D := D) (ci := 7) (v := .int z26_1) (C := RX7) (T := TX7) (N := 2) hx hb (htX7 hn) (fun _ h => h) hown hK hP 0 rfl rfl 1 (by decide) (hn.get mw_226 rfl) (fun _ h9 => h9) rfl dX7_takeTape_34 ?_
          refine lv_icmp_ge (tgt := 62) hx hb dX7_takeTape_37 (by decide) (fun c37_1 => ?_) (fun c37_1 => ?_)
          · have t37_2 := FF.mk (i_le c37_1)
            refine lv_aload_n hx hb dX7_takeTape_62 rfl (lv_at hl 0 rfl) ?_
            refine va_get (D := D) (ci := 7) (v := .int z26_1) (C := RX7) (T := TX7) (N := 2) hx hb (htX7 hn) (fun _ h => h) hown hK hP 0 rfl rfl 1 (by decide) (hn.get mw_226 rfl) (fun _ h9 => h9) rfl dX7_takeTape_63 ?_
            exact endq_i hQ hx hb hr hlocks dX7_takeTape_66 rfl (z26_1, j32_cp0r) ⟨(rg_w r26_2 (by decide)), (rg_w r26_2 (by decide)), (show (x_t0_1.toInt = 0 ∨ x_t0_1.toInt % 8 ≠ 0) → z26_1.toInt = -1 by have q0 := r4_3.1; have q1 := (eq_rem (c := 8) (k := 8) ez13_1 (by decide) r4_3 (by decide)); have q2 := FF.out t14_2; have q3 := (show (0 : Int32).toInt = 0 from by decide); omega), (show ¬ (x_t0_1.toInt = 0 ∨ x_t0_1.toInt % 8 ≠ 0) → z26_1.toInt = x_t0_1.toInt / 8 by have q0 := (eq_div (c := 8) (k := 8) ez26_1 (by decide) r4_3 (by decide)); omega)⟩ hP hD hS [0, 1, 2, 3] rfl (by decide) rfl (Nat.le_of_ble_eq_true rfl) (Nat.le_of_ble_eq_true rfl)
          · have t37_2 := FF.mk (i_nle c37_1)
            have r37_3 : rg j32_l2 0 249 := rg_ltA t37_2 r32_1001 r26_2 (by decide)
            have r37_4 : rg z26_1 1 250 := rg_ltB t37_2 r32_1001 r26_2 (by decide)
            refine lv_aload_n hx hb dX7_takeTape_40 rfl (lv_at hl 0 rfl) ?_
            refine va_get (D := D) (ci := 7) (v := .ref p0r) (C := RX7) (T := TX7) (N := 2) hx hb (htX7 hn) (fun _ h => h) hown hK hP 0 rfl rfl 0 (by decide) (hn.get mw_223 rfl) (fun _ h9 => h9) rfl dX7_takeTape_41 ?_
            refine lv_iload_n hx hb dX7_takeTape_44 rfl (lv_at hl 2 rfl) ?_
            refine lv_aload_n hx hb dX7_takeTape_45 rfl (lv_at hl 1 rfl) ?_
            refine lv_bipush (v := 8) hx hb dX7_takeTape_46 (by decide) ?_
            refine lv_iload_n hx hb dX7_takeTape_48 rfl (lv_at hl 2 rfl) ?_
            refine lv_imul hx hb dX7_takeTape_49 ?_
            refine lv_topi (fun z49_1 ez49_1 => ?_)
            have r49_2 : rg z49_1 0 1992 := rg_mul ez49_1 (show rg (8 : Int32) 8 8 from rg_l (by decide)) r37_3 (by decide)
            refine lv_bipush (v := 8) hx hb dX7_takeTape_50 (by decide) ?_
            refine go_l (k1 := 0) (n1 := 0) (wr := [(p0, .inr (7, [.ref p0r, .int z26_1])), (p0r, .inl (ct 2, 4000, .inr (.inl j32_cp0r)))]) [1, 2] [0, 3] (rn_VN (As := [.int z49_1, .int 8]) (rest := [.int j32_l2, .ref p0r]) (c_X9_lowestFirst l D ct t0 z49_1 (8 : Int32) t0r x_t0_1 g_t0r (rg_w r49_2 (by decide)) (rg_w (show rg (8 : Int32) 8 8 from rg_l (by decide)) (by decide)) (rg_w r4_3 (by decide)) h_g_t0r _) (cn_of (n := 2) hn mw_928 mw_2 mw_925 mhX9_lowestFirst ⟨(Nat.le_of_ble_eq_true rfl), (Nat.le_of_ble_eq_true rfl)⟩) hx hb hml hown hn hK hSK hZ hS mw_927 mw_s91 (ci := 9) (q0 := 0) rfl rfl rfl rfl hl.1 (Nat.le_of_ble_eq_true rfl) dX7_takeTape_52 ⟨(Nat.le_of_ble_eq_true rfl), (Nat.le_of_ble_eq_true rfl)⟩) hP hD hS hA rfl rfl (by decide) (by decide) (by decide) (Nat.le_of_ble_eq_true rfl) (Nat.le_of_ble_eq_true rfl) (fun r52_1 u52_2 H locs hp52_3 hP hD hS => ?_)
            have hP : va_P D vwCl [(p0, .inr (7, [.ref p0r, .int z26_1])), (p0r, .inl (ct 2, 4000, .inr (.inl j32_cp0r))), (t0, .inr (9, [.ref t0r, .int x_t0_1])), (t0r, .inl (ct 0, 2000, .inl g_t0r))] _ := hP
            have hD : va_D A [(p0, .inr (7, [.ref p0r, .int z26_1])), (p0r, .inl (ct 2, 4000, .inr (.inl j32_cp0r))), (t0, .inr (9, [.ref t0r, .int x_t0_1])), (t0r, .inl (ct 0, 2000, .inl g_t0r))] := hD
            have hi55_1 : vp_in j32_l2 4000 := (in_rg r37_3 (by decide))
            refine va_last hx hb hK hP hD hS 1 2 rfl rfl hi55_1 dX7_takeTape_55 (fun H locs hP hD hS => ?_)
            have hP : va_P D vwCl [(p0, .inr (7, [.ref p0r, .int z26_1])), (p0r, .inl (ct 2, 4000, .inr (.inl (vp_updL j32_cp0r j32_l2.toNatClampNeg r52_1)))), (t0, .inr (9, [.ref t0r, .int x_t0_1])), (t0r, .inl (ct 0, 2000, .inl g_t0r))] _ := hP
            have hD : va_D A [(p0, .inr (7, [.ref p0r, .int z26_1])), (p0r, .inl (ct 2, 4000, .inr (.inl (vp_updL j32_cp0r j32_l2.toNatClampNeg r52_1)))), (t0, .inr (9, [.ref t0r, .int x_t0_1])), (t0r, .inl (ct 0, 2000, .inl g_t0r))] := hD
            obtain ⟨f55_2, ef55_2⟩ : ∃ z, z = (vp_updL j32_cp0r j32_l2.toNatClampNeg r52_1) := ⟨_, rfl⟩
            rw [← ef55_2] at hP hD
            obtain ⟨x56_1, ex56_1⟩ : ∃ z : Int32, z = j32_l2 + 1 := ⟨_, rfl⟩
            have r56_2 : rg x56_1 1 250 := rg_add ex56_1 r37_3 (show rg (1 : Int32) 1 1 from rg_l (by decide)) (by decide)
            refine lv_iinc (v := x56_1) (lv' := [(2, .int x56_1), (0, .ref p0), (1, .ref t0)]) hx hb dX7_takeTape_56 hl (k := 2) rfl (by rw [ex56_1]; rfl) (by decide) rfl (fun ls hl => ?_)
            refine lv_goto (tgt := 32) hx hb dX7_takeTape_59 (by decide) ?_
            have hP := hP.sub (ws' := [(p0, .inr (7, [.ref p0r, .int z26_1])), (t0, .inr (9, [.ref t0r, .int x_t0_1])), (t0r, .inl (ct 0, 2000, .inl g_t0r)), (p0r, .inl (ct 2, 4000, .inr (.inl f55_2)))]) [0, 2, 3, 1] rfl
            have hD := hD.sub (ws' := [(p0, .inr (7, [.ref p0r, .int z26_1])), (t0, .inr (9, [.ref t0r, .int x_t0_1])), (t0r, .inl (ct 0, 2000, .inl g_t0r)), (p0r, .inl (ct 2, 4000, .inr (.inl f55_2)))]) [0, 2, 3, 1] (by decide) rfl
            exact ih32 x56_1 f55_2 H locs ls (rg_w r56_2 (by decide)) (show ((2147483647 : Int) - x56_1.toInt).toNat < n32 by have q0 := r37_3.2; have q1 := (eq_add ex56_1 r37_3 (show rg (1 : Int32) 1 1 from rg_l (by decide)) (by decide)); have q2 := (show (1 : Int32).toInt = 1 from by decide); have q3 := hms32; omega) (lv_sub hl [1, 2, 0] rfl) hP hD hS
      exact b32 _ (0 : Int32) g_p0r H locs ls (rg_w (show rg (0 : Int32) 0 0 from rg_l (by decide)) (by decide)) (Nat.lt_succ_self _) (lv_sub hl [1, 2, 0] rfl) hP hD hS
    · have t14_2 := FF.mk (i_ne c14_1)
      have r14_3 : rg z13_1 1 7 := rg_neAl t14_2 r13_2 (show rg (0 : Int32) 0 0 from rg_l (by decide)) (by decide)
      refine lv_iconst (v := (-1)) hx hb dX7_takeTape_17 (by decide) ?_
      exact endq_i hQ hx hb hr hlocks dX7_takeTape_18 rfl (x_p0_1, g_p0r) ⟨(rg_w (show rg ((-1) : Int32) (-1) (-1) from rg_l (by decide)) (by decide)), h_x_p0_1, (show (x_t0_1.toInt = 0 ∨ x_t0_1.toInt % 8 ≠ 0) → (-1 : Int32).toInt = -1 by have q0 := (show (-1 : Int32).toInt = -1 from by decide); omega), (show ¬ (x_t0_1.toInt = 0 ∨ x_t0_1.toInt % 8 ≠ 0) → (-1 : Int32).toInt = x_t0_1.toInt / 8 by have q0 := r14_3.1; have q1 := (eq_rem (c := 8) (k := 8) ez13_1 (by decide) r4_3 (by decide)); have q2 := (show (-1 : Int32).toInt = -1 from by decide); omega)⟩ hP hD hS [0, 1, 2, 3] rfl (by decide) rfl (Nat.le_of_ble_eq_true rfl) (Nat.le_of_ble_eq_true rfl)
set_option maxHeartbeats 2000000 in
theorem c_X5_takeTape_w (l : Launch) (D : va_G) (ct : Nat → ClassId) (o0 : Nat) (t0 : Nat) (o0r : Nat) (x_o0_1 : Int32) (t0r : Nat) (x_t0_1 : Int32) (g_t0r : Nat → Int32) (g_o0r : Nat → Int32) (h_x_o0_1 : rg x_o0_1 0 60000) (h_x_t0_1 : rg x_t0_1 0 2000) (h_g_t0r : Rg g_t0r 2000 (-128) 127) : KI (S := Int32 × (Nat → Int32)) l yX5_takeTape cX5_takeTape 3 (some .int) 3 66 D ct [.ref o0, .ref t0] [(o0, .inr (5, [.ref o0r, .int x_o0_1])), (t0, .inr (9, [.ref t0r, .int x_t0_1])), (t0r, .inl (ct 0, 2000, .inl g_t0r)), (o0r, .inl (ct 1, 60000, .inl g_o0r))] 0 0 (fun (r : Int32) (u : Int32 × (Nat → Int32)) => match u with | (y_o0_1, k_o0r) => rg r (-1) 500 ∧ rg y_o0_1 0 60000 ∧ ((x_t0_1.toInt = 0 ∨ x_t0_1.toInt % 4 ≠ 0) → r.toInt = -1) ∧ (¬ (x_t0_1.toInt = 0 ∨ x_t0_1.toInt % 4 ≠ 0) → r.toInt = x_t0_1.toInt / 4)) (fun (u : Int32 × (Nat → Int32)) => match u with | (y_o0_1, k_o0r) => [(o0, .inr (5, [.ref o0r, .int y_o0_1])), (t0, .inr (9, [.ref t0r, .int x_t0_1])), (t0r, .inl (ct 0, 2000, .inl g_t0r)), (o0r, .inl (ct 1, 60000, .inl k_o0r))]) := by
  refine KIq_of (by decide) (Nat.le_of_ble_eq_true rfl) (fun p e s m below meth c A Q C0 hA H locs hS hP hD hQ ls hl => ?_)
  obtain ⟨hx, hb, hr, hown, hin, hml, hlocks, hn, hK, hZ, hSK⟩ := C0
  have hl : lv_has ls 3 [(0, .ref o0), (1, .ref t0)] := hl
  refine lv_aload_n hx hb dX5_takeTape_0 rfl (lv_at hl 1 rfl) ?_
  refine va_getN (D := D) (ci := 9) (v := .int x_t0_1) (C := RX9) (T := TX9) (N := 2) hx hb (htX9 hn) (fun _ h => h) hown hK hP 1 rfl rfl 1 (by decide) (hn.get mw_45 rfl) (fun _ h9 => h9) rfl dX5_takeTape_1 ?_
  refine lv_if_eq (tgt := 16) hx hb dX5_takeTape_4 (by decide) (fun c4_1 => ?_) (fun c4_1 => ?_)
  · have t4_2 := FF.mk (i_eq c4_1)
    have r4_3 : rg x_t0_1 0 0 := rg_eqA t4_2 h_x_t0_1 (show rg (0 : Int32) 0 0 from rg_l (by decide)) (by decide)
    refine lv_iconst (v := (-1)) hx hb dX5_takeTape_16 (by decide) ?_
    exact endq_i hQ hx hb hr hlocks dX5_takeTape_17 rfl (x_o0_1, g_o0r) ⟨(rg_w (show rg ((-1) : Int32) (-1) (-1) from rg_l (by decide)) (by decide)), h_x_o0_1, (show (x_t0_1.toInt = 0 ∨ x_t0_1.toInt % 4 ≠ 0) → (-1 : Int32).toInt = -1 by have q0 := (show (-1 : Int32).toInt = -1 from by decide); omega), (show ¬ (x_t0_1.toInt = 0 ∨ x_t0_1.toInt % 4 ≠ 0) → (-1 : Int32).toInt = x_t0_1.toInt / 4 by have q0 := r4_3.1; have q1 := r4_3.2; have q2 := (show (-1 : Int32).toInt = -1 from by decide); omega)⟩ hP hD hS [0, 1, 2, 3] rfl (by decide) rfl (Nat.le_of_ble_eq_true rfl) (Nat.le_of_ble_eq_true rfl)
  · have t4_2 := FF.mk (i_ne c4_1)
    have r4_3 : rg x_t0_1 1 2000 := rg_neAl t4_2 h_x_t0_1 (show rg (0 : Int32) 0 0 from rg_l (by decide)) (by decide)
    refine lv_aload_n hx hb dX5_takeTape_7 rfl (lv_at hl 1 rfl) ?_
    refine va_getN (D := D) (ci := 9) (v := .int x_t0_1) (C := RX9) (T := TX9) (N := 2) hx hb (htX9 hn) (fun _ h => h) hown hK hP 1 rfl rfl 1 (by decide) (hn.get mw_45 rfl) (fun _ h9 => h9) rfl dX5_takeTape_8 ?_
    refine lv_iconst (v := 4) hx hb dX5_takeTape_11 (by decide) ?_
    refine lv_irem hx hb dX5_takeTape_12 (by decide) ?_
    refine lv_topi (fun z12_1 ez12_1 => ?_)
    have r12_2 : rg z12_1 0 3 := rg_rem (k := 4) ez12_1 (by decide) r4_3 (by decide)
    refine lv_if_eq (tgt := 18) hx hb dX5_takeTape_13 (by decide) (fun c13_1 => ?_) (fun c13_1 => ?_)
    · have t13_2 := FF.mk (i_eq c13_1)
      have r13_3 : rg z12_1 0 0 := rg_eqA t13_2 r12_2 (show rg (0 : Int32) 0 0 from rg_l (by decide)) (by decide)
      refine lv_aload_n hx hb dX5_takeTape_18 rfl (lv_at hl 0 rfl) ?_
      refine lv_aload_n hx hb dX5_takeTape_19 rfl (lv_at hl 1 rfl) ?_
      refine va_getN (D := D) (ci := 9) (v := .int x_t0_1) (C := RX9) (T := TX9) (N := 2) hx hb (htX9 hn) (fun _ h => h) hown hK hP 1 rfl rfl 1 (by decide) (hn.get mw_45 rfl) (fun _ h9 => h9) rfl dX5_takeTape_20 ?_
      refine lv_iconst (v := 4) hx hb dX5_takeTape_23 (by decide) ?_
      refine lv_idiv hx hb dX5_takeTape_24 (by decide) ?_
      refine lv_topi (fun z24_1 ez24_1 => ?_)
      have r24_2 : rg z24_1 0 500 := rg_div (k := 4) ez24_1 (by decide) r4_3 (by decide)
      refine va_put (D := D) (ci := 5) (v := .int z24_1) (ty := .int) (C := RX5) (T := TX5) (N := 2) hx hb (htX5 hn) (fun _ h => h) tyX5 tyX5_ok nmX5 hown hK hP hD hS 0 rfl rfl 1 (by decide) (hn.get mw_133 rfl) (fun _ h9 => h9) rfl (by decide +kernel) rfl rfl (Nat.le_of_ble_eq_true rfl) dX5_takeTape_25 (fun H locs hP hD hS => ?_)
      have hP : va_P D vwCl [(o0, .inr (5, [.ref o0r, .int z24_1])), (t0, .inr (9, [.ref t0r, .int x_t0_1])), (t0r, .inl (ct 0, 2000, .inl g_t0r)), (o0r, .inl (ct 1, 60000, .inl g_o0r))] _ := hP
      have hD : va_D A [(o0, .inr (5, [.ref o0r, .int z24_1])), (t0, .inr (9, [.ref t0r, .int x_t0_1])), (t0r, .inl (ct 0, 2000, .inl g_t0r)), (o0r, .inl (ct 1, 60000, .inl g_o0r))] := hD
      refine lv_iconst (v := 0) hx hb dX5_takeTape_28 (by decide) ?_
      refine lv_istore_n (lv' := [(2, .int 0), (0, .ref o0), (1, .ref t0)]) hx hb dX5_takeTape_29 rfl hl (by decide) rfl (fun ls hl => ?_)
      have b30 : ∀ (n30 : Nat) (j30_l2 : Int32) (j30_co0r : Nat → Int32) (H : Heap) (locs : List Loc) (ls : Array Slot), (rg j30_l2 0 2147483647) → ((2147483647 : Int) - j30_l2.toInt).toNat < n30 → lv_has ls 3 [(0, .ref o0), (1, .ref t0), (2, .int j30_l2)] → va_P D vwCl [(o0, .inr (5, [.ref o0r, .int z24_1])), (t0, .inr (9, [.ref t0r, .int x_t0_1])), (t0r, .inl (ct 0, 2000, .inl g_t0r)), (o0r, .inl (ct 1, 60000, .inl j30_co0r))] H → va_D A [(o0, .inr (5, [.ref o0r, .int z24_1])), (t0, .inr (9, [.ref t0r, .int x_t0_1])), (t0r, .inl (ct 0, 2000, .inl g_t0r)), (o0r, .inl (ct 1, 60000, .inl j30_co0r))] → va_S A s.heap H locs → W p l e ({ frames := 3, cells := 0, slots := 0, locals := 66 }) s m [.ref o0, .ref t0].toArray below meth c H locs 0 0 Q (F0 m 30 ls []) := by
        intro n30
        induction n30 with
        | zero => intros; rename_i hms _ _ _ _; exact absurd hms (Nat.not_lt_zero _)
        | succ n30 ih30 =>
          intro j30_l2 j30_co0r H locs ls r30_1001 hms30 hl hP hD hS
          refine lv_iload_n hx hb dX5_takeTape_30 rfl (lv_at hl 2 rfl) ?_
          refine lv_aload_n hx hb dX5_takeTape_31 rfl (lv_at hl 0 rfl) ?_
          refine va_get (D := D) (ci := 5) (v := .int z24_1) (C := RX5) (T := TX5) (N := 2) hx hb (htX5 hn) (fun _ h => h) hown hK hP 0 rfl rfl 1 (by decide) (hn.get mw_133 rfl) (fun _ h9 => h9) rfl dX5_takeTape_32 ?_
          refine lv_icmp_ge (tgt := 59) hx hb dX5_takeTape_35 (by decide) (fun c35_1 => ?_) (fun c35_1 => ?_)
          · have t35_2 := FF.mk (i_le c35_1)
            refine lv_aload_n hx hb dX5_takeTape_59 rfl (lv_at hl 0 rfl) ?_
            refine va_get (D := D) (ci := 5) (v := .int z24_1) (C := RX5) (T := TX5) (N := 2) hx hb (htX5 hn) (fun _ h => h) hown hK hP 0 rfl rfl 1 (by decide) (hn.get mw_133 rfl) (fun _ h9 => h9) rfl dX5_takeTape_60 ?_
            exact endq_i hQ hx hb hr hlocks dX5_takeTape_63 rfl (z24_1, j30_co0r) ⟨(rg_w r24_2 (by decide)), (rg_w r24_2 (by decide)), (show (x_t0_1.toInt = 0 ∨ x_t0_1.toInt % 4 ≠ 0) → z24_1.toInt = -1 by have q0 := r4_3.1; have q1 := (eq_rem (c := 4) (k := 4) ez12_1 (by decide) r4_3 (by decide)); have q2 := FF.out t13_2; have q3 := (show (0 : Int32).toInt = 0 from by decide); omega), (show ¬ (x_t0_1.toInt = 0 ∨ x_t0_1.toInt % 4 ≠ 0) → z24_1.toInt = x_t0_1.toInt / 4 by have q0 := (eq_div (c := 4) (k := 4) ez24_1 (by decide) r4_3 (by decide)); omega)⟩ hP hD hS [0, 1, 2, 3] rfl (by decide) rfl (Nat.le_of_ble_eq_true rfl) (Nat.le_of_ble_eq_true rfl)
          · have t35_2 := FF.mk (i_nle c35_1)
            have r35_3 : rg j30_l2 0 499 := rg_ltA t35_2 r30_1001 r24_2 (by decide)
            have r35_4 : rg z24_1 1 500 := rg_ltB t35_2 r30_1001 r24_2 (by decide)
            refine lv_aload_n hx hb dX5_takeTape_38 rfl (lv_at hl 0 rfl) ?_
            refine va_get (D := D) (ci := 5) (v := .ref o0r) (C := RX5) (T := TX5) (N := 2) hx hb (htX5 hn) (fun _ h => h) hown hK hP 0 rfl rfl 0 (by decide) (hn.get mw_131 rfl) (fun _ h9 => h9) rfl dX5_takeTape_39 ?_
            refine lv_iload_n hx hb dX5_takeTape_42 rfl (lv_at hl 2 rfl) ?_
            refine lv_aload_n hx hb dX5_takeTape_43 rfl (lv_at hl 1 rfl) ?_
            refine lv_iconst (v := 4) hx hb dX5_takeTape_44 (by decide) ?_
            refine lv_iload_n hx hb dX5_takeTape_45 rfl (lv_at hl 2 rfl) ?_
            refine lv_imul hx hb dX5_takeTape_46 ?_
            refine lv_topi (fun z46_1 ez46_1 => ?_)
            have r46_2 : rg z46_1 0 1996 := rg_mul ez46_1 (show rg (4 : Int32) 4 4 from rg_l (by decide)) r35_3 (by decide)
            refine lv_iconst (v := 4) hx hb dX5_takeTape_47 (by decide) ?_
            refine go_l (k1 := 0) (n1 := 0) (wr := [(o0, .inr (5, [.ref o0r, .int z24_1])), (o0r, .inl (ct 1, 60000, .inl j30_co0r))]) [1, 2] [0, 3] (rn_VN (As := [.int z46_1, .int 4]) (rest := [.int j30_l2, .ref o0r]) (c_X9_lowestFirst l D ct t0 z46_1 (4 : Int32) t0r x_t0_1 g_t0r (rg_w r46_2 (by decide)) (rg_w (show rg (4 : Int32) 4 4 from rg_l (by decide)) (by decide)) (rg_w r4_3 (by decide)) h_g_t0r _) (cn_of (n := 2) hn mw_928 mw_2 mw_1392 mhX9_lowestFirst ⟨(Nat.le_of_ble_eq_true rfl), (Nat.le_of_ble_eq_true rfl)⟩) hx hb hml hown hn hK hSK hZ hS mw_927 mw_s91 (ci := 9) (q0 := 0) rfl rfl rfl rfl hl.1 (Nat.le_of_ble_eq_true rfl) dX5_takeTape_48 ⟨(Nat.le_of_ble_eq_true rfl), (Nat.le_of_ble_eq_true rfl)⟩) hP hD hS hA rfl rfl (by decide) (by decide) (by decide) (Nat.le_of_ble_eq_true rfl) (Nat.le_of_ble_eq_true rfl) (fun r48_1 u48_2 H locs hp48_3 hP hD hS => ?_)
            have hP : va_P D vwCl [(o0, .inr (5, [.ref o0r, .int z24_1])), (o0r, .inl (ct 1, 60000, .inl j30_co0r)), (t0, .inr (9, [.ref t0r, .int x_t0_1])), (t0r, .inl (ct 0, 2000, .inl g_t0r))] _ := hP
            have hD : va_D A [(o0, .inr (5, [.ref o0r, .int z24_1])), (o0r, .inl (ct 1, 60000, .inl j30_co0r)), (t0, .inr (9, [.ref t0r, .int x_t0_1])), (t0r, .inl (ct 0, 2000, .inl g_t0r))] := hD
            refine lv_l2i hx hb dX5_takeTape_51 rfl ?_
            refine lv_topi (fun z51_1 ez51_1 => ?_)
            have hi52_1 : vp_in j30_l2 60000 := (in_rg r35_3 (by decide))
            refine va_iast hx hb hK hP hD hS 1 1 rfl rfl hi52_1 dX5_takeTape_52 (fun H locs hP hD hS => ?_)
            have hP : va_P D vwCl [(o0, .inr (5, [.ref o0r, .int z24_1])), (o0r, .inl (ct 1, 60000, .inl (upd j30_co0r j30_l2.toNatClampNeg z51_1))), (t0, .inr (9, [.ref t0r, .int x_t0_1])), (t0r, .inl (ct 0, 2000, .inl g_t0r))] _ := hP
            have hD : va_D A [(o0, .inr (5, [.ref o0r, .int z24_1])), (o0r, .inl (ct 1, 60000, .inl (upd j30_co0r j30_l2.toNatClampNeg z51_1))), (t0, .inr (9, [.ref t0r, .int x_t0_1])), (t0r, .inl (ct 0, 2000, .inl g_t0r))] := hD
            obtain ⟨f52_2, ef52_2⟩ : ∃ z, z = (upd j30_co0r j30_l2.toNatClampNeg z51_1) := ⟨_, rfl⟩
            rw [← ef52_2] at hP hD
            obtain ⟨x53_1, ex53_1⟩ : ∃ z : Int32, z = j30_l2 + 1 := ⟨_, rfl⟩
            have r53_2 : rg x53_1 1 500 := rg_add ex53_1 r35_3 (show rg (1 : Int32) 1 1 from rg_l (by decide)) (by decide)
            refine lv_iinc (v := x53_1) (lv' := [(2, .int x53_1), (0, .ref o0), (1, .ref t0)]) hx hb dX5_takeTape_53 hl (k := 2) rfl (by rw [ex53_1]; rfl) (by decide) rfl (fun ls hl => ?_)
            refine lv_goto (tgt := 30) hx hb dX5_takeTape_56 (by decide) ?_
            have hP := hP.sub (ws' := [(o0, .inr (5, [.ref o0r, .int z24_1])), (t0, .inr (9, [.ref t0r, .int x_t0_1])), (t0r, .inl (ct 0, 2000, .inl g_t0r)), (o0r, .inl (ct 1, 60000, .inl f52_2))]) [0, 2, 3, 1] rfl
            have hD := hD.sub (ws' := [(o0, .inr (5, [.ref o0r, .int z24_1])), (t0, .inr (9, [.ref t0r, .int x_t0_1])), (t0r, .inl (ct 0, 2000, .inl g_t0r)), (o0r, .inl (ct 1, 60000, .inl f52_2))]) [0, 2, 3, 1] (by decide) rfl
            exact ih30 x53_1 f52_2 H locs ls (rg_w r53_2 (by decide)) (show ((2147483647 : Int) - x53_1.toInt).toNat < n30 by have q0 := r35_3.2; have q1 := (eq_add ex53_1 r35_3 (show rg (1 : Int32) 1 1 from rg_l (by decide)) (by decide)); have q2 := (show (1 : Int32).toInt = 1 from by decide); have q3 := hms30; omega) (lv_sub hl [1, 2, 0] rfl) hP hD hS
      exact b30 _ (0 : Int32) g_o0r H locs ls (rg_w (show rg (0 : Int32) 0 0 from rg_l (by decide)) (by decide)) (Nat.lt_succ_self _) (lv_sub hl [1, 2, 0] rfl) hP hD hS
    · have t13_2 := FF.mk (i_ne c13_1)
      have r13_3 : rg z12_1 1 3 := rg_neAl t13_2 r12_2 (show rg (0 : Int32) 0 0 from rg_l (by decide)) (by decide)
      refine lv_iconst (v := (-1)) hx hb dX5_takeTape_16 (by decide) ?_
      exact endq_i hQ hx hb hr hlocks dX5_takeTape_17 rfl (x_o0_1, g_o0r) ⟨(rg_w (show rg ((-1) : Int32) (-1) (-1) from rg_l (by decide)) (by decide)), h_x_o0_1, (show (x_t0_1.toInt = 0 ∨ x_t0_1.toInt % 4 ≠ 0) → (-1 : Int32).toInt = -1 by have q0 := (show (-1 : Int32).toInt = -1 from by decide); omega), (show ¬ (x_t0_1.toInt = 0 ∨ x_t0_1.toInt % 4 ≠ 0) → (-1 : Int32).toInt = x_t0_1.toInt / 4 by have q0 := r13_3.1; have q1 := (eq_rem (c := 4) (k := 4) ez12_1 (by decide) r4_3 (by decide)); have q2 := (show (-1 : Int32).toInt = -1 from by decide); omega)⟩ hP hD hS [0, 1, 2, 3] rfl (by decide) rfl (Nat.le_of_ble_eq_true rfl) (Nat.le_of_ble_eq_true rfl)
set_option maxHeartbeats 2000000 in
theorem c_X11_load_w (l : Launch) (D : va_G) (ct : Nat → ClassId) (ff : Nat) (t0 : Nat) (k0 : Nat) (m0 : Nat) (o0 : Nat) (f0 : Nat) (f1 : Nat) (p0 : Nat) (p1 : Nat) (x_ff_8 : Int32) (rd : Nat) (cd : Nat) (tl : Nat) (in0 : Nat) (in1 : Nat) (p0r : Nat) (x_p0_1 : Int32) (t0r : Nat) (x_t0_1 : Int32) (g_t0r : Nat → Int32) (g_p0r : Nat → Int64) (h_x_ff_8 : rg x_ff_8 0 1) (h_x_p0_1 : rg x_p0_1 0 4000) (h_x_t0_1 : rg x_t0_1 0 2000) (h_g_t0r : Rg g_t0r 2000 (-128) 127) : KI (S := Int32 × (Nat → Int64)) l yX11_load cX11_load 2 (some .int) 4 88 D ct [.ref ff] [(ff, .inr (11, [.ref t0, .ref k0, .ref m0, .ref o0, .ref f0, .ref f1, .ref p0, .ref p1, .int x_ff_8, .ref rd, .ref cd, .ref tl, .ref in0, .ref in1])), (p0, .inr (7, [.ref p0r, .int x_p0_1])), (t0, .inr (9, [.ref t0r, .int x_t0_1])), (t0r, .inl (ct 0, 2000, .inl g_t0r)), (p0r, .inl (ct 2, 4000, .inr (.inl g_p0r)))] 0 0 (fun (r : Int32) (u : Int32 × (Nat → Int64)) => match u with | (y_p0_1, k_p0r) => rg r (-1) 250 ∧ rg y_p0_1 0 4000 ∧ ((x_t0_1.toInt = 0 ∨ x_t0_1.toInt % 8 ≠ 0) → r.toInt = -1) ∧ (¬ (x_t0_1.toInt = 0 ∨ x_t0_1.toInt % 8 ≠ 0) → r.toInt = x_t0_1.toInt / 8)) (fun (u : Int32 × (Nat → Int64)) => match u with | (y_p0_1, k_p0r) => [(ff, .inr (11, [.ref t0, .ref k0, .ref m0, .ref o0, .ref f0, .ref f1, .ref p0, .ref p1, .int x_ff_8, .ref rd, .ref cd, .ref tl, .ref in0, .ref in1])), (p0, .inr (7, [.ref p0r, .int y_p0_1])), (t0, .inr (9, [.ref t0r, .int 0])), (t0r, .inl (ct 0, 2000, .inl g_t0r)), (p0r, .inl (ct 2, 4000, .inr (.inl k_p0r)))]) := by
  refine KIq_of (by decide) (Nat.le_of_ble_eq_true rfl) (fun p e s m below meth c A Q C0 hA H locs hS hP hD hQ ls hl => ?_)
  obtain ⟨hx, hb, hr, hown, hin, hml, hlocks, hn, hK, hZ, hSK⟩ := C0
  have hl : lv_has ls 2 [(0, .ref ff)] := hl
  refine lv_aload_n hx hb dX11_load_0 rfl (lv_at hl 0 rfl) ?_
  refine va_get (D := D) (ci := 11) (v := .ref p0) (C := RX11) (T := TX11) (N := 14) hx hb (htX11 hn) (fun _ h => h) hown hK hP 0 rfl rfl 6 (by decide) (hn.get mw_387 rfl) (fun _ h9 => h9) rfl dX11_load_1 ?_
  refine lv_aload_n hx hb dX11_load_4 rfl (lv_at hl 0 rfl) ?_
  refine va_get (D := D) (ci := 11) (v := .ref t0) (C := RX11) (T := TX11) (N := 14) hx hb (htX11 hn) (fun _ h => h) hown hK hP 0 rfl rfl 0 (by decide) (hn.get mw_381 rfl) (fun _ h9 => h9) rfl dX11_load_5 ?_
  refine go_i (k1 := 0) (n1 := 0) (wr := [(ff, .inr (11, [.ref t0, .ref k0, .ref m0, .ref o0, .ref f0, .ref f1, .ref p0, .ref p1, .int x_ff_8, .ref rd, .ref cd, .ref tl, .ref in0, .ref in1]))]) [1, 2, 3, 4] [0] (rn_VN (As := [.ref t0]) (rest := []) (c_X7_takeTape_w l D ct p0 t0 p0r x_p0_1 t0r x_t0_1 g_t0r g_p0r h_x_p0_1 h_x_t0_1 h_g_t0r _) (cn_of (n := 1) hn mw_924 mw_7 mw_921 mhX7_takeTape ⟨(Nat.le_of_ble_eq_true rfl), (Nat.le_of_ble_eq_true rfl)⟩) hx hb hml hown hn hK hSK hZ hS mw_923 mw_s90 (ci := 7) (q0 := 0) rfl rfl rfl rfl hl.1 (Nat.le_of_ble_eq_true rfl) dX11_load_8 ⟨(Nat.le_of_ble_eq_true rfl), (Nat.le_of_ble_eq_true rfl)⟩) hP hD hS hA rfl rfl (by decide) (by decide) (by decide) (Nat.le_of_ble_eq_true rfl) (Nat.le_of_ble_eq_true rfl) (fun r8_1 u8_2 H locs hp8_3 hP hD hS => ?_)
  obtain ⟨y_p0_18_4, k_p0r8_5⟩ := u8_2
  obtain ⟨hp8_6, hp8_7, hp8_8, hp8_9⟩ := hp8_3
  have hp8_6 : rg r8_1 (-1) 250 := hp8_6
  have hp8_7 : rg y_p0_18_4 0 4000 := hp8_7
  replace hp8_8 : FF ((x_t0_1.toInt = 0 ∨ x_t0_1.toInt % 8 ≠ 0) → r8_1.toInt = -1) := hp8_8
  replace hp8_9 : FF (¬ (x_t0_1.toInt = 0 ∨ x_t0_1.toInt % 8 ≠ 0) → r8_1.toInt = x_t0_1.toInt / 8) := hp8_9
  have hP : va_P D vwCl [(ff, .inr (11, [.ref t0, .ref k0, .ref m0, .ref o0, .ref f0, .ref f1, .ref p0, .ref p1, .int x_ff_8, .ref rd, .ref cd, .ref tl, .ref in0, .ref in1])), (p0, .inr (7, [.ref p0r, .int y_p0_18_4])), (t0, .inr (9, [.ref t0r, .int x_t0_1])), (t0r, .inl (ct 0, 2000, .inl g_t0r)), (p0r, .inl (ct 2, 4000, .inr (.inl k_p0r8_5)))] _ := hP
  have hD : va_D A [(ff, .inr (11, [.ref t0, .ref k0, .ref m0, .ref o0, .ref f0, .ref f1, .ref p0, .ref p1, .int x_ff_8, .ref rd, .ref cd, .ref tl, .ref in0, .ref in1])), (p0, .inr (7, [.ref p0r, .int y_p0_18_4])), (t0, .inr (9, [.ref t0r, .int x_t0_1])), (t0r, .inl (ct 0, 2000, .inl g_t0r)), (p0r, .inl (ct 2, 4000, .inr (.inl k_p0r8_5)))] := hD
  refine lv_istore_n (lv' := [(1, .int r8_1), (0, .ref ff)]) hx hb dX11_load_11 rfl hl (by decide) rfl (fun ls hl => ?_)
  refine lv_aload_n hx hb dX11_load_12 rfl (lv_at hl 1 rfl) ?_
  refine va_get (D := D) (ci := 11) (v := .ref t0) (C := RX11) (T := TX11) (N := 14) hx hb (htX11 hn) (fun _ h => h) hown hK hP 0 rfl rfl 0 (by decide) (hn.get mw_381 rfl) (fun _ h9 => h9) rfl dX11_load_13 ?_
  refine lv_iconst (v := 0) hx hb dX11_load_16 (by decide) ?_
  refine va_putN (D := D) (ci := 9) (v := .int 0) (ty := .int) (C := RX9) (T := TX9) (N := 2) hx hb (htX9 hn) (fun _ h => h) tyX9 tyX9_ok nmX9 hown hK hP hD hS 2 rfl rfl 1 (by decide) (hn.get mw_47 rfl) (fun _ h9 => h9) rfl (by decide +kernel) rfl rfl (Nat.le_of_ble_eq_true rfl) dX11_load_17 (fun H locs hP hD hS => ?_)
  have hP : va_P D vwCl [(ff, .inr (11, [.ref t0, .ref k0, .ref m0, .ref o0, .ref f0, .ref f1, .ref p0, .ref p1, .int x_ff_8, .ref rd, .ref cd, .ref tl, .ref in0, .ref in1])), (p0, .inr (7, [.ref p0r, .int y_p0_18_4])), (t0, .inr (9, [.ref t0r, .int 0])), (t0r, .inl (ct 0, 2000, .inl g_t0r)), (p0r, .inl (ct 2, 4000, .inr (.inl k_p0r8_5)))] _ := hP
  have hD : va_D A [(ff, .inr (11, [.ref t0, .ref k0, .ref m0, .ref o0, .ref f0, .ref f1, .ref p0, .ref p1, .int x_ff_8, .ref rd, .ref cd, .ref tl, .ref in0, .ref in1])), (p0, .inr (7, [.ref p0r, .int y_p0_18_4])), (t0, .inr (9, [.ref t0r, .int 0])), (t0r, .inl (ct 0, 2000, .inl g_t0r)), (p0r, .inl (ct 2, 4000, .inr (.inl k_p0r8_5)))] := hD
  refine lv_iload_n hx hb dX11_load_20 rfl (lv_at hl 0 rfl) ?_
  exact endq_i hQ hx hb hr hlocks dX11_load_21 rfl (y_p0_18_4, k_p0r8_5) ⟨hp8_6, hp8_7, (show (x_t0_1.toInt = 0 ∨ x_t0_1.toInt % 8 ≠ 0) → r8_1.toInt = -1 by have q0 := hp8_6.1; have q1 := h_x_t0_1.1; have q2 := FF.out hp8_8; omega), (show ¬ (x_t0_1.toInt = 0 ∨ x_t0_1.toInt % 8 ≠ 0) → r8_1.toInt = x_t0_1.toInt / 8 by have q0 := h_x_t0_1.1; have q1 := FF.out hp8_9; omega)⟩ hP hD hS [0, 1, 2, 3, 4] rfl (by decide) rfl (Nat.le_of_ble_eq_true rfl) (Nat.le_of_ble_eq_true rfl)
set_option maxHeartbeats 2000000 in
theorem c_X11_raw_w (l : Launch) (D : va_G) (ct : Nat → ClassId) (ff : Nat) (t0 : Nat) (k0 : Nat) (m0 : Nat) (o0 : Nat) (f0 : Nat) (f1 : Nat) (p0 : Nat) (p1 : Nat) (x_ff_8 : Int32) (rd : Nat) (cd : Nat) (tl : Nat) (in0 : Nat) (in1 : Nat) (o0r : Nat) (x_o0_1 : Int32) (t0r : Nat) (x_t0_1 : Int32) (g_t0r : Nat → Int32) (g_o0r : Nat → Int32) (h_x_ff_8 : rg x_ff_8 0 1) (h_x_o0_1 : rg x_o0_1 0 60000) (h_x_t0_1 : rg x_t0_1 0 2000) (h_g_t0r : Rg g_t0r 2000 (-128) 127) : KI (S := Int32 × (Nat → Int32)) l yX11_raw cX11_raw 2 (some .int) 4 88 D ct [.ref ff] [(ff, .inr (11, [.ref t0, .ref k0, .ref m0, .ref o0, .ref f0, .ref f1, .ref p0, .ref p1, .int x_ff_8, .ref rd, .ref cd, .ref tl, .ref in0, .ref in1])), (o0, .inr (5, [.ref o0r, .int x_o0_1])), (t0, .inr (9, [.ref t0r, .int x_t0_1])), (t0r, .inl (ct 0, 2000, .inl g_t0r)), (o0r, .inl (ct 1, 60000, .inl g_o0r))] 0 0 (fun (r : Int32) (u : Int32 × (Nat → Int32)) => match u with | (y_o0_1, k_o0r) => rg r (-1) 500 ∧ rg y_o0_1 0 60000 ∧ ((x_t0_1.toInt = 0 ∨ x_t0_1.toInt % 4 ≠ 0) → r.toInt = -1) ∧ (¬ (x_t0_1.toInt = 0 ∨ x_t0_1.toInt % 4 ≠ 0) → r.toInt = x_t0_1.toInt / 4)) (fun (u : Int32 × (Nat → Int32)) => match u with | (y_o0_1, k_o0r) => [(ff, .inr (11, [.ref t0, .ref k0, .ref m0, .ref o0, .ref f0, .ref f1, .ref p0, .ref p1, .int x_ff_8, .ref rd, .ref cd, .ref tl, .ref in0, .ref in1])), (o0, .inr (5, [.ref o0r, .int y_o0_1])), (t0, .inr (9, [.ref t0r, .int 0])), (t0r, .inl (ct 0, 2000, .inl g_t0r)), (o0r, .inl (ct 1, 60000, .inl k_o0r))]) := by
  refine KIq_of (by decide) (Nat.le_of_ble_eq_true rfl) (fun p e s m below meth c A Q C0 hA H locs hS hP hD hQ ls hl => ?_)
  obtain ⟨hx, hb, hr, hown, hin, hml, hlocks, hn, hK, hZ, hSK⟩ := C0
  have hl : lv_has ls 2 [(0, .ref ff)] := hl
  refine lv_aload_n hx hb dX11_raw_0 rfl (lv_at hl 0 rfl) ?_
  refine va_get (D := D) (ci := 11) (v := .ref o0) (C := RX11) (T := TX11) (N := 14) hx hb (htX11 hn) (fun _ h => h) hown hK hP 0 rfl rfl 3 (by decide) (hn.get mw_384 rfl) (fun _ h9 => h9) rfl dX11_raw_1 ?_
  refine lv_aload_n hx hb dX11_raw_4 rfl (lv_at hl 0 rfl) ?_
  refine va_get (D := D) (ci := 11) (v := .ref t0) (C := RX11) (T := TX11) (N := 14) hx hb (htX11 hn) (fun _ h => h) hown hK hP 0 rfl rfl 0 (by decide) (hn.get mw_381 rfl) (fun _ h9 => h9) rfl dX11_raw_5 ?_
  refine go_i (k1 := 0) (n1 := 0) (wr := [(ff, .inr (11, [.ref t0, .ref k0, .ref m0, .ref o0, .ref f0, .ref f1, .ref p0, .ref p1, .int x_ff_8, .ref rd, .ref cd, .ref tl, .ref in0, .ref in1]))]) [1, 2, 3, 4] [0] (rn_VN (As := [.ref t0]) (rest := []) (c_X5_takeTape_w l D ct o0 t0 o0r x_o0_1 t0r x_t0_1 g_t0r g_o0r h_x_o0_1 h_x_t0_1 h_g_t0r _) (cn_of (n := 1) hn mw_1391 mw_5 mw_1388 mhX5_takeTape ⟨(Nat.le_of_ble_eq_true rfl), (Nat.le_of_ble_eq_true rfl)⟩) hx hb hml hown hn hK hSK hZ hS mw_1390 mw_s163 (ci := 5) (q0 := 0) rfl rfl rfl rfl hl.1 (Nat.le_of_ble_eq_true rfl) dX11_raw_8 ⟨(Nat.le_of_ble_eq_true rfl), (Nat.le_of_ble_eq_true rfl)⟩) hP hD hS hA rfl rfl (by decide) (by decide) (by decide) (Nat.le_of_ble_eq_true rfl) (Nat.le_of_ble_eq_true rfl) (fun r8_1 u8_2 H locs hp8_3 hP hD hS => ?_)
  obtain ⟨y_o0_18_4, k_o0r8_5⟩ := u8_2
  obtain ⟨hp8_6, hp8_7, hp8_8, hp8_9⟩ := hp8_3
  have hp8_6 : rg r8_1 (-1) 500 := hp8_6
  have hp8_7 : rg y_o0_18_4 0 60000 := hp8_7
  replace hp8_8 : FF ((x_t0_1.toInt = 0 ∨ x_t0_1.toInt % 4 ≠ 0) → r8_1.toInt = -1) := hp8_8
  replace hp8_9 : FF (¬ (x_t0_1.toInt = 0 ∨ x_t0_1.toInt % 4 ≠ 0) → r8_1.toInt = x_t0_1.toInt / 4) := hp8_9
  have hP : va_P D vwCl [(ff, .inr (11, [.ref t0, .ref k0, .ref m0, .ref o0, .ref f0, .ref f1, .ref p0, .ref p1, .int x_ff_8, .ref rd, .ref cd, .ref tl, .ref in0, .ref in1])), (o0, .inr (5, [.ref o0r, .int y_o0_18_4])), (t0, .inr (9, [.ref t0r, .int x_t0_1])), (t0r, .inl (ct 0, 2000, .inl g_t0r)), (o0r, .inl (ct 1, 60000, .inl k_o0r8_5))] _ := hP
  have hD : va_D A [(ff, .inr (11, [.ref t0, .ref k0, .ref m0, .ref o0, .ref f0, .ref f1, .ref p0, .ref p1, .int x_ff_8, .ref rd, .ref cd, .ref tl, .ref in0, .ref in1])), (o0, .inr (5, [.ref o0r, .int y_o0_18_4])), (t0, .inr (9, [.ref t0r, .int x_t0_1])), (t0r, .inl (ct 0, 2000, .inl g_t0r)), (o0r, .inl (ct 1, 60000, .inl k_o0r8_5))] := hD
  refine lv_istore_n (lv' := [(1, .int r8_1), (0, .ref ff)]) hx hb dX11_raw_11 rfl hl (by decide) rfl (fun ls hl => ?_)
  refine lv_aload_n hx hb dX11_raw_12 rfl (lv_at hl 1 rfl) ?_
  refine va_get (D := D) (ci := 11) (v := .ref t0) (C := RX11) (T := TX11) (N := 14) hx hb (htX11 hn) (fun _ h => h) hown hK hP 0 rfl rfl 0 (by decide) (hn.get mw_381 rfl) (fun _ h9 => h9) rfl dX11_raw_13 ?_
  refine lv_iconst (v := 0) hx hb dX11_raw_16 (by decide) ?_
  refine va_putN (D := D) (ci := 9) (v := .int 0) (ty := .int) (C := RX9) (T := TX9) (N := 2) hx hb (htX9 hn) (fun _ h => h) tyX9 tyX9_ok nmX9 hown hK hP hD hS 2 rfl rfl 1 (by decide) (hn.get mw_47 rfl) (fun _ h9 => h9) rfl (by decide +kernel) rfl rfl (Nat.le_of_ble_eq_true rfl) dX11_raw_17 (fun H locs hP hD hS => ?_)
  have hP : va_P D vwCl [(ff, .inr (11, [.ref t0, .ref k0, .ref m0, .ref o0, .ref f0, .ref f1, .ref p0, .ref p1, .int x_ff_8, .ref rd, .ref cd, .ref tl, .ref in0, .ref in1])), (o0, .inr (5, [.ref o0r, .int y_o0_18_4])), (t0, .inr (9, [.ref t0r, .int 0])), (t0r, .inl (ct 0, 2000, .inl g_t0r)), (o0r, .inl (ct 1, 60000, .inl k_o0r8_5))] _ := hP
  have hD : va_D A [(ff, .inr (11, [.ref t0, .ref k0, .ref m0, .ref o0, .ref f0, .ref f1, .ref p0, .ref p1, .int x_ff_8, .ref rd, .ref cd, .ref tl, .ref in0, .ref in1])), (o0, .inr (5, [.ref o0r, .int y_o0_18_4])), (t0, .inr (9, [.ref t0r, .int 0])), (t0r, .inl (ct 0, 2000, .inl g_t0r)), (o0r, .inl (ct 1, 60000, .inl k_o0r8_5))] := hD
  refine lv_iload_n hx hb dX11_raw_20 rfl (lv_at hl 0 rfl) ?_
  exact endq_i hQ hx hb hr hlocks dX11_raw_21 rfl (y_o0_18_4, k_o0r8_5) ⟨hp8_6, hp8_7, (show (x_t0_1.toInt = 0 ∨ x_t0_1.toInt % 4 ≠ 0) → r8_1.toInt = -1 by have q0 := hp8_6.1; have q1 := h_x_t0_1.1; have q2 := FF.out hp8_8; omega), (show ¬ (x_t0_1.toInt = 0 ∨ x_t0_1.toInt % 4 ≠ 0) → r8_1.toInt = x_t0_1.toInt / 4 by have q0 := h_x_t0_1.1; have q1 := FF.out hp8_9; omega)⟩ hP hD hS [0, 1, 2, 3, 4] rfl (by decide) rfl (Nat.le_of_ble_eq_true rfl) (Nat.le_of_ble_eq_true rfl)
set_option maxHeartbeats 2000000 in
theorem c_X16_packet_w (l : Launch) (D : va_G) (ct : Nat → ClassId) (mm : Nat) (fs_mm : List Value) (utape : Nat) (x_mm_1 : Int32) (upb : Nat) (upl_ : Nat) (x_mm_4 : Int32) (g_upl_ : Nat → Int32) (g_utape : Nat → Int32) (g_upb : Nat → Int32) (hlen_mm : fs_mm.length = 78) (hf_mm_0 : fs_mm[0]? = some (.ref utape)) (h_x_mm_1 : rg x_mm_1 0 2000) (hf_mm_1 : fs_mm[1]? = some (.int x_mm_1)) (hf_mm_2 : fs_mm[2]? = some (.ref upb)) (hf_mm_3 : fs_mm[3]? = some (.ref upl_)) (h_x_mm_4 : rg x_mm_4 0 16) (hf_mm_4 : fs_mm[4]? = some (.int x_mm_4)) (h_g_upl_ : Rg g_upl_ 16 0 256) (h_g_utape : Rg g_utape 2000 0 255) (h_g_upb : Rg g_upb 4096 0 255) : KI (S := List Value × Int32 × (Nat → Int32) × (Nat → Int32)) l yX16_packet cX16_packet 3 (some .int) 1 20 D ct [.ref mm] [(mm, .inr (16, fs_mm)), (upl_, .inl (ct 1, 16, .inl g_upl_)), (utape, .inl (ct 1, 2000, .inl g_utape)), (upb, .inl (ct 1, 4096, .inl g_upb))] 0 0 (fun (r : Int32) (u : List Value × Int32 × (Nat → Int32) × (Nat → Int32)) => match u with | (fs2_mm, y_mm_4, k_upl_, k_upb) => rg r (-2) 15 ∧ SB fs_mm fs2_mm [1, 4] ∧ fs2_mm[1]? = some (.int 0) ∧ rg y_mm_4 0 16 ∧ fs2_mm[4]? = some (.int y_mm_4) ∧ Rg k_upl_ 16 0 256 ∧ Rg k_upb 4096 0 255 ∧ (16 ≤ x_mm_4.toInt → r.toInt = -1 ∧ y_mm_4.toInt = x_mm_4.toInt) ∧ (x_mm_4.toInt < 16 ∧ 256 < x_mm_1.toInt → r.toInt = -2 ∧ y_mm_4.toInt = x_mm_4.toInt) ∧ (x_mm_4.toInt < 16 ∧ x_mm_1.toInt ≤ 256 → r.toInt = x_mm_4.toInt ∧ y_mm_4.toInt = x_mm_4.toInt + 1)) (fun (u : List Value × Int32 × (Nat → Int32) × (Nat → Int32)) => match u with | (fs2_mm, y_mm_4, k_upl_, k_upb) => [(mm, .inr (16, fs2_mm)), (upl_, .inl (ct 1, 16, .inl k_upl_)), (utape, .inl (ct 1, 2000, .inl g_utape)), (upb, .inl (ct 1, 4096, .inl k_upb))]) := by
  refine KIq_of (by decide) (Nat.le_of_ble_eq_true rfl) (fun p e s m below meth c A Q C0 hA H locs hS hP hD hQ ls hl => ?_)
  obtain ⟨hx, hb, hr, hown, hin, hml, hlocks, hn, hK, hZ, hSK⟩ := C0
  have hl : lv_has ls 3 [(0, .ref mm)] := hl
  refine lv_aload_n hx hb dX16_packet_0 rfl (lv_at hl 0 rfl) ?_
  refine va_get (D := D) (ci := 16) (v := .int x_mm_1) (C := RX16) (T := TX16) (N := 78) hx hb (htX16 hn) (fun _ h => h) hown hK hP 0 rfl rfl 1 (by decide) (hn.get mw_1540 rfl) (fun _ h9 => h9) hf_mm_1 dX16_packet_1 ?_
  refine lv_istore_n (lv' := [(1, .int x_mm_1), (0, .ref mm)]) hx hb dX16_packet_4 rfl hl (by decide) rfl (fun ls hl => ?_)
  refine lv_aload_n hx hb dX16_packet_5 rfl (lv_at hl 1 rfl) ?_
  refine lv_iconst (v := 0) hx hb dX16_packet_6 (by decide) ?_
  refine va_put (D := D) (ci := 16) (v := .int 0) (ty := .int) (C := RX16) (T := TX16) (N := 78) hx hb (htX16 hn) (fun _ h => h) tyX16 tyX16_ok nmX16 hown hK hP hD hS 0 rfl rfl 1 (by decide) (hn.get mw_1540 rfl) (fun _ h9 => h9) rfl (by decide +kernel) rfl rfl (by rw [hlen_mm]; decide) dX16_packet_7 (fun H locs hP hD hS => ?_)
  have hP : va_P D vwCl [(mm, .inr (16, (fs_mm.set 1 (.int 0)))), (upl_, .inl (ct 1, 16, .inl g_upl_)), (utape, .inl (ct 1, 2000, .inl g_utape)), (upb, .inl (ct 1, 4096, .inl g_upb))] _ := hP
  have hD : va_D A [(mm, .inr (16, (fs_mm.set 1 (.int 0)))), (upl_, .inl (ct 1, 16, .inl g_upl_)), (utape, .inl (ct 1, 2000, .inl g_utape)), (upb, .inl (ct 1, 4096, .inl g_upb))] := hD
  obtain ⟨m7_1, em7_1⟩ : ∃ z, z = (fs_mm.set 1 (.int 0)) := ⟨_, rfl⟩
  rw [← em7_1] at hP hD
  have hsm7_1 : SB fs_mm m7_1 [1, 4] := by rw [em7_1]; exact SB.set (SB.rf _ _) (by decide)
  have hfm7_1_4 : m7_1[4]? = some (.int x_mm_4) := by rw [em7_1]; exact fs_ne (by decide) hf_mm_4
  have hfm7_1_1 : m7_1[1]? = some (.int 0) := by rw [em7_1]; exact fs_eq (by rw [hlen_mm]; decide)
  have hP : va_P D vwCl [(mm, .inr (16, m7_1)), (upl_, .inl (ct 1, 16, .inl g_upl_)), (utape, .inl (ct 1, 2000, .inl g_utape)), (upb, .inl (ct 1, 4096, .inl g_upb))] _ := hP
  have hD : va_D A [(mm, .inr (16, m7_1)), (upl_, .inl (ct 1, 16, .inl g_upl_)), (utape, .inl (ct 1, 2000, .inl g_utape)), (upb, .inl (ct 1, 4096, .inl g_upb))] := hD
  refine lv_aload_n hx hb dX16_packet_10 rfl (lv_at hl 1 rfl) ?_
  refine va_get (D := D) (ci := 16) (v := .int x_mm_4) (C := RX16) (T := TX16) (N := 78) hx hb (htX16 hn) (fun _ h => h) hown hK hP 0 rfl rfl 4 (by decide) (hn.get mw_1543 rfl) (fun _ h9 => h9) hfm7_1_4 dX16_packet_11 ?_
  refine lv_bipush (v := 16) hx hb dX16_packet_14 (by decide) ?_
  refine lv_icmp_ne (tgt := 21) hx hb dX16_packet_16 (by decide) (fun c16_1 => ?_) (fun c16_1 => ?_)
  · have t16_2 := FF.mk (i_ne c16_1)
    have r16_3 : rg x_mm_4 0 15 := rg_neAh t16_2 h_x_mm_4 (show rg (16 : Int32) 16 16 from rg_l (by decide)) (by decide)
    refine lv_iload_n hx hb dX16_packet_21 rfl (lv_at hl 0 rfl) ?_
    refine lv_sipush (v := 256) hx hb dX16_packet_22 (by decide) ?_
    refine lv_icmp_le (tgt := 31) hx hb dX16_packet_25 (by decide) (fun c25_1 => ?_) (fun c25_1 => ?_)
    · have t25_2 := FF.mk (i_le c25_1)
      have r25_3 : rg x_mm_1 0 256 := rg_leA t25_2 h_x_mm_1 (show rg (256 : Int32) 256 256 from rg_l (by decide)) (by decide)
      refine lv_iconst (v := 0) hx hb dX16_packet_31 (by decide) ?_
      refine lv_istore_n (lv' := [(2, .int 0), (1, .int x_mm_1), (0, .ref mm)]) hx hb dX16_packet_32 rfl hl (by decide) rfl (fun ls hl => ?_)
      have b33 : ∀ (n33 : Nat) (j33_l2 : Int32) (j33_cupb : Nat → Int32) (H : Heap) (locs : List Loc) (ls : Array Slot), (rg j33_l2 0 256) → (Rg j33_cupb 4096 0 255) → ((2147483647 : Int) - j33_l2.toInt).toNat < n33 → lv_has ls 3 [(0, .ref mm), (1, .int x_mm_1), (2, .int j33_l2)] → va_P D vwCl [(mm, .inr (16, m7_1)), (upl_, .inl (ct 1, 16, .inl g_upl_)), (utape, .inl (ct 1, 2000, .inl g_utape)), (upb, .inl (ct 1, 4096, .inl j33_cupb))] H → va_D A [(mm, .inr (16, m7_1)), (upl_, .inl (ct 1, 16, .inl g_upl_)), (utape, .inl (ct 1, 2000, .inl g_utape)), (upb, .inl (ct 1, 4096, .inl j33_cupb))] → va_S A s.heap H locs → W p l e ({ frames := 1, cells := 0, slots := 0, locals := 20 }) s m [.ref mm].toArray below meth c H locs 0 0 Q (F0 m 33 ls []) := by
        intro n33
        induction n33 with
        | zero => intros; rename_i hms _ _ _ _; exact absurd hms (Nat.not_lt_zero _)
        | succ n33 ih33 =>
          intro j33_l2 j33_cupb H locs ls r33_1001 hc33_1002 hms33 hl hP hD hS
          refine lv_iload_n hx hb dX16_packet_33 rfl (lv_at hl 2 rfl) ?_
          refine lv_iload_n hx hb dX16_packet_34 rfl (lv_at hl 1 rfl) ?_
          refine lv_icmp_ge (tgt := 65) hx hb dX16_packet_35 (by decide) (fun c35_1 => ?_) (fun c35_1 => ?_)
          · have t35_2 := FF.mk (i_le c35_1)
            refine lv_aload_n hx hb dX16_packet_65 rfl (lv_at hl 0 rfl) ?_
            refine va_get (D := D) (ci := 16) (v := .ref upl_) (C := RX16) (T := TX16) (N := 78) hx hb (htX16 hn) (fun _ h => h) hown hK hP 0 rfl rfl 3 (by decide) (hn.get mw_1542 rfl) (fun _ h9 => h9) (SB.get hsm7_1 (by decide) hf_mm_3) dX16_packet_66 ?_
            refine lv_aload_n hx hb dX16_packet_69 rfl (lv_at hl 0 rfl) ?_
            refine va_get (D := D) (ci := 16) (v := .int x_mm_4) (C := RX16) (T := TX16) (N := 78) hx hb (htX16 hn) (fun _ h => h) hown hK hP 0 rfl rfl 4 (by decide) (hn.get mw_1543 rfl) (fun _ h9 => h9) hfm7_1_4 dX16_packet_70 ?_
            refine lv_iload_n hx hb dX16_packet_73 rfl (lv_at hl 1 rfl) ?_
            have hi74_1 : vp_in x_mm_4 16 := (in_rg r16_3 (by decide))
            refine va_iast hx hb hK hP hD hS 1 1 rfl rfl hi74_1 dX16_packet_74 (fun H locs hP hD hS => ?_)
            have hP : va_P D vwCl [(mm, .inr (16, m7_1)), (upl_, .inl (ct 1, 16, .inl (upd g_upl_ x_mm_4.toNatClampNeg x_mm_1))), (utape, .inl (ct 1, 2000, .inl g_utape)), (upb, .inl (ct 1, 4096, .inl j33_cupb))] _ := hP
            have hD : va_D A [(mm, .inr (16, m7_1)), (upl_, .inl (ct 1, 16, .inl (upd g_upl_ x_mm_4.toNatClampNeg x_mm_1))), (utape, .inl (ct 1, 2000, .inl g_utape)), (upb, .inl (ct 1, 4096, .inl j33_cupb))] := hD
            obtain ⟨f74_2, ef74_2⟩ : ∃ z, z = (upd g_upl_ x_mm_4.toNatClampNeg x_mm_1) := ⟨_, rfl⟩
            rw [← ef74_2] at hP hD
            have hc74_3 : Rg f74_2 16 0 256 := Rg_upd ef74_2 h_g_upl_ r25_3
            refine lv_aload_n hx hb dX16_packet_75 rfl (lv_at hl 0 rfl) ?_
            refine lv_dup hx hb dX16_packet_76 rfl ?_
            refine va_get (D := D) (ci := 16) (v := .int x_mm_4) (C := RX16) (T := TX16) (N := 78) hx hb (htX16 hn) (fun _ h => h) hown hK hP 0 rfl rfl 4 (by decide) (hn.get mw_1543 rfl) (fun _ h9 => h9) hfm7_1_4 dX16_packet_77 ?_
            refine lv_iconst (v := 1) hx hb dX16_packet_80 (by decide) ?_
            refine lv_iadd hx hb dX16_packet_81 ?_
            refine lv_topi (fun z81_1 ez81_1 => ?_)
            have r81_2 : rg z81_1 1 16 := rg_add ez81_1 r16_3 (show rg (1 : Int32) 1 1 from rg_l (by decide)) (by decide)
            refine va_put (D := D) (ci := 16) (v := .int z81_1) (ty := .int) (C := RX16) (T := TX16) (N := 78) hx hb (htX16 hn) (fun _ h => h) tyX16 tyX16_ok nmX16 hown hK hP hD hS 0 rfl rfl 4 (by decide) (hn.get mw_1543 rfl) (fun _ h9 => h9) rfl (by decide +kernel) rfl rfl (by rw [hsm7_1.1, hlen_mm]; decide) dX16_packet_82 (fun H locs hP hD hS => ?_)
            have hP : va_P D vwCl [(mm, .inr (16, (m7_1.set 4 (.int z81_1)))), (upl_, .inl (ct 1, 16, .inl f74_2)), (utape, .inl (ct 1, 2000, .inl g_utape)), (upb, .inl (ct 1, 4096, .inl j33_cupb))] _ := hP
            have hD : va_D A [(mm, .inr (16, (m7_1.set 4 (.int z81_1)))), (upl_, .inl (ct 1, 16, .inl f74_2)), (utape, .inl (ct 1, 2000, .inl g_utape)), (upb, .inl (ct 1, 4096, .inl j33_cupb))] := hD
            obtain ⟨m82_1, em82_1⟩ : ∃ z, z = (m7_1.set 4 (.int z81_1)) := ⟨_, rfl⟩
            rw [← em82_1] at hP hD
            have hsm82_1 : SB fs_mm m82_1 [1, 4] := by rw [em82_1]; exact SB.set hsm7_1 (by decide)
            have hfm82_1_1 : m82_1[1]? = some (.int 0) := by rw [em82_1]; exact fs_ne (by decide) hfm7_1_1
            have hfm82_1_4 : m82_1[4]? = some (.int z81_1) := by rw [em82_1]; exact fs_eq (by rw [hsm7_1.1, hlen_mm]; decide)
            have hP : va_P D vwCl [(mm, .inr (16, m82_1)), (upl_, .inl (ct 1, 16, .inl f74_2)), (utape, .inl (ct 1, 2000, .inl g_utape)), (upb, .inl (ct 1, 4096, .inl j33_cupb))] _ := hP
            have hD : va_D A [(mm, .inr (16, m82_1)), (upl_, .inl (ct 1, 16, .inl f74_2)), (utape, .inl (ct 1, 2000, .inl g_utape)), (upb, .inl (ct 1, 4096, .inl j33_cupb))] := hD
            refine lv_aload_n hx hb dX16_packet_85 rfl (lv_at hl 0 rfl) ?_
            refine va_get (D := D) (ci := 16) (v := .int z81_1) (C := RX16) (T := TX16) (N := 78) hx hb (htX16 hn) (fun _ h => h) hown hK hP 0 rfl rfl 4 (by decide) (hn.get mw_1543 rfl) (fun _ h9 => h9) hfm82_1_4 dX16_packet_86 ?_
            refine lv_iconst (v := 1) hx hb dX16_packet_89 (by decide) ?_
            refine lv_isub hx hb dX16_packet_90 ?_
            refine lv_topi (fun z90_1 ez90_1 => ?_)
            have r90_2 : rg z90_1 0 15 := rg_sub ez90_1 r81_2 (show rg (1 : Int32) 1 1 from rg_l (by decide)) (by decide)
            exact endq_i hQ hx hb hr hlocks dX16_packet_91 rfl (m82_1, z81_1, f74_2, j33_cupb) ⟨(rg_w r90_2 (by decide)), hsm82_1, hfm82_1_1, (rg_w r81_2 (by decide)), hfm82_1_4, hc74_3, hc33_1002, (show 16 ≤ x_mm_4.toInt → z90_1.toInt = -1 ∧ z81_1.toInt = x_mm_4.toInt by have q0 := r16_3.2; omega), (show x_mm_4.toInt < 16 ∧ 256 < x_mm_1.toInt → z90_1.toInt = -2 ∧ z81_1.toInt = x_mm_4.toInt by have q0 := r25_3.2; omega), (show x_mm_4.toInt < 16 ∧ x_mm_1.toInt ≤ 256 → z90_1.toInt = x_mm_4.toInt ∧ z81_1.toInt = x_mm_4.toInt + 1 by have q0 := (eq_add ez81_1 r16_3 (show rg (1 : Int32) 1 1 from rg_l (by decide)) (by decide)); have q1 := (eq_sub ez90_1 r81_2 (show rg (1 : Int32) 1 1 from rg_l (by decide)) (by decide)); have q2 := (show (1 : Int32).toInt = 1 from by decide); omega)⟩ hP hD hS [0, 1, 2, 3] rfl (by decide) rfl (Nat.le_of_ble_eq_true rfl) (Nat.le_of_ble_eq_true rfl)
          · have t35_2 := FF.mk (i_nle c35_1)
            have r35_3 : rg j33_l2 0 255 := rg_ltA t35_2 r33_1001 r25_3 (by decide)
            have r35_4 : rg x_mm_1 1 256 := rg_ltB t35_2 r33_1001 r25_3 (by decide)
            refine lv_aload_n hx hb dX16_packet_38 rfl (lv_at hl 0 rfl) ?_
            refine va_get (D := D) (ci := 16) (v := .ref upb) (C := RX16) (T := TX16) (N := 78) hx hb (htX16 hn) (fun _ h => h) hown hK hP 0 rfl rfl 2 (by decide) (hn.get mw_1541 rfl) (fun _ h9 => h9) (SB.get hsm7_1 (by decide) hf_mm_2) dX16_packet_39 ?_
            refine lv_sipush (v := 256) hx hb dX16_packet_42 (by decide) ?_
            refine lv_aload_n hx hb dX16_packet_45 rfl (lv_at hl 0 rfl) ?_
            refine va_get (D := D) (ci := 16) (v := .int x_mm_4) (C := RX16) (T := TX16) (N := 78) hx hb (htX16 hn) (fun _ h => h) hown hK hP 0 rfl rfl 4 (by decide) (hn.get mw_1543 rfl) (fun _ h9 => h9) hfm7_1_4 dX16_packet_46 ?_
            refine lv_imul hx hb dX16_packet_49 ?_
            refine lv_topi (fun z49_1 ez49_1 => ?_)
            have r49_2 : rg z49_1 0 3840 := rg_mul ez49_1 (show rg (256 : Int32) 256 256 from rg_l (by decide)) r16_3 (by decide)
            refine lv_iload_n hx hb dX16_packet_50 rfl (lv_at hl 2 rfl) ?_
            refine lv_iadd hx hb dX16_packet_51 ?_
            refine lv_topi (fun z51_1 ez51_1 => ?_)
            have r51_2 : rg z51_1 0 4095 := rg_add ez51_1 r49_2 r35_3 (by decide)
            refine lv_aload_n hx hb dX16_packet_52 rfl (lv_at hl 0 rfl) ?_
            refine va_get (D := D) (ci := 16) (v := .ref utape) (C := RX16) (T := TX16) (N := 78) hx hb (htX16 hn) (fun _ h => h) hown hK hP 0 rfl rfl 0 (by decide) (hn.get mw_1539 rfl) (fun _ h9 => h9) (SB.get hsm7_1 (by decide) hf_mm_0) dX16_packet_53 ?_
            refine lv_iload_n hx hb dX16_packet_56 rfl (lv_at hl 2 rfl) ?_
            have hi57_1 : vp_in j33_l2 2000 := (in_rg r35_3 (by decide))
            refine va_iald hx hb hK hP 2 1 rfl rfl hi57_1 dX16_packet_57 ?_
            refine lv_topi (fun z57_2 ez57_2 => ?_)
            have r57_3 : rg z57_2 0 255 := Rg_at h_g_utape hi57_1 ez57_2
            have hi58_1 : vp_in z51_1 4096 := (in_rg r51_2 (by decide))
            refine va_iast hx hb hK hP hD hS 3 1 rfl rfl hi58_1 dX16_packet_58 (fun H locs hP hD hS => ?_)
            have hP : va_P D vwCl [(mm, .inr (16, m7_1)), (upl_, .inl (ct 1, 16, .inl g_upl_)), (utape, .inl (ct 1, 2000, .inl g_utape)), (upb, .inl (ct 1, 4096, .inl (upd j33_cupb z51_1.toNatClampNeg z57_2)))] _ := hP
            have hD : va_D A [(mm, .inr (16, m7_1)), (upl_, .inl (ct 1, 16, .inl g_upl_)), (utape, .inl (ct 1, 2000, .inl g_utape)), (upb, .inl (ct 1, 4096, .inl (upd j33_cupb z51_1.toNatClampNeg z57_2)))] := hD
            obtain ⟨f58_2, ef58_2⟩ : ∃ z, z = (upd j33_cupb z51_1.toNatClampNeg z57_2) := ⟨_, rfl⟩
            rw [← ef58_2] at hP hD
            have hc58_3 : Rg f58_2 4096 0 255 := Rg_upd ef58_2 hc33_1002 r57_3
            obtain ⟨x59_1, ex59_1⟩ : ∃ z : Int32, z = j33_l2 + 1 := ⟨_, rfl⟩
            have r59_2 : rg x59_1 1 256 := rg_add ex59_1 r35_3 (show rg (1 : Int32) 1 1 from rg_l (by decide)) (by decide)
            refine lv_iinc (v := x59_1) (lv' := [(2, .int x59_1), (0, .ref mm), (1, .int x_mm_1)]) hx hb dX16_packet_59 hl (k := 2) rfl (by rw [ex59_1]; rfl) (by decide) rfl (fun ls hl => ?_)
            refine lv_goto (tgt := 33) hx hb dX16_packet_62 (by decide) ?_
            exact ih33 x59_1 f58_2 H locs ls (rg_w r59_2 (by decide)) hc58_3 (show ((2147483647 : Int) - x59_1.toInt).toNat < n33 by have q0 := r35_3.2; have q1 := (eq_add ex59_1 r35_3 (show rg (1 : Int32) 1 1 from rg_l (by decide)) (by decide)); have q2 := (show (1 : Int32).toInt = 1 from by decide); have q3 := hms33; omega) (lv_sub hl [1, 2, 0] rfl) hP hD hS
      exact b33 _ (0 : Int32) g_upb H locs ls (rg_w (show rg (0 : Int32) 0 0 from rg_l (by decide)) (by decide)) h_g_upb (Nat.lt_succ_self _) (lv_sub hl [2, 1, 0] rfl) hP hD hS
    · have t25_2 := FF.mk (i_nle c25_1)
      have r25_3 : rg x_mm_1 257 2000 := rg_ltB t25_2 (show rg (256 : Int32) 256 256 from rg_l (by decide)) h_x_mm_1 (by decide)
      refine lv_bipush (v := (-2)) hx hb dX16_packet_28 (by decide) ?_
      exact endq_i hQ hx hb hr hlocks dX16_packet_30 rfl (m7_1, x_mm_4, g_upl_, g_upb) ⟨(rg_w (show rg ((-2) : Int32) (-2) (-2) from rg_l (by decide)) (by decide)), hsm7_1, hfm7_1_1, (rg_w r16_3 (by decide)), hfm7_1_4, h_g_upl_, h_g_upb, (show 16 ≤ x_mm_4.toInt → (-2 : Int32).toInt = -1 ∧ x_mm_4.toInt = x_mm_4.toInt by have q0 := r16_3.2; have q1 := (show (-2 : Int32).toInt = -2 from by decide); omega), (show x_mm_4.toInt < 16 ∧ 256 < x_mm_1.toInt → (-2 : Int32).toInt = -2 ∧ x_mm_4.toInt = x_mm_4.toInt by have q0 := (show (-2 : Int32).toInt = -2 from by decide); omega), (show x_mm_4.toInt < 16 ∧ x_mm_1.toInt ≤ 256 → (-2 : Int32).toInt = x_mm_4.toInt ∧ x_mm_4.toInt = x_mm_4.toInt + 1 by have q0 := r25_3.1; have q1 := (show (-2 : Int32).toInt = -2 from by decide); omega)⟩ hP hD hS [0, 1, 2, 3] rfl (by decide) rfl (Nat.le_of_ble_eq_true rfl) (Nat.le_of_ble_eq_true rfl)
  · have t16_2 := FF.mk (i_eq c16_1)
    have r16_3 : rg x_mm_4 16 16 := rg_eqA t16_2 h_x_mm_4 (show rg (16 : Int32) 16 16 from rg_l (by decide)) (by decide)
    refine lv_iconst (v := (-1)) hx hb dX16_packet_19 (by decide) ?_
    exact endq_i hQ hx hb hr hlocks dX16_packet_20 rfl (m7_1, x_mm_4, g_upl_, g_upb) ⟨(rg_w (show rg ((-1) : Int32) (-1) (-1) from rg_l (by decide)) (by decide)), hsm7_1, hfm7_1_1, (rg_w r16_3 (by decide)), hfm7_1_4, h_g_upl_, h_g_upb, (show 16 ≤ x_mm_4.toInt → (-1 : Int32).toInt = -1 ∧ x_mm_4.toInt = x_mm_4.toInt by have q0 := (show (-1 : Int32).toInt = -1 from by decide); omega), (show x_mm_4.toInt < 16 ∧ 256 < x_mm_1.toInt → (-1 : Int32).toInt = -2 ∧ x_mm_4.toInt = x_mm_4.toInt by have q0 := r16_3.1; have q1 := (show (-1 : Int32).toInt = -1 from by decide); omega), (show x_mm_4.toInt < 16 ∧ x_mm_1.toInt ≤ 256 → (-1 : Int32).toInt = x_mm_4.toInt ∧ x_mm_4.toInt = x_mm_4.toInt + 1 by have q0 := r16_3.1; have q1 := (show (-1 : Int32).toInt = -1 from by decide); omega)⟩ hP hD hS [0, 1, 2, 3] rfl (by decide) rfl (Nat.le_of_ble_eq_true rfl) (Nat.le_of_ble_eq_true rfl)
set_option maxHeartbeats 2000000 in
theorem c_X16_load_w (l : Launch) (D : va_G) (ct : Nat → ClassId) (mm : Nat) (fs_mm : List Value) (utape : Nat) (x_mm_1 : Int32) (upg : Nat) (x_mm_27 : Int32) (g_utape : Nat → Int32) (g_upg : Nat → Int64) (PL : Nat) (hlen_mm : fs_mm.length = 78) (hf_mm_0 : fs_mm[0]? = some (.ref utape)) (h_x_mm_1 : rg x_mm_1 0 2000) (hf_mm_1 : fs_mm[1]? = some (.int x_mm_1)) (hf_mm_26 : fs_mm[26]? = some (.ref upg)) (h_x_mm_27 : rg x_mm_27 0 1) (hf_mm_27 : fs_mm[27]? = some (.int x_mm_27)) (h_g_utape : Rg g_utape 2000 0 255) (hq0 : ((PL : Nat) : Int) ≤ 4000) (hq1 : x_mm_27.toInt = 1 → 1 ≤ ((PL : Nat) : Int)) (hg0 : PB g_upg PL) : KI (S := List Value × Nat × Int32 × (Nat → Int64) × Nat) l yX16_load cX16_load 3 (some .int) 1 20 D ct [.ref mm] [(mm, .inr (16, fs_mm)), (utape, .inl (ct 1, 2000, .inl g_utape)), (upg, .inl (ct 2, PL, .inr (.inl g_upg)))] 1 250 (fun (r : Int32) (u : List Value × Nat × Int32 × (Nat → Int64) × Nat) => match u with | (fs2_mm, a_mm_26, y_mm_27, k_upg, PL2) => rg r (-1) 250 ∧ SB fs_mm fs2_mm [1, 26, 27] ∧ fs2_mm[1]? = some (.int 0) ∧ fs2_mm[26]? = some (.ref a_mm_26) ∧ rg y_mm_27 0 1 ∧ fs2_mm[27]? = some (.int y_mm_27) ∧ (((PL2 : Nat) : Int) ≤ 4000) ∧ (y_mm_27.toInt = 1 → 1 ≤ ((PL2 : Nat) : Int)) ∧ (PB k_upg PL2) ∧ ((x_mm_1.toInt = 0 ∨ x_mm_1.toInt % 8 ≠ 0) → r.toInt = -1) ∧ (¬ (x_mm_1.toInt = 0 ∨ x_mm_1.toInt % 8 ≠ 0) → r.toInt = x_mm_1.toInt / 8)) (fun (u : List Value × Nat × Int32 × (Nat → Int64) × Nat) => match u with | (fs2_mm, a_mm_26, y_mm_27, k_upg, PL2) => [(mm, .inr (16, fs2_mm)), (utape, .inl (ct 1, 2000, .inl g_utape)), (a_mm_26, .inl (ct 2, PL2, .inr (.inl k_upg)))]) := by
  refine KIq_of (by decide) (Nat.le_of_ble_eq_true rfl) (fun p e s m below meth c A Q C0 hA H locs hS hP hD hQ ls hl => ?_)
  obtain ⟨hx, hb, hr, hown, hin, hml, hlocks, hn, hK, hZ, hSK⟩ := C0
  have hl : lv_has ls 3 [(0, .ref mm)] := hl
  replace hq0 := FF.mk hq0
  replace hq1 := FF.mk hq1
  refine lv_aload_n hx hb dX16_load_0 rfl (lv_at hl 0 rfl) ?_
  refine va_get (D := D) (ci := 16) (v := .int x_mm_1) (C := RX16) (T := TX16) (N := 78) hx hb (htX16 hn) (fun _ h => h) hown hK hP 0 rfl rfl 1 (by decide) (hn.get mw_1540 rfl) (fun _ h9 => h9) hf_mm_1 dX16_load_1 ?_
  refine lv_istore_n (lv' := [(1, .int x_mm_1), (0, .ref mm)]) hx hb dX16_load_4 rfl hl (by decide) rfl (fun ls hl => ?_)
  refine lv_aload_n hx hb dX16_load_5 rfl (lv_at hl 1 rfl) ?_
  refine lv_iconst (v := 0) hx hb dX16_load_6 (by decide) ?_
  refine va_put (D := D) (ci := 16) (v := .int 0) (ty := .int) (C := RX16) (T := TX16) (N := 78) hx hb (htX16 hn) (fun _ h => h) tyX16 tyX16_ok nmX16 hown hK hP hD hS 0 rfl rfl 1 (by decide) (hn.get mw_1540 rfl) (fun _ h9 => h9) rfl (by decide +kernel) rfl rfl (by rw [hlen_mm]; decide) dX16_load_7 (fun H locs hP hD hS => ?_)
  have hP : va_P D vwCl [(mm, .inr (16, (fs_mm.set 1 (.int 0)))), (utape, .inl (ct 1, 2000, .inl g_utape)), (upg, .inl (ct 2, PL, .inr (.inl g_upg)))] _ := hP
  have hD : va_D A [(mm, .inr (16, (fs_mm.set 1 (.int 0)))), (utape, .inl (ct 1, 2000, .inl g_utape)), (upg, .inl (ct 2, PL, .inr (.inl g_upg)))] := hD
  obtain ⟨m7_1, em7_1⟩ : ∃ z, z = (fs_mm.set 1 (.int 0)) := ⟨_, rfl⟩
  rw [← em7_1] at hP hD
  have hsm7_1 : SB fs_mm m7_1 [1, 26, 27] := by rw [em7_1]; exact SB.set (SB.rf _ _) (by decide)
  have hfm7_1_26 : m7_1[26]? = some (.ref upg) := by rw [em7_1]; exact fs_ne (by decide) hf_mm_26
  have hfm7_1_27 : m7_1[27]? = some (.int x_mm_27) := by rw [em7_1]; exact fs_ne (by decide) hf_mm_27
  have hfm7_1_1 : m7_1[1]? = some (.int 0) := by rw [em7_1]; exact fs_eq (by rw [hlen_mm]; decide)
  have hP : va_P D vwCl [(mm, .inr (16, m7_1)), (utape, .inl (ct 1, 2000, .inl g_utape)), (upg, .inl (ct 2, PL, .inr (.inl g_upg)))] _ := hP
  have hD : va_D A [(mm, .inr (16, m7_1)), (utape, .inl (ct 1, 2000, .inl g_utape)), (upg, .inl (ct 2, PL, .inr (.inl g_upg)))] := hD
  refine lv_iload_n hx hb dX16_load_10 rfl (lv_at hl 0 rfl) ?_
  refine lv_if_eq (tgt := 21) hx hb dX16_load_11 (by decide) (fun c11_1 => ?_) (fun c11_1 => ?_)
  · have t11_2 := FF.mk (i_eq c11_1)
    have r11_3 : rg x_mm_1 0 0 := rg_eqA t11_2 h_x_mm_1 (show rg (0 : Int32) 0 0 from rg_l (by decide)) (by decide)
    refine lv_iconst (v := (-1)) hx hb dX16_load_21 (by decide) ?_
    exact endq_i hQ hx hb hr hlocks dX16_load_22 rfl (m7_1, upg, x_mm_27, g_upg, PL) ⟨(rg_w (show rg ((-1) : Int32) (-1) (-1) from rg_l (by decide)) (by decide)), hsm7_1, hfm7_1_1, hfm7_1_26, h_x_mm_27, hfm7_1_27, (show ((PL : Nat) : Int) ≤ 4000 by have q0 := FF.out hq0; omega), (show x_mm_27.toInt = 1 → 1 ≤ ((PL : Nat) : Int) by have q0 := h_x_mm_27.2; have q1 := FF.out hq1; omega), hg0, (show (x_mm_1.toInt = 0 ∨ x_mm_1.toInt % 8 ≠ 0) → (-1 : Int32).toInt = -1 by have q0 := (show (-1 : Int32).toInt = -1 from by decide); omega), (show ¬ (x_mm_1.toInt = 0 ∨ x_mm_1.toInt % 8 ≠ 0) → (-1 : Int32).toInt = x_mm_1.toInt / 8 by have q0 := r11_3.1; have q1 := r11_3.2; have q2 := (show (-1 : Int32).toInt = -1 from by decide); omega)⟩ hP hD hS [0, 1, 2] rfl (by decide) rfl (Nat.le_of_ble_eq_true rfl) (Nat.le_of_ble_eq_true rfl)
  · have t11_2 := FF.mk (i_ne c11_1)
    have r11_3 : rg x_mm_1 1 2000 := rg_neAl t11_2 h_x_mm_1 (show rg (0 : Int32) 0 0 from rg_l (by decide)) (by decide)
    refine lv_iload_n hx hb dX16_load_14 rfl (lv_at hl 0 rfl) ?_
    refine lv_bipush (v := 8) hx hb dX16_load_15 (by decide) ?_
    refine lv_irem hx hb dX16_load_17 (by decide) ?_
    refine lv_topi (fun z17_1 ez17_1 => ?_)
    have r17_2 : rg z17_1 0 7 := rg_rem (k := 8) ez17_1 (by decide) r11_3 (by decide)
    refine lv_if_eq (tgt := 23) hx hb dX16_load_18 (by decide) (fun c18_1 => ?_) (fun c18_1 => ?_)
    · have t18_2 := FF.mk (i_eq c18_1)
      have r18_3 : rg z17_1 0 0 := rg_eqA t18_2 r17_2 (show rg (0 : Int32) 0 0 from rg_l (by decide)) (by decide)
      refine lv_aload_n hx hb dX16_load_23 rfl (lv_at hl 1 rfl) ?_
      refine lv_iload_n hx hb dX16_load_24 rfl (lv_at hl 0 rfl) ?_
      refine lv_bipush (v := 8) hx hb dX16_load_25 (by decide) ?_
      refine lv_idiv hx hb dX16_load_27 (by decide) ?_
      refine lv_topi (fun z27_1 ez27_1 => ?_)
      have r27_2 : rg z27_1 0 250 := rg_div (k := 8) ez27_1 (by decide) r11_3 (by decide)
      obtain ⟨R2, hR2⟩ : ∃ k : Nat, z27_1.toNatClampNeg = k := ⟨_, rfl⟩
      have hR2i := FF.mk (ncn_up hR2 (show 0 ≤ z27_1.toInt by have q0 := r27_2.1; omega))
      refine na_new (atype := .long) (k1 := 1) (n1 := 250) hx hb hn mw_123 rfl hK hP hD hS hA 2 rfl R2 (R2, .inr (.inl (fun _ => 0))) (fun _ => rfl) (nneg_of (show 0 ≤ z27_1.toInt by have q0 := r27_2.1; omega)) hR2 (show R2 * 8 ≤ 536870912 by have h9 := (show ((R2 : Nat) : Int) ≤ 250 by have q0 := r27_2.2; have q1 := FF.out hR2i; omega); omega) (Nat.le_of_ble_eq_true rfl) (show 0 + R2 ≤ 250 by have h9 := (show ((R2 : Nat) : Int) ≤ 250 by have q0 := r27_2.2; have q1 := FF.out hR2i; omega); omega) (Nat.le_of_ble_eq_true rfl) (Nat.le_of_ble_eq_true rfl) dX16_load_28 (fun q28_1 H hP hD hS => ?_)
      have hP : va_P D vwCl [(mm, .inr (16, m7_1)), (utape, .inl (ct 1, 2000, .inl g_utape)), (upg, .inl (ct 2, PL, .inr (.inl g_upg))), (q28_1, .inl (ct 2, R2, .inr (.inl (fun _ => 0))))] _ := hP
      have hD : va_D A [(mm, .inr (16, m7_1)), (utape, .inl (ct 1, 2000, .inl g_utape)), (upg, .inl (ct 2, PL, .inr (.inl g_upg))), (q28_1, .inl (ct 2, R2, .inr (.inl (fun _ => 0))))] := hD
      refine va_put (D := D) (ci := 16) (v := .ref q28_1) (ty := .array .long) (C := RX16) (T := TX16) (N := 78) hx hb (htX16 hn) (fun _ h => h) tyX16 tyX16_ok nmX16 hown hK hP hD hS 0 rfl rfl 26 (by decide) (hn.get mw_1565 rfl) (fun _ h9 => h9) rfl (by decide +kernel) rfl rfl (by rw [hsm7_1.1, hlen_mm]; decide) dX16_load_30 (fun H locs hP hD hS => ?_)
      have hP : va_P D vwCl [(mm, .inr (16, (m7_1.set 26 (.ref q28_1)))), (utape, .inl (ct 1, 2000, .inl g_utape)), (upg, .inl (ct 2, PL, .inr (.inl g_upg))), (q28_1, .inl (ct 2, R2, .inr (.inl (fun _ => 0))))] _ := hP
      have hD : va_D A [(mm, .inr (16, (m7_1.set 26 (.ref q28_1)))), (utape, .inl (ct 1, 2000, .inl g_utape)), (upg, .inl (ct 2, PL, .inr (.inl g_upg))), (q28_1, .inl (ct 2, R2, .inr (.inl (fun _ => 0))))] := hD
      obtain ⟨m30_1, em30_1⟩ : ∃ z, z = (m7_1.set 26 (.ref q28_1)) := ⟨_, rfl⟩
      rw [← em30_1] at hP hD
      have hsm30_1 : SB fs_mm m30_1 [1, 26, 27] := by rw [em30_1]; exact SB.set hsm7_1 (by decide)
      have hfm30_1_27 : m30_1[27]? = some (.int x_mm_27) := by rw [em30_1]; exact fs_ne (by decide) hfm7_1_27
      have hfm30_1_1 : m30_1[1]? = some (.int 0) := by rw [em30_1]; exact fs_ne (by decide) hfm7_1_1
      have hfm30_1_26 : m30_1[26]? = some (.ref q28_1) := by rw [em30_1]; exact fs_eq (by rw [hsm7_1.1, hlen_mm]; decide)
      have hP : va_P D vwCl [(mm, .inr (16, m30_1)), (utape, .inl (ct 1, 2000, .inl g_utape)), (upg, .inl (ct 2, PL, .inr (.inl g_upg))), (q28_1, .inl (ct 2, R2, .inr (.inl (fun _ => 0))))] _ := hP
      have hD : va_D A [(mm, .inr (16, m30_1)), (utape, .inl (ct 1, 2000, .inl g_utape)), (upg, .inl (ct 2, PL, .inr (.inl g_upg))), (q28_1, .inl (ct 2, R2, .inr (.inl (fun _ => 0))))] := hD
      refine lv_iconst (v := 0) hx hb dX16_load_33 (by decide) ?_
      refine lv_istore_n (lv' := [(2, .int 0), (1, .int x_mm_1), (0, .ref mm)]) hx hb dX16_load_34 rfl hl (by decide) rfl (fun ls hl => ?_)
      have b35 : ∀ (n35 : Nat) (j35_l2 : Int32) (j35_cq28_1 : Nat → Int64) (H : Heap) (locs : List Loc) (ls : Array Slot), (rg j35_l2 0 2147483647) → ((2147483647 : Int) - j35_l2.toInt).toNat < n35 → lv_has ls 3 [(0, .ref mm), (1, .int x_mm_1), (2, .int j35_l2)] → va_P D vwCl [(mm, .inr (16, m30_1)), (utape, .inl (ct 1, 2000, .inl g_utape)), (upg, .inl (ct 2, PL, .inr (.inl g_upg))), (q28_1, .inl (ct 2, R2, .inr (.inl j35_cq28_1)))] H → va_D A [(mm, .inr (16, m30_1)), (utape, .inl (ct 1, 2000, .inl g_utape)), (upg, .inl (ct 2, PL, .inr (.inl g_upg))), (q28_1, .inl (ct 2, R2, .inr (.inl j35_cq28_1)))] → va_S A s.heap H locs → W p l e ({ frames := 1, cells := 1, slots := 250, locals := 20 }) s m [.ref mm].toArray below meth c H locs 1 250 Q (F0 m 35 ls []) := by
        intro n35
        induction n35 with
        | zero => intros; rename_i hms _ _ _ _; exact absurd hms (Nat.not_lt_zero _)
        | succ n35 ih35 =>
          intro j35_l2 j35_cq28_1 H locs ls r35_1001 hms35 hl hP hD hS
          refine lv_iload_n hx hb dX16_load_35 rfl (lv_at hl 2 rfl) ?_
          refine lv_iload_n hx hb dX16_load_36 rfl (lv_at hl 1 rfl) ?_
          refine lv_icmp_ge (tgt := 73) hx hb dX16_load_37 (by decide) (fun c37_1 => ?_) (fun c37_1 => ?_)
          · have t37_2 := FF.mk (i_le c37_1)
            have r37_3 : rg j35_l2 1 2147483647 := rg_leB t37_2 r11_3 r35_1001 (by decide)
            refine lv_aload_n hx hb dX16_load_73 rfl (lv_at hl 0 rfl) ?_
            refine lv_iconst (v := 1) hx hb dX16_load_74 (by decide) ?_
            refine va_put (D := D) (ci := 16) (v := .int 1) (ty := .boolean) (C := RX16) (T := TX16) (N := 78) hx hb (htX16 hn) (fun _ h => h) tyX16 tyX16_ok nmX16 hown hK hP hD hS 0 rfl rfl 27 (by decide) (hn.get mw_1566 rfl) (fun _ h9 => h9) rfl (by decide +kernel) (by decide) rfl (by rw [hsm30_1.1, hlen_mm]; decide) dX16_load_75 (fun H locs hP hD hS => ?_)
            have hP : va_P D vwCl [(mm, .inr (16, (m30_1.set 27 (.int 1)))), (utape, .inl (ct 1, 2000, .inl g_utape)), (upg, .inl (ct 2, PL, .inr (.inl g_upg))), (q28_1, .inl (ct 2, R2, .inr (.inl j35_cq28_1)))] _ := hP
            have hD : va_D A [(mm, .inr (16, (m30_1.set 27 (.int 1)))), (utape, .inl (ct 1, 2000, .inl g_utape)), (upg, .inl (ct 2, PL, .inr (.inl g_upg))), (q28_1, .inl (ct 2, R2, .inr (.inl j35_cq28_1)))] := hD
            obtain ⟨m75_1, em75_1⟩ : ∃ z, z = (m30_1.set 27 (.int 1)) := ⟨_, rfl⟩
            rw [← em75_1] at hP hD
            have hsm75_1 : SB fs_mm m75_1 [1, 26, 27] := by rw [em75_1]; exact SB.set hsm30_1 (by decide)
            have hfm75_1_1 : m75_1[1]? = some (.int 0) := by rw [em75_1]; exact fs_ne (by decide) hfm30_1_1
            have hfm75_1_26 : m75_1[26]? = some (.ref q28_1) := by rw [em75_1]; exact fs_ne (by decide) hfm30_1_26
            have hfm75_1_27 : m75_1[27]? = some (.int 1) := by rw [em75_1]; exact fs_eq (by rw [hsm30_1.1, hlen_mm]; decide)
            have hP : va_P D vwCl [(mm, .inr (16, m75_1)), (utape, .inl (ct 1, 2000, .inl g_utape)), (upg, .inl (ct 2, PL, .inr (.inl g_upg))), (q28_1, .inl (ct 2, R2, .inr (.inl j35_cq28_1)))] _ := hP
            have hD : va_D A [(mm, .inr (16, m75_1)), (utape, .inl (ct 1, 2000, .inl g_utape)), (upg, .inl (ct 2, PL, .inr (.inl g_upg))), (q28_1, .inl (ct 2, R2, .inr (.inl j35_cq28_1)))] := hD
            refine lv_iload_n hx hb dX16_load_78 rfl (lv_at hl 1 rfl) ?_
            refine lv_bipush (v := 8) hx hb dX16_load_79 (by decide) ?_
            refine lv_idiv hx hb dX16_load_81 (by decide) ?_
            refine lv_topi (fun z81_1 ez81_1 => ?_)
            have r81_2 : rg z81_1 0 250 := rg_div (k := 8) ez81_1 (by decide) r11_3 (by decide)
            exact endq_i hQ hx hb hr hlocks dX16_load_82 rfl (m75_1, q28_1, (1 : Int32), j35_cq28_1, R2) ⟨(rg_w r81_2 (by decide)), hsm75_1, hfm75_1_1, hfm75_1_26, (rg_w (show rg (1 : Int32) 1 1 from rg_l (by decide)) (by decide)), hfm75_1_27, (show ((R2 : Nat) : Int) ≤ 4000 by have q0 := r27_2.2; have q1 := FF.out hR2i; omega), (show (1 : Int32).toInt = 1 → 1 ≤ ((R2 : Nat) : Int) by have q0 := (eq_div (c := 8) (k := 8) ez27_1 (by decide) r11_3 (by decide)); have q1 := r11_3.1; have q2 := (eq_rem (c := 8) (k := 8) ez17_1 (by decide) r11_3 (by decide)); have q3 := FF.out t18_2; have q4 := FF.out hR2i; have q5 := (show (0 : Int32).toInt = 0 from by decide); have q6 := (show (1 : Int32).toInt = 1 from by decide); omega), (PB.small (Int.ofNat_le.mp (show ((R2 : Nat) : Int) ≤ 250 by have q0 := r27_2.2; have q1 := FF.out hR2i; omega))), (show (x_mm_1.toInt = 0 ∨ x_mm_1.toInt % 8 ≠ 0) → z81_1.toInt = -1 by have q0 := r11_3.1; have q1 := (eq_rem (c := 8) (k := 8) ez17_1 (by decide) r11_3 (by decide)); have q2 := FF.out t18_2; have q3 := (show (0 : Int32).toInt = 0 from by decide); omega), (show ¬ (x_mm_1.toInt = 0 ∨ x_mm_1.toInt % 8 ≠ 0) → z81_1.toInt = x_mm_1.toInt / 8 by have q0 := (eq_div (c := 8) (k := 8) ez81_1 (by decide) r11_3 (by decide)); omega)⟩ hP hD hS [0, 1, 3] rfl (by decide) rfl (Nat.le_of_ble_eq_true rfl) (Nat.le_of_ble_eq_true rfl)
          · have t37_2 := FF.mk (i_nle c37_1)
            have r37_3 : rg j35_l2 0 1999 := rg_ltA t37_2 r35_1001 r11_3 (by decide)
            refine lv_aload_n hx hb dX16_load_40 rfl (lv_at hl 0 rfl) ?_
            refine va_get (D := D) (ci := 16) (v := .ref q28_1) (C := RX16) (T := TX16) (N := 78) hx hb (htX16 hn) (fun _ h => h) hown hK hP 0 rfl rfl 26 (by decide) (hn.get mw_1565 rfl) (fun _ h9 => h9) hfm30_1_26 dX16_load_41 ?_
            refine lv_iload_n hx hb dX16_load_44 rfl (lv_at hl 2 rfl) ?_
            refine lv_bipush (v := 8) hx hb dX16_load_45 (by decide) ?_
            refine lv_idiv hx hb dX16_load_47 (by decide) ?_
            refine lv_topi (fun z47_1 ez47_1 => ?_)
            have r47_2 : rg z47_1 0 249 := rg_div (k := 8) ez47_1 (by decide) r37_3 (by decide)
            refine lv_dup2_11 hx hb dX16_load_48 rfl rfl ?_
            have hi49_1 : vp_in z47_1 R2 := (in_of (show 0 ≤ z47_1.toInt ∧ z47_1.toInt < ((R2 : Nat) : Int) by have q0 := r47_2.1; have q1 := (eq_div (c := 8) (k := 8) ez47_1 (by decide) r37_3 (by decide)); have q2 := r18_3.2; have q3 := (eq_rem (c := 8) (k := 8) ez17_1 (by decide) r11_3 (by decide)); have q4 := (eq_div (c := 8) (k := 8) ez27_1 (by decide) r11_3 (by decide)); have q5 := FF.out hR2i; have q6 := FF.out t37_2; omega))
            refine va_lald hx hb hK hP 3 2 rfl rfl hi49_1 dX16_load_49 ?_
            refine lv_topl (fun z49_2 ez49_2 => ?_)
            refine lv_aload_n hx hb dX16_load_50 rfl (lv_at hl 0 rfl) ?_
            refine va_get (D := D) (ci := 16) (v := .ref utape) (C := RX16) (T := TX16) (N := 78) hx hb (htX16 hn) (fun _ h => h) hown hK hP 0 rfl rfl 0 (by decide) (hn.get mw_1539 rfl) (fun _ h9 => h9) (SB.get hsm30_1 (by decide) hf_mm_0) dX16_load_51 ?_
            refine lv_iload_n hx hb dX16_load_54 rfl (lv_at hl 2 rfl) ?_
            have hi55_1 : vp_in j35_l2 2000 := (in_rg r37_3 (by decide))
            refine va_iald hx hb hK hP 1 1 rfl rfl hi55_1 dX16_load_55 ?_
            refine lv_topi (fun z55_2 ez55_2 => ?_)
            have r55_3 : rg z55_2 0 255 := Rg_at h_g_utape hi55_1 ez55_2
            refine lv_i2l hx hb dX16_load_56 rfl ?_
            refine lv_topl (fun z56_1 ez56_1 => ?_)
            have r56_2 : rl z56_1 0 255 := rl_i2l ez56_1 r55_3
            refine lv_bipush (v := 8) hx hb dX16_load_57 (by decide) ?_
            refine lv_iload_n hx hb dX16_load_59 rfl (lv_at hl 2 rfl) ?_
            refine lv_bipush (v := 8) hx hb dX16_load_60 (by decide) ?_
            refine lv_irem hx hb dX16_load_62 (by decide) ?_
            refine lv_topi (fun z62_1 ez62_1 => ?_)
            have r62_2 : rg z62_1 0 7 := rg_rem (k := 8) ez62_1 (by decide) r37_3 (by decide)
            refine lv_imul hx hb dX16_load_63 ?_
            refine lv_topi (fun z63_1 ez63_1 => ?_)
            have r63_2 : rg z63_1 0 56 := rg_mul ez63_1 (show rg (8 : Int32) 8 8 from rg_l (by decide)) r62_2 (by decide)
            refine lv_lshl hx hb dX16_load_64 rfl ?_
            refine lv_topl (fun z64_1 ez64_1 => ?_)
            refine lv_lor hx hb dX16_load_65 ?_
            refine lv_topl (fun z65_1 ez65_1 => ?_)
            have hi66_1 : vp_in z47_1 R2 := (in_of (show 0 ≤ z47_1.toInt ∧ z47_1.toInt < ((R2 : Nat) : Int) by have q0 := r47_2.1; have q1 := (eq_div (c := 8) (k := 8) ez47_1 (by decide) r37_3 (by decide)); have q2 := r18_3.2; have q3 := (eq_rem (c := 8) (k := 8) ez17_1 (by decide) r11_3 (by decide)); have q4 := (eq_div (c := 8) (k := 8) ez27_1 (by decide) r11_3 (by decide)); have q5 := FF.out hR2i; have q6 := FF.out t37_2; omega))
            refine va_last hx hb hK hP hD hS 3 2 rfl rfl hi66_1 dX16_load_66 (fun H locs hP hD hS => ?_)
            have hP : va_P D vwCl [(mm, .inr (16, m30_1)), (utape, .inl (ct 1, 2000, .inl g_utape)), (upg, .inl (ct 2, PL, .inr (.inl g_upg))), (q28_1, .inl (ct 2, R2, .inr (.inl (vp_updL j35_cq28_1 z47_1.toNatClampNeg z65_1))))] _ := hP
            have hD : va_D A [(mm, .inr (16, m30_1)), (utape, .inl (ct 1, 2000, .inl g_utape)), (upg, .inl (ct 2, PL, .inr (.inl g_upg))), (q28_1, .inl (ct 2, R2, .inr (.inl (vp_updL j35_cq28_1 z47_1.toNatClampNeg z65_1))))] := hD
            obtain ⟨f66_2, ef66_2⟩ : ∃ z, z = (vp_updL j35_cq28_1 z47_1.toNatClampNeg z65_1) := ⟨_, rfl⟩
            rw [← ef66_2] at hP hD
            obtain ⟨x67_1, ex67_1⟩ : ∃ z : Int32, z = j35_l2 + 1 := ⟨_, rfl⟩
            have r67_2 : rg x67_1 1 2000 := rg_add ex67_1 r37_3 (show rg (1 : Int32) 1 1 from rg_l (by decide)) (by decide)
            refine lv_iinc (v := x67_1) (lv' := [(2, .int x67_1), (0, .ref mm), (1, .int x_mm_1)]) hx hb dX16_load_67 hl (k := 2) rfl (by rw [ex67_1]; rfl) (by decide) rfl (fun ls hl => ?_)
            refine lv_goto (tgt := 35) hx hb dX16_load_70 (by decide) ?_
            exact ih35 x67_1 f66_2 H locs ls (rg_w r67_2 (by decide)) (show ((2147483647 : Int) - x67_1.toInt).toNat < n35 by have q0 := r37_3.2; have q1 := (eq_add ex67_1 r37_3 (show rg (1 : Int32) 1 1 from rg_l (by decide)) (by decide)); have q2 := (show (1 : Int32).toInt = 1 from by decide); have q3 := hms35; omega) (lv_sub hl [1, 2, 0] rfl) hP hD hS
      exact b35 _ (0 : Int32) (fun _ => 0) H locs ls (rg_w (show rg (0 : Int32) 0 0 from rg_l (by decide)) (by decide)) (Nat.lt_succ_self _) (lv_sub hl [2, 1, 0] rfl) hP hD hS
    · have t18_2 := FF.mk (i_ne c18_1)
      have r18_3 : rg z17_1 1 7 := rg_neAl t18_2 r17_2 (show rg (0 : Int32) 0 0 from rg_l (by decide)) (by decide)
      refine lv_iconst (v := (-1)) hx hb dX16_load_21 (by decide) ?_
      exact endq_i hQ hx hb hr hlocks dX16_load_22 rfl (m7_1, upg, x_mm_27, g_upg, PL) ⟨(rg_w (show rg ((-1) : Int32) (-1) (-1) from rg_l (by decide)) (by decide)), hsm7_1, hfm7_1_1, hfm7_1_26, h_x_mm_27, hfm7_1_27, (show ((PL : Nat) : Int) ≤ 4000 by have q0 := FF.out hq0; omega), (show x_mm_27.toInt = 1 → 1 ≤ ((PL : Nat) : Int) by have q0 := h_x_mm_27.2; have q1 := FF.out hq1; omega), hg0, (show (x_mm_1.toInt = 0 ∨ x_mm_1.toInt % 8 ≠ 0) → (-1 : Int32).toInt = -1 by have q0 := (show (-1 : Int32).toInt = -1 from by decide); omega), (show ¬ (x_mm_1.toInt = 0 ∨ x_mm_1.toInt % 8 ≠ 0) → (-1 : Int32).toInt = x_mm_1.toInt / 8 by have q0 := r18_3.1; have q1 := (eq_rem (c := 8) (k := 8) ez17_1 (by decide) r11_3 (by decide)); have q2 := (show (-1 : Int32).toInt = -1 from by decide); omega)⟩ hP hD hS [0, 1, 2] rfl (by decide) rfl (Nat.le_of_ble_eq_true rfl) (Nat.le_of_ble_eq_true rfl)
set_option maxHeartbeats 2000000 in
theorem c_X16_raw_w (l : Launch) (D : va_G) (ct : Nat → ClassId) (mm : Nat) (fs_mm : List Value) (utape : Nat) (x_mm_1 : Int32) (uob : Nat) (x_mm_70 : Int32) (x_mm_71 : Int32) (g_uob : Nat → Int32) (g_utape : Nat → Int32) (hlen_mm : fs_mm.length = 78) (hf_mm_0 : fs_mm[0]? = some (.ref utape)) (h_x_mm_1 : rg x_mm_1 0 2000) (hf_mm_1 : fs_mm[1]? = some (.int x_mm_1)) (hf_mm_69 : fs_mm[69]? = some (.ref uob)) (h_x_mm_70 : rg x_mm_70 0 60000) (hf_mm_70 : fs_mm[70]? = some (.int x_mm_70)) (h_x_mm_71 : rg x_mm_71 0 1) (hf_mm_71 : fs_mm[71]? = some (.int x_mm_71)) (h_g_utape : Rg g_utape 2000 0 255) : KI (S := List Value × Int32 × Int32 × (Nat → Int32)) l yX16_raw cX16_raw 3 (some .int) 1 20 D ct [.ref mm] [(mm, .inr (16, fs_mm)), (uob, .inl (ct 1, 60000, .inl g_uob)), (utape, .inl (ct 1, 2000, .inl g_utape))] 0 0 (fun (r : Int32) (u : List Value × Int32 × Int32 × (Nat → Int32)) => match u with | (fs2_mm, y_mm_70, y_mm_71, k_uob) => rg r (-1) 500 ∧ SB fs_mm fs2_mm [1, 70, 71] ∧ fs2_mm[1]? = some (.int 0) ∧ rg y_mm_70 0 60000 ∧ fs2_mm[70]? = some (.int y_mm_70) ∧ rg y_mm_71 0 1 ∧ fs2_mm[71]? = some (.int y_mm_71) ∧ ((x_mm_1.toInt = 0 ∨ x_mm_1.toInt % 4 ≠ 0) → r.toInt = -1) ∧ (¬ (x_mm_1.toInt = 0 ∨ x_mm_1.toInt % 4 ≠ 0) → r.toInt = x_mm_1.toInt / 4)) (fun (u : List Value × Int32 × Int32 × (Nat → Int32)) => match u with | (fs2_mm, y_mm_70, y_mm_71, k_uob) => [(mm, .inr (16, fs2_mm)), (uob, .inl (ct 1, 60000, .inl k_uob)), (utape, .inl (ct 1, 2000, .inl g_utape))]) := by
  refine KIq_of (by decide) (Nat.le_of_ble_eq_true rfl) (fun p e s m below meth c A Q C0 hA H locs hS hP hD hQ ls hl => ?_)
  obtain ⟨hx, hb, hr, hown, hin, hml, hlocks, hn, hK, hZ, hSK⟩ := C0
  have hl : lv_has ls 3 [(0, .ref mm)] := hl
  refine lv_aload_n hx hb dX16_raw_0 rfl (lv_at hl 0 rfl) ?_
  refine va_get (D := D) (ci := 16) (v := .int x_mm_1) (C := RX16) (T := TX16) (N := 78) hx hb (htX16 hn) (fun _ h => h) hown hK hP 0 rfl rfl 1 (by decide) (hn.get mw_1540 rfl) (fun _ h9 => h9) hf_mm_1 dX16_raw_1 ?_
  refine lv_istore_n (lv' := [(1, .int x_mm_1), (0, .ref mm)]) hx hb dX16_raw_4 rfl hl (by decide) rfl (fun ls hl => ?_)
  refine lv_aload_n hx hb dX16_raw_5 rfl (lv_at hl 1 rfl) ?_
  refine lv_iconst (v := 0) hx hb dX16_raw_6 (by decide) ?_
  refine va_put (D := D) (ci := 16) (v := .int 0) (ty := .int) (C := RX16) (T := TX16) (N := 78) hx hb (htX16 hn) (fun _ h => h) tyX16 tyX16_ok nmX16 hown hK hP hD hS 0 rfl rfl 1 (by decide) (hn.get mw_1540 rfl) (fun _ h9 => h9) rfl (by decide +kernel) rfl rfl (by rw [hlen_mm]; decide) dX16_raw_7 (fun H locs hP hD hS => ?_)
  have hP : va_P D vwCl [(mm, .inr (16, (fs_mm.set 1 (.int 0)))), (uob, .inl (ct 1, 60000, .inl g_uob)), (utape, .inl (ct 1, 2000, .inl g_utape))] _ := hP
  have hD : va_D A [(mm, .inr (16, (fs_mm.set 1 (.int 0)))), (uob, .inl (ct 1, 60000, .inl g_uob)), (utape, .inl (ct 1, 2000, .inl g_utape))] := hD
  obtain ⟨m7_1, em7_1⟩ : ∃ z, z = (fs_mm.set 1 (.int 0)) := ⟨_, rfl⟩
  rw [← em7_1] at hP hD
  have hsm7_1 : SB fs_mm m7_1 [1, 70, 71] := by rw [em7_1]; exact SB.set (SB.rf _ _) (by decide)
  have hfm7_1_70 : m7_1[70]? = some (.int x_mm_70) := by rw [em7_1]; exact fs_ne (by decide) hf_mm_70
  have hfm7_1_71 : m7_1[71]? = some (.int x_mm_71) := by rw [em7_1]; exact fs_ne (by decide) hf_mm_71
  have hfm7_1_1 : m7_1[1]? = some (.int 0) := by rw [em7_1]; exact fs_eq (by rw [hlen_mm]; decide)
  have hP : va_P D vwCl [(mm, .inr (16, m7_1)), (uob, .inl (ct 1, 60000, .inl g_uob)), (utape, .inl (ct 1, 2000, .inl g_utape))] _ := hP
  have hD : va_D A [(mm, .inr (16, m7_1)), (uob, .inl (ct 1, 60000, .inl g_uob)), (utape, .inl (ct 1, 2000, .inl g_utape))] := hD
  refine lv_iload_n hx hb dX16_raw_10 rfl (lv_at hl 0 rfl) ?_
  refine lv_if_eq (tgt := 20) hx hb dX16_raw_11 (by decide) (fun c11_1 => ?_) (fun c11_1 => ?_)
  · have t11_2 := FF.mk (i_eq c11_1)
    have r11_3 : rg x_mm_1 0 0 := rg_eqA t11_2 h_x_mm_1 (show rg (0 : Int32) 0 0 from rg_l (by decide)) (by decide)
    refine lv_iconst (v := (-1)) hx hb dX16_raw_20 (by decide) ?_
    exact endq_i hQ hx hb hr hlocks dX16_raw_21 rfl (m7_1, x_mm_70, x_mm_71, g_uob) ⟨(rg_w (show rg ((-1) : Int32) (-1) (-1) from rg_l (by decide)) (by decide)), hsm7_1, hfm7_1_1, h_x_mm_70, hfm7_1_70, h_x_mm_71, hfm7_1_71, (show (x_mm_1.toInt = 0 ∨ x_mm_1.toInt % 4 ≠ 0) → (-1 : Int32).toInt = -1 by have q0 := (show (-1 : Int32).toInt = -1 from by decide); omega), (show ¬ (x_mm_1.toInt = 0 ∨ x_mm_1.toInt % 4 ≠ 0) → (-1 : Int32).toInt = x_mm_1.toInt / 4 by have q0 := r11_3.1; have q1 := r11_3.2; have q2 := (show (-1 : Int32).toInt = -1 from by decide); omega)⟩ hP hD hS [0, 1, 2] rfl (by decide) rfl (Nat.le_of_ble_eq_true rfl) (Nat.le_of_ble_eq_true rfl)
  · have t11_2 := FF.mk (i_ne c11_1)
    have r11_3 : rg x_mm_1 1 2000 := rg_neAl t11_2 h_x_mm_1 (show rg (0 : Int32) 0 0 from rg_l (by decide)) (by decide)
    refine lv_iload_n hx hb dX16_raw_14 rfl (lv_at hl 0 rfl) ?_
    refine lv_iconst (v := 4) hx hb dX16_raw_15 (by decide) ?_
    refine lv_irem hx hb dX16_raw_16 (by decide) ?_
    refine lv_topi (fun z16_1 ez16_1 => ?_)
    have r16_2 : rg z16_1 0 3 := rg_rem (k := 4) ez16_1 (by decide) r11_3 (by decide)
    refine lv_if_eq (tgt := 22) hx hb dX16_raw_17 (by decide) (fun c17_1 => ?_) (fun c17_1 => ?_)
    · have t17_2 := FF.mk (i_eq c17_1)
      have r17_3 : rg z16_1 0 0 := rg_eqA t17_2 r16_2 (show rg (0 : Int32) 0 0 from rg_l (by decide)) (by decide)
      refine lv_iconst (v := 0) hx hb dX16_raw_22 (by decide) ?_
      refine lv_istore_n (lv' := [(2, .int 0), (1, .int x_mm_1), (0, .ref mm)]) hx hb dX16_raw_23 rfl hl (by decide) rfl (fun ls hl => ?_)
      have b24 : ∀ (n24 : Nat) (j24_l2 : Int32) (j24_cuob : Nat → Int32) (H : Heap) (locs : List Loc) (ls : Array Slot), (rg j24_l2 0 2147483647) → ((2147483647 : Int) - j24_l2.toInt).toNat < n24 → lv_has ls 3 [(0, .ref mm), (1, .int x_mm_1), (2, .int j24_l2)] → va_P D vwCl [(mm, .inr (16, m7_1)), (uob, .inl (ct 1, 60000, .inl j24_cuob)), (utape, .inl (ct 1, 2000, .inl g_utape))] H → va_D A [(mm, .inr (16, m7_1)), (uob, .inl (ct 1, 60000, .inl j24_cuob)), (utape, .inl (ct 1, 2000, .inl g_utape))] → va_S A s.heap H locs → W p l e ({ frames := 1, cells := 0, slots := 0, locals := 20 }) s m [.ref mm].toArray below meth c H locs 0 0 Q (F0 m 24 ls []) := by
        intro n24
        induction n24 with
        | zero => intros; rename_i hms _ _ _ _; exact absurd hms (Nat.not_lt_zero _)
        | succ n24 ih24 =>
          intro j24_l2 j24_cuob H locs ls r24_1001 hms24 hl hP hD hS
          refine lv_iload_n hx hb dX16_raw_24 rfl (lv_at hl 2 rfl) ?_
          refine lv_iload_n hx hb dX16_raw_25 rfl (lv_at hl 1 rfl) ?_
          refine lv_icmp_ge (tgt := 75) hx hb dX16_raw_26 (by decide) (fun c26_1 => ?_) (fun c26_1 => ?_)
          · have t26_2 := FF.mk (i_le c26_1)
            have r26_3 : rg j24_l2 1 2147483647 := rg_leB t26_2 r11_3 r24_1001 (by decide)
            refine lv_aload_n hx hb dX16_raw_75 rfl (lv_at hl 0 rfl) ?_
            refine lv_iload_n hx hb dX16_raw_76 rfl (lv_at hl 1 rfl) ?_
            refine lv_iconst (v := 4) hx hb dX16_raw_77 (by decide) ?_
            refine lv_idiv hx hb dX16_raw_78 (by decide) ?_
            refine lv_topi (fun z78_1 ez78_1 => ?_)
            have r78_2 : rg z78_1 0 500 := rg_div (k := 4) ez78_1 (by decide) r11_3 (by decide)
            refine va_put (D := D) (ci := 16) (v := .int z78_1) (ty := .int) (C := RX16) (T := TX16) (N := 78) hx hb (htX16 hn) (fun _ h => h) tyX16 tyX16_ok nmX16 hown hK hP hD hS 0 rfl rfl 70 (by decide) (hn.get mw_1609 rfl) (fun _ h9 => h9) rfl (by decide +kernel) rfl rfl (by rw [hsm7_1.1, hlen_mm]; decide) dX16_raw_79 (fun H locs hP hD hS => ?_)
            have hP : va_P D vwCl [(mm, .inr (16, (m7_1.set 70 (.int z78_1)))), (uob, .inl (ct 1, 60000, .inl j24_cuob)), (utape, .inl (ct 1, 2000, .inl g_utape))] _ := hP
            have hD : va_D A [(mm, .inr (16, (m7_1.set 70 (.int z78_1)))), (uob, .inl (ct 1, 60000, .inl j24_cuob)), (utape, .inl (ct 1, 2000, .inl g_utape))] := hD
            obtain ⟨m79_1, em79_1⟩ : ∃ z, z = (m7_1.set 70 (.int z78_1)) := ⟨_, rfl⟩
            rw [← em79_1] at hP hD
            have hsm79_1 : SB fs_mm m79_1 [1, 70, 71] := by rw [em79_1]; exact SB.set hsm7_1 (by decide)
            have hfm79_1_71 : m79_1[71]? = some (.int x_mm_71) := by rw [em79_1]; exact fs_ne (by decide) hfm7_1_71
            have hfm79_1_1 : m79_1[1]? = some (.int 0) := by rw [em79_1]; exact fs_ne (by decide) hfm7_1_1
            have hfm79_1_70 : m79_1[70]? = some (.int z78_1) := by rw [em79_1]; exact fs_eq (by rw [hsm7_1.1, hlen_mm]; decide)
            have hP : va_P D vwCl [(mm, .inr (16, m79_1)), (uob, .inl (ct 1, 60000, .inl j24_cuob)), (utape, .inl (ct 1, 2000, .inl g_utape))] _ := hP
            have hD : va_D A [(mm, .inr (16, m79_1)), (uob, .inl (ct 1, 60000, .inl j24_cuob)), (utape, .inl (ct 1, 2000, .inl g_utape))] := hD
            refine lv_aload_n hx hb dX16_raw_82 rfl (lv_at hl 0 rfl) ?_
            refine lv_iconst (v := 1) hx hb dX16_raw_83 (by decide) ?_
            refine va_put (D := D) (ci := 16) (v := .int 1) (ty := .boolean) (C := RX16) (T := TX16) (N := 78) hx hb (htX16 hn) (fun _ h => h) tyX16 tyX16_ok nmX16 hown hK hP hD hS 0 rfl rfl 71 (by decide) (hn.get mw_1610 rfl) (fun _ h9 => h9) rfl (by decide +kernel) (by decide) rfl (by rw [hsm79_1.1, hlen_mm]; decide) dX16_raw_84 (fun H locs hP hD hS => ?_)
            have hP : va_P D vwCl [(mm, .inr (16, (m79_1.set 71 (.int 1)))), (uob, .inl (ct 1, 60000, .inl j24_cuob)), (utape, .inl (ct 1, 2000, .inl g_utape))] _ := hP
            have hD : va_D A [(mm, .inr (16, (m79_1.set 71 (.int 1)))), (uob, .inl (ct 1, 60000, .inl j24_cuob)), (utape, .inl (ct 1, 2000, .inl g_utape))] := hD
            obtain ⟨m84_1, em84_1⟩ : ∃ z, z = (m79_1.set 71 (.int 1)) := ⟨_, rfl⟩
            rw [← em84_1] at hP hD
            have hsm84_1 : SB fs_mm m84_1 [1, 70, 71] := by rw [em84_1]; exact SB.set hsm79_1 (by decide)
            have hfm84_1_1 : m84_1[1]? = some (.int 0) := by rw [em84_1]; exact fs_ne (by decide) hfm79_1_1
            have hfm84_1_70 : m84_1[70]? = some (.int z78_1) := by rw [em84_1]; exact fs_ne (by decide) hfm79_1_70
            have hfm84_1_71 : m84_1[71]? = some (.int 1) := by rw [em84_1]; exact fs_eq (by rw [hsm79_1.1, hlen_mm]; decide)
            have hP : va_P D vwCl [(mm, .inr (16, m84_1)), (uob, .inl (ct 1, 60000, .inl j24_cuob)), (utape, .inl (ct 1, 2000, .inl g_utape))] _ := hP
            have hD : va_D A [(mm, .inr (16, m84_1)), (uob, .inl (ct 1, 60000, .inl j24_cuob)), (utape, .inl (ct 1, 2000, .inl g_utape))] := hD
            refine lv_iload_n hx hb dX16_raw_87 rfl (lv_at hl 1 rfl) ?_
            refine lv_iconst (v := 4) hx hb dX16_raw_88 (by decide) ?_
            refine lv_idiv hx hb dX16_raw_89 (by decide) ?_
            refine lv_topi (fun z89_1 ez89_1 => ?_)
            have r89_2 : rg z89_1 0 500 := rg_div (k := 4) ez89_1 (by decide) r11_3 (by decide)
            exact endq_i hQ hx hb hr hlocks dX16_raw_90 rfl (m84_1, z78_1, (1 : Int32), j24_cuob) ⟨(rg_w r89_2 (by decide)), hsm84_1, hfm84_1_1, (rg_w r78_2 (by decide)), hfm84_1_70, (rg_w (show rg (1 : Int32) 1 1 from rg_l (by decide)) (by decide)), hfm84_1_71, (show (x_mm_1.toInt = 0 ∨ x_mm_1.toInt % 4 ≠ 0) → z89_1.toInt = -1 by have q0 := r11_3.1; have q1 := (eq_rem (c := 4) (k := 4) ez16_1 (by decide) r11_3 (by decide)); have q2 := FF.out t17_2; have q3 := (show (0 : Int32).toInt = 0 from by decide); omega), (show ¬ (x_mm_1.toInt = 0 ∨ x_mm_1.toInt % 4 ≠ 0) → z89_1.toInt = x_mm_1.toInt / 4 by have q0 := (eq_div (c := 4) (k := 4) ez89_1 (by decide) r11_3 (by decide)); omega)⟩ hP hD hS [0, 1, 2] rfl (by decide) rfl (Nat.le_of_ble_eq_true rfl) (Nat.le_of_ble_eq_true rfl)
          · have t26_2 := FF.mk (i_nle c26_1)
            have r26_3 : rg j24_l2 0 1999 := rg_ltA t26_2 r24_1001 r11_3 (by decide)
            refine lv_aload_n hx hb dX16_raw_29 rfl (lv_at hl 0 rfl) ?_
            refine va_get (D := D) (ci := 16) (v := .ref uob) (C := RX16) (T := TX16) (N := 78) hx hb (htX16 hn) (fun _ h => h) hown hK hP 0 rfl rfl 69 (by decide) (hn.get mw_1608 rfl) (fun _ h9 => h9) (SB.get hsm7_1 (by decide) hf_mm_69) dX16_raw_30 ?_
            refine lv_iload_n hx hb dX16_raw_33 rfl (lv_at hl 2 rfl) ?_
            refine lv_iconst (v := 4) hx hb dX16_raw_34 (by decide) ?_
            refine lv_idiv hx hb dX16_raw_35 (by decide) ?_
            refine lv_topi (fun z35_1 ez35_1 => ?_)
            have r35_2 : rg z35_1 0 499 := rg_div (k := 4) ez35_1 (by decide) r26_3 (by decide)
            refine lv_iload_n hx hb dX16_raw_36 rfl (lv_at hl 2 rfl) ?_
            refine lv_iconst (v := 4) hx hb dX16_raw_37 (by decide) ?_
            refine lv_irem hx hb dX16_raw_38 (by decide) ?_
            refine lv_topi (fun z38_1 ez38_1 => ?_)
            have r38_2 : rg z38_1 0 3 := rg_rem (k := 4) ez38_1 (by decide) r26_3 (by decide)
            have b54 : ∀ (j54_s0 : Int32) (H : Heap) (locs : List Loc) (ls : Array Slot), lv_has ls 3 [(0, .ref mm), (1, .int x_mm_1), (2, .int j24_l2)] → va_P D vwCl [(mm, .inr (16, m7_1)), (uob, .inl (ct 1, 60000, .inl j24_cuob)), (utape, .inl (ct 1, 2000, .inl g_utape))] H → va_D A [(mm, .inr (16, m7_1)), (uob, .inl (ct 1, 60000, .inl j24_cuob)), (utape, .inl (ct 1, 2000, .inl g_utape))] → va_S A s.heap H locs → W p l e ({ frames := 1, cells := 0, slots := 0, locals := 20 }) s m [.ref mm].toArray below meth c H locs 0 0 Q (F0 m 54 ls [.int j54_s0, .int z35_1, .ref uob]) := by
              intro j54_s0 H locs ls  hl hP hD hS
              refine lv_aload_n hx hb dX16_raw_54 rfl (lv_at hl 0 rfl) ?_
              refine va_get (D := D) (ci := 16) (v := .ref utape) (C := RX16) (T := TX16) (N := 78) hx hb (htX16 hn) (fun _ h => h) hown hK hP 0 rfl rfl 0 (by decide) (hn.get mw_1539 rfl) (fun _ h9 => h9) (SB.get hsm7_1 (by decide) hf_mm_0) dX16_raw_55 ?_
              refine lv_iload_n hx hb dX16_raw_58 rfl (lv_at hl 2 rfl) ?_
              have hi59_1 : vp_in j24_l2 2000 := (in_rg r26_3 (by decide))
              refine va_iald hx hb hK hP 2 1 rfl rfl hi59_1 dX16_raw_59 ?_
              refine lv_topi (fun z59_2 ez59_2 => ?_)
              have r59_3 : rg z59_2 0 255 := Rg_at h_g_utape hi59_1 ez59_2
              refine lv_bipush (v := 8) hx hb dX16_raw_60 (by decide) ?_
              refine lv_iload_n hx hb dX16_raw_62 rfl (lv_at hl 2 rfl) ?_
              refine lv_iconst (v := 4) hx hb dX16_raw_63 (by decide) ?_
              refine lv_irem hx hb dX16_raw_64 (by decide) ?_
              refine lv_topi (fun z64_1 ez64_1 => ?_)
              have r64_2 : rg z64_1 0 3 := rg_rem (k := 4) ez64_1 (by decide) r26_3 (by decide)
              refine lv_imul hx hb dX16_raw_65 ?_
              refine lv_topi (fun z65_1 ez65_1 => ?_)
              have r65_2 : rg z65_1 0 24 := rg_mul ez65_1 (show rg (8 : Int32) 8 8 from rg_l (by decide)) r64_2 (by decide)
              refine lv_ishl hx hb dX16_raw_66 ?_
              refine lv_topi (fun z66_1 ez66_1 => ?_)
              refine lv_ior hx hb dX16_raw_67 ?_
              refine lv_topi (fun z67_1 ez67_1 => ?_)
              have hi68_1 : vp_in z35_1 60000 := (in_rg r35_2 (by decide))
              refine va_iast hx hb hK hP hD hS 1 1 rfl rfl hi68_1 dX16_raw_68 (fun H locs hP hD hS => ?_)
              have hP : va_P D vwCl [(mm, .inr (16, m7_1)), (uob, .inl (ct 1, 60000, .inl (upd j24_cuob z35_1.toNatClampNeg z67_1))), (utape, .inl (ct 1, 2000, .inl g_utape))] _ := hP
              have hD : va_D A [(mm, .inr (16, m7_1)), (uob, .inl (ct 1, 60000, .inl (upd j24_cuob z35_1.toNatClampNeg z67_1))), (utape, .inl (ct 1, 2000, .inl g_utape))] := hD
              obtain ⟨f68_2, ef68_2⟩ : ∃ z, z = (upd j24_cuob z35_1.toNatClampNeg z67_1) := ⟨_, rfl⟩
              rw [← ef68_2] at hP hD
              obtain ⟨x69_1, ex69_1⟩ : ∃ z : Int32, z = j24_l2 + 1 := ⟨_, rfl⟩
              have r69_2 : rg x69_1 1 2000 := rg_add ex69_1 r26_3 (show rg (1 : Int32) 1 1 from rg_l (by decide)) (by decide)
              refine lv_iinc (v := x69_1) (lv' := [(2, .int x69_1), (0, .ref mm), (1, .int x_mm_1)]) hx hb dX16_raw_69 hl (k := 2) rfl (by rw [ex69_1]; rfl) (by decide) rfl (fun ls hl => ?_)
              refine lv_goto (tgt := 24) hx hb dX16_raw_72 (by decide) ?_
              exact ih24 x69_1 f68_2 H locs ls (rg_w r69_2 (by decide)) (show ((2147483647 : Int) - x69_1.toInt).toNat < n24 by have q0 := r26_3.2; have q1 := (eq_add ex69_1 r26_3 (show rg (1 : Int32) 1 1 from rg_l (by decide)) (by decide)); have q2 := (show (1 : Int32).toInt = 1 from by decide); have q3 := hms24; omega) (lv_sub hl [1, 2, 0] rfl) hP hD hS
            refine lv_if_ne (tgt := 46) hx hb dX16_raw_39 (by decide) (fun c39_1 => ?_) (fun c39_1 => ?_)
            · have t39_2 := FF.mk (i_ne c39_1)
              have r39_3 : rg z38_1 1 3 := rg_neAl t39_2 r38_2 (show rg (0 : Int32) 0 0 from rg_l (by decide)) (by decide)
              refine lv_aload_n hx hb dX16_raw_46 rfl (lv_at hl 0 rfl) ?_
              refine va_get (D := D) (ci := 16) (v := .ref uob) (C := RX16) (T := TX16) (N := 78) hx hb (htX16 hn) (fun _ h => h) hown hK hP 0 rfl rfl 69 (by decide) (hn.get mw_1608 rfl) (fun _ h9 => h9) (SB.get hsm7_1 (by decide) hf_mm_69) dX16_raw_47 ?_
              refine lv_iload_n hx hb dX16_raw_50 rfl (lv_at hl 2 rfl) ?_
              refine lv_iconst (v := 4) hx hb dX16_raw_51 (by decide) ?_
              refine lv_idiv hx hb dX16_raw_52 (by decide) ?_
              refine lv_topi (fun z52_1 ez52_1 => ?_)
              have r52_2 : rg z52_1 0 499 := rg_div (k := 4) ez52_1 (by decide) r26_3 (by decide)
              have hi53_1 : vp_in z52_1 60000 := (in_rg r52_2 (by decide))
              refine va_iald hx hb hK hP 1 1 rfl rfl hi53_1 dX16_raw_53 ?_
              refine lv_topi (fun z53_2 ez53_2 => ?_)
              exact b54 z53_2 H locs ls  (lv_sub hl [0, 1, 2] rfl) hP hD hS
            · have t39_2 := FF.mk (i_eq c39_1)
              have r39_3 : rg z38_1 0 0 := rg_eqA t39_2 r38_2 (show rg (0 : Int32) 0 0 from rg_l (by decide)) (by decide)
              refine lv_iconst (v := 0) hx hb dX16_raw_42 (by decide) ?_
              refine lv_goto (tgt := 54) hx hb dX16_raw_43 (by decide) ?_
              exact b54 (0 : Int32) H locs ls  (lv_sub hl [0, 1, 2] rfl) hP hD hS
      exact b24 _ (0 : Int32) g_uob H locs ls (rg_w (show rg (0 : Int32) 0 0 from rg_l (by decide)) (by decide)) (Nat.lt_succ_self _) (lv_sub hl [2, 1, 0] rfl) hP hD hS
    · have t17_2 := FF.mk (i_ne c17_1)
      have r17_3 : rg z16_1 1 3 := rg_neAl t17_2 r16_2 (show rg (0 : Int32) 0 0 from rg_l (by decide)) (by decide)
      refine lv_iconst (v := (-1)) hx hb dX16_raw_20 (by decide) ?_
      exact endq_i hQ hx hb hr hlocks dX16_raw_21 rfl (m7_1, x_mm_70, x_mm_71, g_uob) ⟨(rg_w (show rg ((-1) : Int32) (-1) (-1) from rg_l (by decide)) (by decide)), hsm7_1, hfm7_1_1, h_x_mm_70, hfm7_1_70, h_x_mm_71, hfm7_1_71, (show (x_mm_1.toInt = 0 ∨ x_mm_1.toInt % 4 ≠ 0) → (-1 : Int32).toInt = -1 by have q0 := (show (-1 : Int32).toInt = -1 from by decide); omega), (show ¬ (x_mm_1.toInt = 0 ∨ x_mm_1.toInt % 4 ≠ 0) → (-1 : Int32).toInt = x_mm_1.toInt / 4 by have q0 := r17_3.1; have q1 := (eq_rem (c := 4) (k := 4) ez16_1 (by decide) r11_3 (by decide)); have q2 := (show (-1 : Int32).toInt = -1 from by decide); omega)⟩ hP hD hS [0, 1, 2] rfl (by decide) rfl (Nat.le_of_ble_eq_true rfl) (Nat.le_of_ble_eq_true rfl)
