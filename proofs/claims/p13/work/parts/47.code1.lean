set_option maxHeartbeats 2000000 in
theorem c_X16_emit_k (l : Launch) (hst : l.stackTraces = false) (D : va_G) (ct : Nat → ClassId) (MC : Nat) (MS : Nat) (mm : Nat) (v0 : Int32) (v1 : Int32) (v2 : Int32) (v3 : Int32) (v4 : Int64) (fs_mm : List Value) (uco : Nat) (x_mm_29 : Int32) (g_uco : Nat → Int64) (CL : Nat) (hlen_mm : fs_mm.length = 78) (hf_mm_28 : fs_mm[28]? = some (.ref uco)) (h_x_mm_29 : rg x_mm_29 0 279999) (hf_mm_29 : fs_mm[29]? = some (.int x_mm_29)) (hq0 : ((CL : Nat) : Int) ≤ 560000) (hq1 : 64 ≤ ((CL : Nat) : Int)) (hq2 : x_mm_29.toInt ≤ ((CL : Nat) : Int)) (hq3 : 1120000 ≤ ((MS : Nat) : Int) + 2 * ((CL : Nat) : Int)) (hq4 : 560064 ≤ 64 * ((MC : Nat) : Int) + ((CL : Nat) : Int)) : KT (V := Unit) (S := List Value × Nat × Int32 × (Nat → Int64) × Nat × Nat × Nat) (SX := Unit) l yX16_emit cX16_emit 9 none 1 20 D ct [.ref mm, .int v0, .int v1, .int v2, .int v3, .long v4] [(mm, .inr (16, fs_mm)), (uco, .inl (ct 2, CL, .inr (.inl g_uco)))] MC MS (fun _ : Unit => none) (fun (_ : Unit) (u : List Value × Nat × Int32 × (Nat → Int64) × Nat × Nat × Nat) => match u with | (fs2_mm, a_mm_28, y_mm_29, k_uco, CL2, kc, kn) => SB fs_mm fs2_mm [28, 29] ∧ fs2_mm[28]? = some (.ref a_mm_28) ∧ rg y_mm_29 1 280000 ∧ fs2_mm[29]? = some (.int y_mm_29) ∧ (y_mm_29.toInt = x_mm_29.toInt + 1) ∧ (y_mm_29.toInt ≤ ((CL2 : Nat) : Int)) ∧ (((CL : Nat) : Int) ≤ ((CL2 : Nat) : Int)) ∧ (((CL2 : Nat) : Int) ≤ 560000) ∧ (64 * ((kc : Nat) : Int) + ((CL : Nat) : Int) ≤ ((CL2 : Nat) : Int)) ∧ (((kn : Nat) : Int) = 2 * (((CL2 : Nat) : Int) - ((CL : Nat) : Int))) ∧ (v0.toInt % 256 ≠ 32 ∧ v0.toInt % 256 ≠ 64 → ER g_uco k_uco x_mm_29.toInt y_mm_29.toInt 0) ∧ (ER g_uco k_uco x_mm_29.toInt y_mm_29.toInt 1)) (fun (u : List Value × Nat × Int32 × (Nat → Int64) × Nat × Nat × Nat) => match u with | (fs2_mm, a_mm_28, y_mm_29, k_uco, CL2, kc, kn) => [(mm, .inr (16, fs2_mm)), (a_mm_28, .inl (ct 2, CL2, .inr (.inl k_uco)))] ++ []) (fun (u : List Value × Nat × Int32 × (Nat → Int64) × Nat × Nat × Nat) => match u with | (fs2_mm, a_mm_28, y_mm_29, k_uco, CL2, kc, kn) => kc) (fun (u : List Value × Nat × Int32 × (Nat → Int64) × Nat × Nat × Nat) => match u with | (fs2_mm, a_mm_28, y_mm_29, k_uco, CL2, kc, kn) => kn) 15 RX15 peW (fun _ => False) (fun _ => []) := by
  refine KT_of (by decide) (Nat.le_of_ble_eq_true rfl) (fun p e s m below meth c A Q C0 htab hA H locs hS hP hD hQ ls hl => ?_)
  obtain ⟨hx, hb, hr, hown, hin, hml, hlocks, hn, hK, hZ, hSK⟩ := C0
  have hl : lv_has ls 9 [(0, .ref mm), (1, .int v0), (2, .int v1), (3, .int v2), (4, .int v3), (5, .long v4)] := hl
  replace hq0 := FF.mk hq0
  replace hq1 := FF.mk hq1
  replace hq2 := FF.mk hq2
  replace hq3 := FF.mk hq3
  replace hq4 := FF.mk hq4
  refine lv_aload_n hx hb dX16_emit_0 rfl (lv_at hl 0 rfl) ?_
  refine va_get (D := D) (ci := 16) (v := .int x_mm_29) (C := RX16) (T := TX16) (N := 78) hx hb (htX16 hn) (fun _ h => h) hown hK hP 0 rfl rfl 29 (by decide) (hn.get mw_1568 rfl) (fun _ h9 => h9) hf_mm_29 dX16_emit_1 ?_
  refine lv_aload_n hx hb dX16_emit_4 rfl (lv_at hl 0 rfl) ?_
  refine va_get (D := D) (ci := 16) (v := .ref uco) (C := RX16) (T := TX16) (N := 78) hx hb (htX16 hn) (fun _ h => h) hown hK hP 0 rfl rfl 28 (by decide) (hn.get mw_1567 rfl) (fun _ h9 => h9) hf_mm_28 dX16_emit_5 ?_
  refine va_alen hx hb hK hP 1 2 rfl rfl rfl dX16_emit_8 ?_
  refine lv_topi (fun z8_1 ez8_1 => ?_)
  have r8_2 : rg z8_1 0 560000 := rg_len ez8_1 (show (0 : Int) ≤ ((CL : Nat) : Int) ∧ ((CL : Nat) : Int) ≤ 560000 from ⟨Int.natCast_nonneg _, FF.out hq0⟩) (by decide)
  refine lv_icmp_ne (tgt := 58) hx hb dX16_emit_9 (by decide) (fun c9_1 => ?_) (fun c9_1 => ?_)
  · have t9_2 := FF.mk (i_ne c9_1)
    refine lv_aload_n hx hb dX16_emit_58 rfl (lv_at hl 0 rfl) ?_
    refine va_get (D := D) (ci := 16) (v := .ref uco) (C := RX16) (T := TX16) (N := 78) hx hb (htX16 hn) (fun _ h => h) hown hK hP 0 rfl rfl 28 (by decide) (hn.get mw_1567 rfl) (fun _ h9 => h9) hf_mm_28 dX16_emit_59 ?_
    refine lv_aload_n hx hb dX16_emit_62 rfl (lv_at hl 0 rfl) ?_
    refine va_get (D := D) (ci := 16) (v := .int x_mm_29) (C := RX16) (T := TX16) (N := 78) hx hb (htX16 hn) (fun _ h => h) hown hK hP 0 rfl rfl 29 (by decide) (hn.get mw_1568 rfl) (fun _ h9 => h9) hf_mm_29 dX16_emit_63 ?_
    refine lv_iload_n hx hb dX16_emit_66 rfl (lv_at hl 1 rfl) ?_
    refine lv_i2l hx hb dX16_emit_67 rfl ?_
    refine lv_topl (fun z67_1 ez67_1 => ?_)
    have r67_2 : rl z67_1 (-2147483648) 2147483647 := rl_i2l ez67_1 (rg_any v0)
    refine lv_iload_n hx hb dX16_emit_68 rfl (lv_at hl 2 rfl) ?_
    refine lv_iload_n hx hb dX16_emit_69 rfl (lv_at hl 3 rfl) ?_
    refine lv_iconst (v := 4) hx hb dX16_emit_70 (by decide) ?_
    refine lv_ishl hx hb dX16_emit_71 ?_
    refine lv_topi (fun z71_1 ez71_1 => ?_)
    refine lv_ior hx hb dX16_emit_72 ?_
    refine lv_topi (fun z72_1 ez72_1 => ?_)
    refine lv_i2l hx hb dX16_emit_73 rfl ?_
    refine lv_topl (fun z73_1 ez73_1 => ?_)
    have r73_2 : rl z73_1 (-2147483648) 2147483647 := rl_i2l ez73_1 (rg_any z72_1)
    refine lv_bipush (v := 8) hx hb dX16_emit_74 (by decide) ?_
    refine lv_lshl hx hb dX16_emit_76 rfl ?_
    refine lv_topl (fun z76_1 ez76_1 => ?_)
    refine lv_lor hx hb dX16_emit_77 ?_
    refine lv_topl (fun z77_1 ez77_1 => ?_)
    refine lv_iload hx hb dX16_emit_78 (lv_at hl 4 rfl) ?_
    refine lv_i2l hx hb dX16_emit_80 rfl ?_
    refine lv_topl (fun z80_1 ez80_1 => ?_)
    have r80_2 : rl z80_1 (-2147483648) 2147483647 := rl_i2l ez80_1 (rg_any v3)
    refine lv_ldc2 (v := 65535) hx hb hown (hn.get mw_2156 rfl) dX16_emit_81 ?_
    refine lv_land hx hb dX16_emit_84 ?_
    refine lv_topl (fun z84_1 ez84_1 => ?_)
    have r84_2 : rl z84_1 0 65535 := rgL_andr ez84_1 (show rl (65535 : Int64) 65535 65535 from rl_l (by decide)) (by decide)
    refine lv_bipush (v := 16) hx hb dX16_emit_85 (by decide) ?_
    refine lv_lshl hx hb dX16_emit_87 rfl ?_
    refine lv_topl (fun z87_1 ez87_1 => ?_)
    refine lv_lor hx hb dX16_emit_88 ?_
    refine lv_topl (fun z88_1 ez88_1 => ?_)
    refine lv_lload hx hb dX16_emit_89 (lv_at hl 5 rfl) ?_
    refine lv_bipush (v := 32) hx hb dX16_emit_91 (by decide) ?_
    refine lv_lshl hx hb dX16_emit_93 rfl ?_
    refine lv_topl (fun z93_1 ez93_1 => ?_)
    refine lv_lor hx hb dX16_emit_94 ?_
    refine lv_topl (fun z94_1 ez94_1 => ?_)
    have hi95_1 : vp_in x_mm_29 CL := (in_of (show 0 ≤ x_mm_29.toInt ∧ x_mm_29.toInt < ((CL : Nat) : Int) by have q0 := h_x_mm_29.1; have q1 := (eq_len ez8_1 (show (0 : Int) ≤ ((CL : Nat) : Int) ∧ ((CL : Nat) : Int) ≤ 560000 from ⟨Int.natCast_nonneg _, FF.out hq0⟩) (by decide)); have q2 := FF.out hq2; have q3 := FF.out t9_2; omega))
    refine va_last hx hb hK hP hD hS 1 2 rfl rfl hi95_1 dX16_emit_95 (fun H locs hP hD hS => ?_)
    have hP : va_P D vwCl [(mm, .inr (16, fs_mm)), (uco, .inl (ct 2, CL, .inr (.inl (vp_updL g_uco x_mm_29.toNatClampNeg z94_1))))] _ := hP
    have hD : va_D A [(mm, .inr (16, fs_mm)), (uco, .inl (ct 2, CL, .inr (.inl (vp_updL g_uco x_mm_29.toNatClampNeg z94_1))))] := hD
    obtain ⟨f95_2, ef95_2⟩ : ∃ z, z = (vp_updL g_uco x_mm_29.toNatClampNeg z94_1) := ⟨_, rfl⟩
    rw [← ef95_2] at hP hD
    have hl96_1 : z94_1.toInt % 256 = v0.toInt % 256 := emit_low ez67_1 ez76_1 ez77_1 ez87_1 ez88_1 ez93_1 ez94_1
    have hE96_2 : v0.toInt % 256 ≠ 32 ∧ v0.toInt % 256 ≠ 64 → ER g_uco f95_2 x_mm_29.toInt (x_mm_29.toInt + 1) 0 := fun hc9 => ER.put (w := v0.toInt % 256) CW.rf ef95_2 (show x_mm_29.toInt = x_mm_29.toInt by omega) (show 0 ≤ x_mm_29.toInt by have q0 := h_x_mm_29.1; omega) rfl hl96_1 (fun h9 => absurd h9 (by omega)) (by decide)
    have hE96_3 : ER g_uco f95_2 x_mm_29.toInt (x_mm_29.toInt + 1) 1 := ER.put (w := v0.toInt % 256) CW.rf ef95_2 (show x_mm_29.toInt = x_mm_29.toInt by omega) (show 0 ≤ x_mm_29.toInt by have q0 := h_x_mm_29.1; omega) rfl hl96_1 (fun h9 => by omega) (by decide)
    refine lv_aload_n hx hb dX16_emit_96 rfl (lv_at hl 0 rfl) ?_
    refine lv_dup hx hb dX16_emit_97 rfl ?_
    refine va_get (D := D) (ci := 16) (v := .int x_mm_29) (C := RX16) (T := TX16) (N := 78) hx hb (htX16 hn) (fun _ h => h) hown hK hP 0 rfl rfl 29 (by decide) (hn.get mw_1568 rfl) (fun _ h9 => h9) hf_mm_29 dX16_emit_98 ?_
    refine lv_iconst (v := 1) hx hb dX16_emit_101 (by decide) ?_
    refine lv_iadd hx hb dX16_emit_102 ?_
    refine lv_topi (fun z102_1 ez102_1 => ?_)
    have r102_2 : rg z102_1 1 280000 := rg_add ez102_1 h_x_mm_29 (show rg (1 : Int32) 1 1 from rg_l (by decide)) (by decide)
    refine va_put (D := D) (ci := 16) (v := .int z102_1) (ty := .int) (C := RX16) (T := TX16) (N := 78) hx hb (htX16 hn) (fun _ h => h) tyX16 tyX16_ok nmX16 hown hK hP hD hS 0 rfl rfl 29 (by decide) (hn.get mw_1568 rfl) (fun _ h9 => h9) rfl (by decide +kernel) rfl rfl (by rw [hlen_mm]; decide) dX16_emit_103 (fun H locs hP hD hS => ?_)
    have hP : va_P D vwCl [(mm, .inr (16, (fs_mm.set 29 (.int z102_1)))), (uco, .inl (ct 2, CL, .inr (.inl f95_2)))] _ := hP
    have hD : va_D A [(mm, .inr (16, (fs_mm.set 29 (.int z102_1)))), (uco, .inl (ct 2, CL, .inr (.inl f95_2)))] := hD
    obtain ⟨m103_1, em103_1⟩ : ∃ z, z = (fs_mm.set 29 (.int z102_1)) := ⟨_, rfl⟩
    rw [← em103_1] at hP hD
    have hsm103_1 : SB fs_mm m103_1 [28, 29] := by rw [em103_1]; exact SB.set (SB.rf _ _) (by decide)
    have hfm103_1_28 : m103_1[28]? = some (.ref uco) := by rw [em103_1]; exact fs_ne (by decide) hf_mm_28
    have hfm103_1_29 : m103_1[29]? = some (.int z102_1) := by rw [em103_1]; exact fs_eq (by rw [hlen_mm]; decide)
    have hP : va_P D vwCl [(mm, .inr (16, m103_1)), (uco, .inl (ct 2, CL, .inr (.inl f95_2)))] _ := hP
    have hD : va_D A [(mm, .inr (16, m103_1)), (uco, .inl (ct 2, CL, .inr (.inl f95_2)))] := hD
    exact et_v (SX := Unit) (pl1 := fun _ => []) hQ hx hb hr hlocks dX16_emit_106 (m103_1, uco, z102_1, f95_2, CL, 0, 0) ⟨hsm103_1, hfm103_1_28, r102_2, hfm103_1_29, (show z102_1.toInt = x_mm_29.toInt + 1 by have q0 := (eq_add ez102_1 h_x_mm_29 (show rg (1 : Int32) 1 1 from rg_l (by decide)) (by decide)); have q1 := (show (1 : Int32).toInt = 1 from by decide); omega), (show z102_1.toInt ≤ ((CL : Nat) : Int) by have q0 := (eq_add ez102_1 h_x_mm_29 (show rg (1 : Int32) 1 1 from rg_l (by decide)) (by decide)); have q1 := (eq_len ez8_1 (show (0 : Int) ≤ ((CL : Nat) : Int) ∧ ((CL : Nat) : Int) ≤ 560000 from ⟨Int.natCast_nonneg _, FF.out hq0⟩) (by decide)); have q2 := FF.out hq2; have q3 := FF.out t9_2; have q4 := (show (1 : Int32).toInt = 1 from by decide); omega), (show ((CL : Nat) : Int) ≤ ((CL : Nat) : Int) by omega), (show ((CL : Nat) : Int) ≤ 560000 by have q0 := FF.out hq0; omega), (show 64 * ((0 : Nat) : Int) + ((CL : Nat) : Int) ≤ ((CL : Nat) : Int) by omega), (show ((0 : Nat) : Int) = 2 * (((CL : Nat) : Int) - ((CL : Nat) : Int)) by omega), (fun hc9 => (((show (x_mm_29.toInt + 1) = z102_1.toInt by have q0 := (eq_add ez102_1 h_x_mm_29 (show rg (1 : Int32) 1 1 from rg_l (by decide)) (by decide)); have q1 := (show (1 : Int32).toInt = 1 from by decide); omega) : (x_mm_29.toInt + 1) = z102_1.toInt) ▸ hE96_2 hc9)), (((show (x_mm_29.toInt + 1) = z102_1.toInt by have q0 := (eq_add ez102_1 h_x_mm_29 (show rg (1 : Int32) 1 1 from rg_l (by decide)) (by decide)); have q1 := (show (1 : Int32).toInt = 1 from by decide); omega) : (x_mm_29.toInt + 1) = z102_1.toInt) ▸ hE96_3)⟩ (by rw [List.append_nil]; exact hP) (by rw [List.append_nil]; exact hD) hS [0, 1] (by decide) rfl (Nat.le_refl _) (Nat.le_refl _) (Nat.zero_le MC) (Nat.zero_le MS)
  · have t9_2 := FF.mk (i_eq c9_1)
    have r9_3 : rg z8_1 0 279999 := rg_eqB t9_2 h_x_mm_29 r8_2 (by decide)
    refine lv_iconst (v := 2) hx hb dX16_emit_12 (by decide) ?_
    refine lv_aload_n hx hb dX16_emit_13 rfl (lv_at hl 0 rfl) ?_
    refine va_get (D := D) (ci := 16) (v := .int x_mm_29) (C := RX16) (T := TX16) (N := 78) hx hb (htX16 hn) (fun _ h => h) hown hK hP 0 rfl rfl 29 (by decide) (hn.get mw_1568 rfl) (fun _ h9 => h9) hf_mm_29 dX16_emit_14 ?_
    refine lv_imul hx hb dX16_emit_17 ?_
    refine lv_topi (fun z17_1 ez17_1 => ?_)
    have r17_2 : rg z17_1 0 559998 := rg_mul ez17_1 (show rg (2 : Int32) 2 2 from rg_l (by decide)) h_x_mm_29 (by decide)
    obtain ⟨n18_2, gn18_2⟩ : ∃ k : Nat, z17_1.toNatClampNeg = k := ⟨_, rfl⟩
    have en18_2 := FF.mk (ncn_up gn18_2 (show 0 ≤ z17_1.toInt by have q0 := (eq_mull ez17_1 (show rg (2 : Int32) 2 2 from rg_l (by decide)) h_x_mm_29 (by decide)); have q1 := (eq_len ez8_1 (show (0 : Int) ≤ ((CL : Nat) : Int) ∧ ((CL : Nat) : Int) ≤ 560000 from ⟨Int.natCast_nonneg _, FF.out hq0⟩) (by decide)); have q2 := FF.out hq1; have q3 := FF.out t9_2; omega))
    obtain ⟨c18_3, ec18_3⟩ : ∃ x9 : Nat, x9 = 0 + 1 := ⟨_, rfl⟩
    have ec18_3 := FF.mk ec18_3
    have mc18_3 : FF (c18_3 ≤ MC) := FF.mk (Int.ofNat_le.mp (show ((c18_3 : Nat) : Int) ≤ ((MC : Nat) : Int) by have q0 := r9_3.2; have q1 := (eq_len ez8_1 (show (0 : Int) ≤ ((CL : Nat) : Int) ∧ ((CL : Nat) : Int) ≤ 560000 from ⟨Int.natCast_nonneg _, FF.out hq0⟩) (by decide)); have q2 := FF.out hq4; have q3 := FF.out ec18_3; omega))
    obtain ⟨k18_4, ek18_4⟩ : ∃ x9 : Nat, x9 = 0 + n18_2 := ⟨_, rfl⟩
    have ek18_4 := FF.mk ek18_4
    have mk18_4 : FF (k18_4 ≤ MS) := FF.mk (Int.ofNat_le.mp (show ((k18_4 : Nat) : Int) ≤ ((MS : Nat) : Int) by have q0 := r17_2.2; have q1 := r9_3.2; have q2 := (eq_len ez8_1 (show (0 : Int) ≤ ((CL : Nat) : Int) ∧ ((CL : Nat) : Int) ≤ 560000 from ⟨Int.natCast_nonneg _, FF.out hq0⟩) (by decide)); have q3 := FF.out hq3; have q4 := FF.out en18_2; have q5 := FF.out ek18_4; omega))
    have nbn18_2 : (0 : Int) ≤ ((n18_2 : Nat) : Int) ∧ ((n18_2 : Nat) : Int) ≤ 560000 := ⟨Int.natCast_nonneg _, (show ((n18_2 : Nat) : Int) ≤ 560000 by have q0 := r17_2.2; have q1 := FF.out en18_2; omega)⟩
    refine na_new (atype := .long) (k1 := c18_3) (n1 := k18_4) hx hb hn mw_123 rfl hK hP hD hS hA 2 rfl n18_2 (n18_2, .inr (.inl (fun _ => 0))) (fun _ => rfl) (nneg_of (show 0 ≤ z17_1.toInt by have q0 := (eq_mull ez17_1 (show rg (2 : Int32) 2 2 from rg_l (by decide)) h_x_mm_29 (by decide)); have q1 := (eq_len ez8_1 (show (0 : Int) ≤ ((CL : Nat) : Int) ∧ ((CL : Nat) : Int) ≤ 560000 from ⟨Int.natCast_nonneg _, FF.out hq0⟩) (by decide)); have q2 := FF.out hq1; have q3 := FF.out t9_2; omega)) gn18_2 (show n18_2 * 8 ≤ 536870912 by have h9 := (show ((n18_2 : Nat) : Int) ≤ 67108864 by have q0 := r17_2.2; have q1 := FF.out en18_2; omega); omega) (Nat.le_of_eq (FF.out ec18_3).symm) (Nat.le_of_eq (FF.out ek18_4).symm) (FF.out mc18_3) (FF.out mk18_4) dX16_emit_18 (fun q18_1 H hP hD hS => ?_)
    have hP : va_P D vwCl [(mm, .inr (16, fs_mm)), (uco, .inl (ct 2, CL, .inr (.inl g_uco))), (q18_1, .inl (ct 2, n18_2, .inr (.inl (fun _ => 0))))] _ := hP
    have hD : va_D A [(mm, .inr (16, fs_mm)), (uco, .inl (ct 2, CL, .inr (.inl g_uco))), (q18_1, .inl (ct 2, n18_2, .inr (.inl (fun _ => 0))))] := hD
    refine lv_astore (lv' := [(7, .ref q18_1), (0, .ref mm), (1, .int v0), (2, .int v1), (3, .int v2), (4, .int v3), (5, .long v4)]) hx hb dX16_emit_20 hl (by decide) rfl (fun ls hl => ?_)
    refine lv_iconst (v := 0) hx hb dX16_emit_22 (by decide) ?_
    refine lv_istore (lv' := [(8, .int 0), (7, .ref q18_1), (0, .ref mm), (1, .int v0), (2, .int v1), (3, .int v2), (4, .int v3), (5, .long v4)]) hx hb dX16_emit_23 hl (by decide) rfl (fun ls hl => ?_)
    have b25 : ∀ (n25 : Nat) (j25_l8 : Int32) (j25_cq18_1 : Nat → Int64) (H : Heap) (locs : List Loc) (ls : Array Slot), (rg j25_l8 0 2147483647) → (CW g_uco j25_cq18_1 j25_l8.toInt) → ((2147483647 : Int) - j25_l8.toInt).toNat < n25 → lv_has ls 9 [(0, .ref mm), (1, .int v0), (2, .int v1), (3, .int v2), (4, .int v3), (5, .long v4), (7, .ref q18_1), (8, .int j25_l8)] → va_P D vwCl [(mm, .inr (16, fs_mm)), (uco, .inl (ct 2, CL, .inr (.inl g_uco))), (q18_1, .inl (ct 2, n18_2, .inr (.inl j25_cq18_1)))] H → va_D A [(mm, .inr (16, fs_mm)), (uco, .inl (ct 2, CL, .inr (.inl g_uco))), (q18_1, .inl (ct 2, n18_2, .inr (.inl j25_cq18_1)))] → va_S A s.heap H locs → W p l e ({ frames := 1, cells := MC, slots := MS, locals := 20 }) s m [.ref mm, .int v0, .int v1, .int v2, .int v3, .long v4].toArray below meth c H locs c18_3 k18_4 Q (F0 m 25 ls []) := by
      intro n25
      induction n25 with
      | zero => intros; rename_i hms _ _ _ _; exact absurd hms (Nat.not_lt_zero _)
      | succ n25 ih25 =>
        intro j25_l8 j25_cq18_1 H locs ls r25_1001 hg25_1002 hms25 hl hP hD hS
        refine lv_iload hx hb dX16_emit_25 (lv_at hl 7 rfl) ?_
        refine lv_aload_n hx hb dX16_emit_27 rfl (lv_at hl 0 rfl) ?_
        refine va_get (D := D) (ci := 16) (v := .int x_mm_29) (C := RX16) (T := TX16) (N := 78) hx hb (htX16 hn) (fun _ h => h) hown hK hP 0 rfl rfl 29 (by decide) (hn.get mw_1568 rfl) (fun _ h9 => h9) hf_mm_29 dX16_emit_28 ?_
        refine lv_icmp_ge (tgt := 52) hx hb dX16_emit_31 (by decide) (fun c31_1 => ?_) (fun c31_1 => ?_)
        · have t31_2 := FF.mk (i_le c31_1)
          refine lv_aload_n hx hb dX16_emit_52 rfl (lv_at hl 0 rfl) ?_
          refine lv_aload hx hb dX16_emit_53 (lv_at hl 6 rfl) ?_
          refine va_put (D := D) (ci := 16) (v := .ref q18_1) (ty := .array .long) (C := RX16) (T := TX16) (N := 78) hx hb (htX16 hn) (fun _ h => h) tyX16 tyX16_ok nmX16 hown hK hP hD hS 0 rfl rfl 28 (by decide) (hn.get mw_1567 rfl) (fun _ h9 => h9) rfl (by decide +kernel) rfl rfl (by rw [hlen_mm]; decide) dX16_emit_55 (fun H locs hP hD hS => ?_)
          have hP : va_P D vwCl [(mm, .inr (16, (fs_mm.set 28 (.ref q18_1)))), (uco, .inl (ct 2, CL, .inr (.inl g_uco))), (q18_1, .inl (ct 2, n18_2, .inr (.inl j25_cq18_1)))] _ := hP
          have hD : va_D A [(mm, .inr (16, (fs_mm.set 28 (.ref q18_1)))), (uco, .inl (ct 2, CL, .inr (.inl g_uco))), (q18_1, .inl (ct 2, n18_2, .inr (.inl j25_cq18_1)))] := hD
          obtain ⟨m55_1, em55_1⟩ : ∃ z, z = (fs_mm.set 28 (.ref q18_1)) := ⟨_, rfl⟩
          rw [← em55_1] at hP hD
          have hsm55_1 : SB fs_mm m55_1 [28, 29] := by rw [em55_1]; exact SB.set (SB.rf _ _) (by decide)
          have hfm55_1_29 : m55_1[29]? = some (.int x_mm_29) := by rw [em55_1]; exact fs_ne (by decide) hf_mm_29
          have hfm55_1_28 : m55_1[28]? = some (.ref q18_1) := by rw [em55_1]; exact fs_eq (by rw [hlen_mm]; decide)
          have hP : va_P D vwCl [(mm, .inr (16, m55_1)), (uco, .inl (ct 2, CL, .inr (.inl g_uco))), (q18_1, .inl (ct 2, n18_2, .inr (.inl j25_cq18_1)))] _ := hP
          have hD : va_D A [(mm, .inr (16, m55_1)), (uco, .inl (ct 2, CL, .inr (.inl g_uco))), (q18_1, .inl (ct 2, n18_2, .inr (.inl j25_cq18_1)))] := hD
          refine lv_aload_n hx hb dX16_emit_58 rfl (lv_at hl 0 rfl) ?_
          refine va_get (D := D) (ci := 16) (v := .ref q18_1) (C := RX16) (T := TX16) (N := 78) hx hb (htX16 hn) (fun _ h => h) hown hK hP 0 rfl rfl 28 (by decide) (hn.get mw_1567 rfl) (fun _ h9 => h9) hfm55_1_28 dX16_emit_59 ?_
          refine lv_aload_n hx hb dX16_emit_62 rfl (lv_at hl 0 rfl) ?_
          refine va_get (D := D) (ci := 16) (v := .int x_mm_29) (C := RX16) (T := TX16) (N := 78) hx hb (htX16 hn) (fun _ h => h) hown hK hP 0 rfl rfl 29 (by decide) (hn.get mw_1568 rfl) (fun _ h9 => h9) hfm55_1_29 dX16_emit_63 ?_
          refine lv_iload_n hx hb dX16_emit_66 rfl (lv_at hl 1 rfl) ?_
          refine lv_i2l hx hb dX16_emit_67 rfl ?_
          refine lv_topl (fun z67_1 ez67_1 => ?_)
          have r67_2 : rl z67_1 (-2147483648) 2147483647 := rl_i2l ez67_1 (rg_any v0)
          refine lv_iload_n hx hb dX16_emit_68 rfl (lv_at hl 2 rfl) ?_
          refine lv_iload_n hx hb dX16_emit_69 rfl (lv_at hl 3 rfl) ?_
          refine lv_iconst (v := 4) hx hb dX16_emit_70 (by decide) ?_
          refine lv_ishl hx hb dX16_emit_71 ?_
          refine lv_topi (fun z71_1 ez71_1 => ?_)
          refine lv_ior hx hb dX16_emit_72 ?_
          refine lv_topi (fun z72_1 ez72_1 => ?_)
          refine lv_i2l hx hb dX16_emit_73 rfl ?_
          refine lv_topl (fun z73_1 ez73_1 => ?_)
          have r73_2 : rl z73_1 (-2147483648) 2147483647 := rl_i2l ez73_1 (rg_any z72_1)
          refine lv_bipush (v := 8) hx hb dX16_emit_74 (by decide) ?_
          refine lv_lshl hx hb dX16_emit_76 rfl ?_
          refine lv_topl (fun z76_1 ez76_1 => ?_)
          refine lv_lor hx hb dX16_emit_77 ?_
          refine lv_topl (fun z77_1 ez77_1 => ?_)
          refine lv_iload hx hb dX16_emit_78 (lv_at hl 4 rfl) ?_
          refine lv_i2l hx hb dX16_emit_80 rfl ?_
          refine lv_topl (fun z80_1 ez80_1 => ?_)
          have r80_2 : rl z80_1 (-2147483648) 2147483647 := rl_i2l ez80_1 (rg_any v3)
          refine lv_ldc2 (v := 65535) hx hb hown (hn.get mw_2156 rfl) dX16_emit_81 ?_
          refine lv_land hx hb dX16_emit_84 ?_
          refine lv_topl (fun z84_1 ez84_1 => ?_)
          have r84_2 : rl z84_1 0 65535 := rgL_andr ez84_1 (show rl (65535 : Int64) 65535 65535 from rl_l (by decide)) (by decide)
          refine lv_bipush (v := 16) hx hb dX16_emit_85 (by decide) ?_
          refine lv_lshl hx hb dX16_emit_87 rfl ?_
          refine lv_topl (fun z87_1 ez87_1 => ?_)
          refine lv_lor hx hb dX16_emit_88 ?_
          refine lv_topl (fun z88_1 ez88_1 => ?_)
          refine lv_lload hx hb dX16_emit_89 (lv_at hl 5 rfl) ?_
          refine lv_bipush (v := 32) hx hb dX16_emit_91 (by decide) ?_
          refine lv_lshl hx hb dX16_emit_93 rfl ?_
          refine lv_topl (fun z93_1 ez93_1 => ?_)
          refine lv_lor hx hb dX16_emit_94 ?_
          refine lv_topl (fun z94_1 ez94_1 => ?_)
          have hi95_1 : vp_in x_mm_29 n18_2 := (in_of (show 0 ≤ x_mm_29.toInt ∧ x_mm_29.toInt < ((n18_2 : Nat) : Int) by have q0 := (eq_len ez8_1 (show (0 : Int) ≤ ((CL : Nat) : Int) ∧ ((CL : Nat) : Int) ≤ 560000 from ⟨Int.natCast_nonneg _, FF.out hq0⟩) (by decide)); have q1 := (eq_mull ez17_1 (show rg (2 : Int32) 2 2 from rg_l (by decide)) h_x_mm_29 (by decide)); have q2 := FF.out hq1; have q3 := FF.out t9_2; have q4 := FF.out en18_2; omega))
          refine va_last hx hb hK hP hD hS 2 2 rfl rfl hi95_1 dX16_emit_95 (fun H locs hP hD hS => ?_)
          have hP : va_P D vwCl [(mm, .inr (16, m55_1)), (uco, .inl (ct 2, CL, .inr (.inl g_uco))), (q18_1, .inl (ct 2, n18_2, .inr (.inl (vp_updL j25_cq18_1 x_mm_29.toNatClampNeg z94_1))))] _ := hP
          have hD : va_D A [(mm, .inr (16, m55_1)), (uco, .inl (ct 2, CL, .inr (.inl g_uco))), (q18_1, .inl (ct 2, n18_2, .inr (.inl (vp_updL j25_cq18_1 x_mm_29.toNatClampNeg z94_1))))] := hD
          obtain ⟨f95_2, ef95_2⟩ : ∃ z, z = (vp_updL j25_cq18_1 x_mm_29.toNatClampNeg z94_1) := ⟨_, rfl⟩
          rw [← ef95_2] at hP hD
          have hl96_1 : z94_1.toInt % 256 = v0.toInt % 256 := emit_low ez67_1 ez76_1 ez77_1 ez87_1 ez88_1 ez93_1 ez94_1
          have hE96_2 : v0.toInt % 256 ≠ 32 ∧ v0.toInt % 256 ≠ 64 → ER g_uco f95_2 x_mm_29.toInt (x_mm_29.toInt + 1) 0 := fun hc9 => ER.put (w := v0.toInt % 256) (CW.mono hg25_1002 (show x_mm_29.toInt ≤ j25_l8.toInt by have q0 := FF.out t31_2; omega)) ef95_2 (show x_mm_29.toInt = x_mm_29.toInt by omega) (show 0 ≤ x_mm_29.toInt by have q0 := (eq_len ez8_1 (show (0 : Int) ≤ ((CL : Nat) : Int) ∧ ((CL : Nat) : Int) ≤ 560000 from ⟨Int.natCast_nonneg _, FF.out hq0⟩) (by decide)); have q1 := FF.out hq1; have q2 := FF.out t9_2; omega) rfl hl96_1 (fun h9 => absurd h9 (by omega)) (by decide)
          have hE96_3 : ER g_uco f95_2 x_mm_29.toInt (x_mm_29.toInt + 1) 1 := ER.put (w := v0.toInt % 256) (CW.mono hg25_1002 (show x_mm_29.toInt ≤ j25_l8.toInt by have q0 := FF.out t31_2; omega)) ef95_2 (show x_mm_29.toInt = x_mm_29.toInt by omega) (show 0 ≤ x_mm_29.toInt by have q0 := (eq_len ez8_1 (show (0 : Int) ≤ ((CL : Nat) : Int) ∧ ((CL : Nat) : Int) ≤ 560000 from ⟨Int.natCast_nonneg _, FF.out hq0⟩) (by decide)); have q1 := FF.out hq1; have q2 := FF.out t9_2; omega) rfl hl96_1 (fun h9 => by omega) (by decide)
          refine lv_aload_n hx hb dX16_emit_96 rfl (lv_at hl 0 rfl) ?_
          refine lv_dup hx hb dX16_emit_97 rfl ?_
          refine va_get (D := D) (ci := 16) (v := .int x_mm_29) (C := RX16) (T := TX16) (N := 78) hx hb (htX16 hn) (fun _ h => h) hown hK hP 0 rfl rfl 29 (by decide) (hn.get mw_1568 rfl) (fun _ h9 => h9) hfm55_1_29 dX16_emit_98 ?_
          refine lv_iconst (v := 1) hx hb dX16_emit_101 (by decide) ?_
          refine lv_iadd hx hb dX16_emit_102 ?_
          refine lv_topi (fun z102_1 ez102_1 => ?_)
          have r102_2 : rg z102_1 1 280000 := rg_add ez102_1 h_x_mm_29 (show rg (1 : Int32) 1 1 from rg_l (by decide)) (by decide)
          refine va_put (D := D) (ci := 16) (v := .int z102_1) (ty := .int) (C := RX16) (T := TX16) (N := 78) hx hb (htX16 hn) (fun _ h => h) tyX16 tyX16_ok nmX16 hown hK hP hD hS 0 rfl rfl 29 (by decide) (hn.get mw_1568 rfl) (fun _ h9 => h9) rfl (by decide +kernel) rfl rfl (by rw [hsm55_1.1, hlen_mm]; decide) dX16_emit_103 (fun H locs hP hD hS => ?_)
          have hP : va_P D vwCl [(mm, .inr (16, (m55_1.set 29 (.int z102_1)))), (uco, .inl (ct 2, CL, .inr (.inl g_uco))), (q18_1, .inl (ct 2, n18_2, .inr (.inl f95_2)))] _ := hP
          have hD : va_D A [(mm, .inr (16, (m55_1.set 29 (.int z102_1)))), (uco, .inl (ct 2, CL, .inr (.inl g_uco))), (q18_1, .inl (ct 2, n18_2, .inr (.inl f95_2)))] := hD
          obtain ⟨m103_1, em103_1⟩ : ∃ z, z = (m55_1.set 29 (.int z102_1)) := ⟨_, rfl⟩
          rw [← em103_1] at hP hD
          have hsm103_1 : SB fs_mm m103_1 [28, 29] := by rw [em103_1]; exact SB.set hsm55_1 (by decide)
          have hfm103_1_28 : m103_1[28]? = some (.ref q18_1) := by rw [em103_1]; exact fs_ne (by decide) hfm55_1_28
          have hfm103_1_29 : m103_1[29]? = some (.int z102_1) := by rw [em103_1]; exact fs_eq (by rw [hsm55_1.1, hlen_mm]; decide)
          have hP : va_P D vwCl [(mm, .inr (16, m103_1)), (uco, .inl (ct 2, CL, .inr (.inl g_uco))), (q18_1, .inl (ct 2, n18_2, .inr (.inl f95_2)))] _ := hP
          have hD : va_D A [(mm, .inr (16, m103_1)), (uco, .inl (ct 2, CL, .inr (.inl g_uco))), (q18_1, .inl (ct 2, n18_2, .inr (.inl f95_2)))] := hD
          exact et_v (SX := Unit) (pl1 := fun _ => []) hQ hx hb hr hlocks dX16_emit_106 (m103_1, q18_1, z102_1, f95_2, n18_2, c18_3, k18_4) ⟨hsm103_1, hfm103_1_28, r102_2, hfm103_1_29, (show z102_1.toInt = x_mm_29.toInt + 1 by have q0 := (eq_add ez102_1 h_x_mm_29 (show rg (1 : Int32) 1 1 from rg_l (by decide)) (by decide)); have q1 := (show (1 : Int32).toInt = 1 from by decide); omega), (show z102_1.toInt ≤ ((n18_2 : Nat) : Int) by have q0 := (eq_add ez102_1 h_x_mm_29 (show rg (1 : Int32) 1 1 from rg_l (by decide)) (by decide)); have q1 := (eq_len ez8_1 (show (0 : Int) ≤ ((CL : Nat) : Int) ∧ ((CL : Nat) : Int) ≤ 560000 from ⟨Int.natCast_nonneg _, FF.out hq0⟩) (by decide)); have q2 := (eq_mull ez17_1 (show rg (2 : Int32) 2 2 from rg_l (by decide)) h_x_mm_29 (by decide)); have q3 := FF.out hq1; have q4 := FF.out t9_2; have q5 := FF.out en18_2; have q6 := (show (1 : Int32).toInt = 1 from by decide); omega), (show ((CL : Nat) : Int) ≤ ((n18_2 : Nat) : Int) by have q0 := (eq_mull ez17_1 (show rg (2 : Int32) 2 2 from rg_l (by decide)) h_x_mm_29 (by decide)); have q1 := (eq_len ez8_1 (show (0 : Int) ≤ ((CL : Nat) : Int) ∧ ((CL : Nat) : Int) ≤ 560000 from ⟨Int.natCast_nonneg _, FF.out hq0⟩) (by decide)); have q2 := FF.out hq1; have q3 := FF.out t9_2; have q4 := FF.out en18_2; omega), (show ((n18_2 : Nat) : Int) ≤ 560000 by have q0 := r17_2.2; have q1 := FF.out en18_2; omega), (show 64 * ((c18_3 : Nat) : Int) + ((CL : Nat) : Int) ≤ ((n18_2 : Nat) : Int) by have q0 := (eq_mull ez17_1 (show rg (2 : Int32) 2 2 from rg_l (by decide)) h_x_mm_29 (by decide)); have q1 := (eq_len ez8_1 (show (0 : Int) ≤ ((CL : Nat) : Int) ∧ ((CL : Nat) : Int) ≤ 560000 from ⟨Int.natCast_nonneg _, FF.out hq0⟩) (by decide)); have q2 := FF.out hq1; have q3 := FF.out t9_2; have q4 := FF.out en18_2; have q5 := FF.out ec18_3; omega), (show ((k18_4 : Nat) : Int) = 2 * (((n18_2 : Nat) : Int) - ((CL : Nat) : Int)) by have q0 := (eq_mull ez17_1 (show rg (2 : Int32) 2 2 from rg_l (by decide)) h_x_mm_29 (by decide)); have q1 := (eq_len ez8_1 (show (0 : Int) ≤ ((CL : Nat) : Int) ∧ ((CL : Nat) : Int) ≤ 560000 from ⟨Int.natCast_nonneg _, FF.out hq0⟩) (by decide)); have q2 := FF.out hq2; have q3 := FF.out t9_2; have q4 := FF.out en18_2; have q5 := FF.out ek18_4; omega), (fun hc9 => (((show (x_mm_29.toInt + 1) = z102_1.toInt by have q0 := (eq_add ez102_1 h_x_mm_29 (show rg (1 : Int32) 1 1 from rg_l (by decide)) (by decide)); have q1 := (show (1 : Int32).toInt = 1 from by decide); omega) : (x_mm_29.toInt + 1) = z102_1.toInt) ▸ hE96_2 hc9)), (((show (x_mm_29.toInt + 1) = z102_1.toInt by have q0 := (eq_add ez102_1 h_x_mm_29 (show rg (1 : Int32) 1 1 from rg_l (by decide)) (by decide)); have q1 := (show (1 : Int32).toInt = 1 from by decide); omega) : (x_mm_29.toInt + 1) = z102_1.toInt) ▸ hE96_3)⟩ (by rw [List.append_nil]; exact hP) (by rw [List.append_nil]; exact hD) hS [0, 2] (by decide) rfl (Nat.le_refl _) (Nat.le_refl _) (FF.out mc18_3) (FF.out mk18_4)
        · have t31_2 := FF.mk (i_nle c31_1)
          have r31_3 : rg j25_l8 0 279998 := rg_ltA t31_2 r25_1001 h_x_mm_29 (by decide)
          have r31_4 : rg x_mm_29 1 279999 := rg_ltB t31_2 r25_1001 h_x_mm_29 (by decide)
          refine lv_aload hx hb dX16_emit_34 (lv_at hl 6 rfl) ?_
          refine lv_iload hx hb dX16_emit_36 (lv_at hl 7 rfl) ?_
          refine lv_aload_n hx hb dX16_emit_38 rfl (lv_at hl 0 rfl) ?_
          refine va_get (D := D) (ci := 16) (v := .ref uco) (C := RX16) (T := TX16) (N := 78) hx hb (htX16 hn) (fun _ h => h) hown hK hP 0 rfl rfl 28 (by decide) (hn.get mw_1567 rfl) (fun _ h9 => h9) hf_mm_28 dX16_emit_39 ?_
          refine lv_iload hx hb dX16_emit_42 (lv_at hl 7 rfl) ?_
          have hi44_1 : vp_in j25_l8 CL := (in_of (show 0 ≤ j25_l8.toInt ∧ j25_l8.toInt < ((CL : Nat) : Int) by have q0 := r31_3.1; have q1 := FF.out hq2; have q2 := FF.out t31_2; omega))
          refine va_lald hx hb hK hP 1 2 rfl rfl hi44_1 dX16_emit_44 ?_
          refine lv_topl (fun z44_2 ez44_2 => ?_)
          have hi45_1 : vp_in j25_l8 n18_2 := (in_of (show 0 ≤ j25_l8.toInt ∧ j25_l8.toInt < ((n18_2 : Nat) : Int) by have q0 := r31_3.1; have q1 := (eq_len ez8_1 (show (0 : Int) ≤ ((CL : Nat) : Int) ∧ ((CL : Nat) : Int) ≤ 560000 from ⟨Int.natCast_nonneg _, FF.out hq0⟩) (by decide)); have q2 := (eq_mull ez17_1 (show rg (2 : Int32) 2 2 from rg_l (by decide)) h_x_mm_29 (by decide)); have q3 := FF.out hq1; have q4 := FF.out t9_2; have q5 := FF.out en18_2; have q6 := FF.out t31_2; omega))
          refine va_last hx hb hK hP hD hS 2 2 rfl rfl hi45_1 dX16_emit_45 (fun H locs hP hD hS => ?_)
          have hP : va_P D vwCl [(mm, .inr (16, fs_mm)), (uco, .inl (ct 2, CL, .inr (.inl g_uco))), (q18_1, .inl (ct 2, n18_2, .inr (.inl (vp_updL j25_cq18_1 j25_l8.toNatClampNeg z44_2))))] _ := hP
          have hD : va_D A [(mm, .inr (16, fs_mm)), (uco, .inl (ct 2, CL, .inr (.inl g_uco))), (q18_1, .inl (ct 2, n18_2, .inr (.inl (vp_updL j25_cq18_1 j25_l8.toNatClampNeg z44_2))))] := hD
          obtain ⟨f45_2, ef45_2⟩ : ∃ z, z = (vp_updL j25_cq18_1 j25_l8.toNatClampNeg z44_2) := ⟨_, rfl⟩
          rw [← ef45_2] at hP hD
          obtain ⟨x46_1, ex46_1⟩ : ∃ z : Int32, z = j25_l8 + 1 := ⟨_, rfl⟩
          have r46_2 : rg x46_1 1 279999 := rg_add ex46_1 r31_3 (show rg (1 : Int32) 1 1 from rg_l (by decide)) (by decide)
          refine lv_iinc (v := x46_1) (lv' := [(8, .int x46_1), (0, .ref mm), (1, .int v0), (2, .int v1), (3, .int v2), (4, .int v3), (5, .long v4), (7, .ref q18_1)]) hx hb dX16_emit_46 hl (k := 7) rfl (by rw [ex46_1]; rfl) (by decide) rfl (fun ls hl => ?_)
          refine lv_goto (tgt := 25) hx hb dX16_emit_49 (by decide) ?_
          exact ih25 x46_1 f45_2 H locs ls (rg_w r46_2 (by decide)) (CW.copy hg25_1002 ef45_2 ez44_2 (show 0 ≤ j25_l8.toInt by have q0 := r31_3.1; omega) (show x46_1.toInt = j25_l8.toInt + 1 by have q0 := (eq_add ex46_1 r31_3 (show rg (1 : Int32) 1 1 from rg_l (by decide)) (by decide)); have q1 := (show (1 : Int32).toInt = 1 from by decide); omega)) (show ((2147483647 : Int) - x46_1.toInt).toNat < n25 by have q0 := r31_3.2; have q1 := (eq_add ex46_1 r31_3 (show rg (1 : Int32) 1 1 from rg_l (by decide)) (by decide)); have q2 := (show (1 : Int32).toInt = 1 from by decide); have q3 := hms25; omega) (lv_sub hl [1, 2, 3, 4, 5, 6, 7, 0] rfl) hP hD hS
    exact b25 _ (0 : Int32) (fun _ => 0) H locs ls (rg_w (show rg (0 : Int32) 0 0 from rg_l (by decide)) (by decide)) (CW.zero (by decide)) (Nat.lt_succ_self _) (lv_sub hl [2, 3, 4, 5, 6, 7, 1, 0] rfl) hP hD hS
set_option maxHeartbeats 2000000 in
theorem c_X16_goesTo_k (l : Launch) (hst : l.stackTraces = false) (D : va_G) (ct : Nat → ClassId) (MC : Nat) (MS : Nat) (mm : Nat) (v0 : Int32) (fs_mm : List Value) (x_mm_15 : Int32) (x_mm_29 : Int32) (uwa : Nat) (uww : Nat) (x_mm_32 : Int32) (g_uwa : Nat → Int32) (WL : Nat) (g_uww : Nat → Int32) (hlen_mm : fs_mm.length = 78) (h_x_mm_15 : rg x_mm_15 0 34000) (hf_mm_15 : fs_mm[15]? = some (.int x_mm_15)) (h_x_mm_29 : rg x_mm_29 0 280000) (hf_mm_29 : fs_mm[29]? = some (.int x_mm_29)) (hf_mm_30 : fs_mm[30]? = some (.ref uwa)) (hf_mm_31 : fs_mm[31]? = some (.ref uww)) (h_x_mm_32 : rg x_mm_32 0 39999) (hf_mm_32 : fs_mm[32]? = some (.int x_mm_32)) (hq0 : ((WL : Nat) : Int) ≤ 80000) (hq1 : 64 ≤ ((WL : Nat) : Int)) (hq2 : x_mm_32.toInt ≤ ((WL : Nat) : Int)) (hq3 : 320000 ≤ ((MS : Nat) : Int) + 4 * ((WL : Nat) : Int)) (hq4 : 161000 ≤ 64 * ((MC : Nat) : Int) + 2 * ((WL : Nat) : Int)) (hq5 : 1 ≤ x_mm_29.toInt) (hq6 : -2 ≤ v0.toInt) (hq7 : v0.toInt < x_mm_15.toInt) (hg0 : WK g_uwa g_uww x_mm_32.toInt x_mm_29.toInt x_mm_15.toInt) : KT (V := Unit) (S := List Value × Nat × Nat × Int32 × (Nat → Int32) × Nat × (Nat → Int32) × Nat × Nat) (SX := Unit) l yX16_goesTo cX16_goesTo 5 none 1 20 D ct [.ref mm, .int v0] [(mm, .inr (16, fs_mm)), (uwa, .inl (ct 1, WL, .inl g_uwa)), (uww, .inl (ct 1, WL, .inl g_uww))] MC MS (fun _ : Unit => none) (fun (_ : Unit) (u : List Value × Nat × Nat × Int32 × (Nat → Int32) × Nat × (Nat → Int32) × Nat × Nat) => match u with | (fs2_mm, a_mm_30, a_mm_31, y_mm_32, k_uwa, WL2, k_uww, kc, kn) => SB fs_mm fs2_mm [30, 31, 32] ∧ fs2_mm[30]? = some (.ref a_mm_30) ∧ fs2_mm[31]? = some (.ref a_mm_31) ∧ rg y_mm_32 1 40000 ∧ fs2_mm[32]? = some (.int y_mm_32) ∧ (y_mm_32.toInt = x_mm_32.toInt + 1) ∧ (y_mm_32.toInt ≤ ((WL2 : Nat) : Int)) ∧ (((WL : Nat) : Int) ≤ ((WL2 : Nat) : Int)) ∧ (((WL2 : Nat) : Int) ≤ 80000) ∧ (64 * ((kc : Nat) : Int) + 2 * ((WL : Nat) : Int) ≤ 2 * ((WL2 : Nat) : Int)) ∧ (((kn : Nat) : Int) = 4 * (((WL2 : Nat) : Int) - ((WL : Nat) : Int))) ∧ (WK k_uwa k_uww y_mm_32.toInt x_mm_29.toInt x_mm_15.toInt)) (fun (u : List Value × Nat × Nat × Int32 × (Nat → Int32) × Nat × (Nat → Int32) × Nat × Nat) => match u with | (fs2_mm, a_mm_30, a_mm_31, y_mm_32, k_uwa, WL2, k_uww, kc, kn) => [(mm, .inr (16, fs2_mm)), (a_mm_30, .inl (ct 1, WL2, .inl k_uwa)), (a_mm_31, .inl (ct 1, WL2, .inl k_uww))] ++ []) (fun (u : List Value × Nat × Nat × Int32 × (Nat → Int32) × Nat × (Nat → Int32) × Nat × Nat) => match u with | (fs2_mm, a_mm_30, a_mm_31, y_mm_32, k_uwa, WL2, k_uww, kc, kn) => kc) (fun (u : List Value × Nat × Nat × Int32 × (Nat → Int32) × Nat × (Nat → Int32) × Nat × Nat) => match u with | (fs2_mm, a_mm_30, a_mm_31, y_mm_32, k_uwa, WL2, k_uww, kc, kn) => kn) 15 RX15 peW (fun _ => False) (fun _ => []) := by
  refine KT_of (by decide) (Nat.le_of_ble_eq_true rfl) (fun p e s m below meth c A Q C0 htab hA H locs hS hP hD hQ ls hl => ?_)
  obtain ⟨hx, hb, hr, hown, hin, hml, hlocks, hn, hK, hZ, hSK⟩ := C0
  have hl : lv_has ls 5 [(0, .ref mm), (1, .int v0)] := hl
  replace hq0 := FF.mk hq0
  replace hq1 := FF.mk hq1
  replace hq2 := FF.mk hq2
  replace hq3 := FF.mk hq3
  replace hq4 := FF.mk hq4
  replace hq5 := FF.mk hq5
  replace hq6 := FF.mk hq6
  replace hq7 := FF.mk hq7
  refine lv_aload_n hx hb dX16_goesTo_0 rfl (lv_at hl 0 rfl) ?_
  refine va_get (D := D) (ci := 16) (v := .int x_mm_32) (C := RX16) (T := TX16) (N := 78) hx hb (htX16 hn) (fun _ h => h) hown hK hP 0 rfl rfl 32 (by decide) (hn.get mw_1571 rfl) (fun _ h9 => h9) hf_mm_32 dX16_goesTo_1 ?_
  refine lv_aload_n hx hb dX16_goesTo_4 rfl (lv_at hl 0 rfl) ?_
  refine va_get (D := D) (ci := 16) (v := .ref uwa) (C := RX16) (T := TX16) (N := 78) hx hb (htX16 hn) (fun _ h => h) hown hK hP 0 rfl rfl 30 (by decide) (hn.get mw_1569 rfl) (fun _ h9 => h9) hf_mm_30 dX16_goesTo_5 ?_
  refine va_alen hx hb hK hP 1 1 rfl rfl rfl dX16_goesTo_8 ?_
  refine lv_topi (fun z8_1 ez8_1 => ?_)
  have r8_2 : rg z8_1 0 80000 := rg_len ez8_1 (show (0 : Int) ≤ ((WL : Nat) : Int) ∧ ((WL : Nat) : Int) ≤ 80000 from ⟨Int.natCast_nonneg _, FF.out hq0⟩) (by decide)
  refine lv_icmp_ne (tgt := 80) hx hb dX16_goesTo_9 (by decide) (fun c9_1 => ?_) (fun c9_1 => ?_)
  · have t9_2 := FF.mk (i_ne c9_1)
    refine lv_aload_n hx hb dX16_goesTo_80 rfl (lv_at hl 0 rfl) ?_
    refine va_get (D := D) (ci := 16) (v := .ref uwa) (C := RX16) (T := TX16) (N := 78) hx hb (htX16 hn) (fun _ h => h) hown hK hP 0 rfl rfl 30 (by decide) (hn.get mw_1569 rfl) (fun _ h9 => h9) hf_mm_30 dX16_goesTo_81 ?_
    refine lv_aload_n hx hb dX16_goesTo_84 rfl (lv_at hl 0 rfl) ?_
    refine va_get (D := D) (ci := 16) (v := .int x_mm_32) (C := RX16) (T := TX16) (N := 78) hx hb (htX16 hn) (fun _ h => h) hown hK hP 0 rfl rfl 32 (by decide) (hn.get mw_1571 rfl) (fun _ h9 => h9) hf_mm_32 dX16_goesTo_85 ?_
    refine lv_aload_n hx hb dX16_goesTo_88 rfl (lv_at hl 0 rfl) ?_
    refine va_get (D := D) (ci := 16) (v := .int x_mm_29) (C := RX16) (T := TX16) (N := 78) hx hb (htX16 hn) (fun _ h => h) hown hK hP 0 rfl rfl 29 (by decide) (hn.get mw_1568 rfl) (fun _ h9 => h9) hf_mm_29 dX16_goesTo_89 ?_
    refine lv_iconst (v := 1) hx hb dX16_goesTo_92 (by decide) ?_
    refine lv_isub hx hb dX16_goesTo_93 ?_
    refine lv_topi (fun z93_1 ez93_1 => ?_)
    have r93_2 : rg z93_1 (-1) 279999 := rg_sub ez93_1 h_x_mm_29 (show rg (1 : Int32) 1 1 from rg_l (by decide)) (by decide)
    have hi94_1 : vp_in x_mm_32 WL := (in_of (show 0 ≤ x_mm_32.toInt ∧ x_mm_32.toInt < ((WL : Nat) : Int) by have q0 := h_x_mm_32.1; have q1 := (eq_len ez8_1 (show (0 : Int) ≤ ((WL : Nat) : Int) ∧ ((WL : Nat) : Int) ≤ 80000 from ⟨Int.natCast_nonneg _, FF.out hq0⟩) (by decide)); have q2 := FF.out hq2; have q3 := FF.out t9_2; omega))
    refine va_iast hx hb hK hP hD hS 1 1 rfl rfl hi94_1 dX16_goesTo_94 (fun H locs hP hD hS => ?_)
    have hP : va_P D vwCl [(mm, .inr (16, fs_mm)), (uwa, .inl (ct 1, WL, .inl (upd g_uwa x_mm_32.toNatClampNeg z93_1))), (uww, .inl (ct 1, WL, .inl g_uww))] _ := hP
    have hD : va_D A [(mm, .inr (16, fs_mm)), (uwa, .inl (ct 1, WL, .inl (upd g_uwa x_mm_32.toNatClampNeg z93_1))), (uww, .inl (ct 1, WL, .inl g_uww))] := hD
    obtain ⟨f94_2, ef94_2⟩ : ∃ z, z = (upd g_uwa x_mm_32.toNatClampNeg z93_1) := ⟨_, rfl⟩
    rw [← ef94_2] at hP hD
    refine lv_aload_n hx hb dX16_goesTo_95 rfl (lv_at hl 0 rfl) ?_
    refine va_get (D := D) (ci := 16) (v := .ref uww) (C := RX16) (T := TX16) (N := 78) hx hb (htX16 hn) (fun _ h => h) hown hK hP 0 rfl rfl 31 (by decide) (hn.get mw_1570 rfl) (fun _ h9 => h9) hf_mm_31 dX16_goesTo_96 ?_
    refine lv_aload_n hx hb dX16_goesTo_99 rfl (lv_at hl 0 rfl) ?_
    refine va_get (D := D) (ci := 16) (v := .int x_mm_32) (C := RX16) (T := TX16) (N := 78) hx hb (htX16 hn) (fun _ h => h) hown hK hP 0 rfl rfl 32 (by decide) (hn.get mw_1571 rfl) (fun _ h9 => h9) hf_mm_32 dX16_goesTo_100 ?_
    refine lv_iload_n hx hb dX16_goesTo_103 rfl (lv_at hl 1 rfl) ?_
    have hi104_1 : vp_in x_mm_32 WL := (in_of (show 0 ≤ x_mm_32.toInt ∧ x_mm_32.toInt < ((WL : Nat) : Int) by have q0 := h_x_mm_32.1; have q1 := (eq_len ez8_1 (show (0 : Int) ≤ ((WL : Nat) : Int) ∧ ((WL : Nat) : Int) ≤ 80000 from ⟨Int.natCast_nonneg _, FF.out hq0⟩) (by decide)); have q2 := FF.out hq2; have q3 := FF.out t9_2; omega))
    refine va_iast hx hb hK hP hD hS 2 1 rfl rfl hi104_1 dX16_goesTo_104 (fun H locs hP hD hS => ?_)
    have hP : va_P D vwCl [(mm, .inr (16, fs_mm)), (uwa, .inl (ct 1, WL, .inl f94_2)), (uww, .inl (ct 1, WL, .inl (upd g_uww x_mm_32.toNatClampNeg v0)))] _ := hP
    have hD : va_D A [(mm, .inr (16, fs_mm)), (uwa, .inl (ct 1, WL, .inl f94_2)), (uww, .inl (ct 1, WL, .inl (upd g_uww x_mm_32.toNatClampNeg v0)))] := hD
    obtain ⟨f104_2, ef104_2⟩ : ∃ z, z = (upd g_uww x_mm_32.toNatClampNeg v0) := ⟨_, rfl⟩
    rw [← ef104_2] at hP hD
    have hW105_1 : WK f94_2 f104_2 (x_mm_32.toInt + 1) x_mm_29.toInt x_mm_15.toInt := WK.push hg0 IW.rf IW.rf ef94_2 ef104_2 (show x_mm_32.toInt = x_mm_32.toInt by omega) (show x_mm_32.toInt = x_mm_32.toInt by omega) (show 0 ≤ x_mm_32.toInt by have q0 := h_x_mm_32.1; omega) rfl (show 0 ≤ z93_1.toInt ∧ z93_1.toInt < x_mm_29.toInt by have q0 := (eq_sub ez93_1 h_x_mm_29 (show rg (1 : Int32) 1 1 from rg_l (by decide)) (by decide)); have q1 := FF.out hq5; have q2 := (show (1 : Int32).toInt = 1 from by decide); omega) (show -2 ≤ v0.toInt ∧ v0.toInt < x_mm_15.toInt by have q0 := FF.out hq6; have q1 := FF.out hq7; omega)
    refine lv_aload_n hx hb dX16_goesTo_105 rfl (lv_at hl 0 rfl) ?_
    refine lv_dup hx hb dX16_goesTo_106 rfl ?_
    refine va_get (D := D) (ci := 16) (v := .int x_mm_32) (C := RX16) (T := TX16) (N := 78) hx hb (htX16 hn) (fun _ h => h) hown hK hP 0 rfl rfl 32 (by decide) (hn.get mw_1571 rfl) (fun _ h9 => h9) hf_mm_32 dX16_goesTo_107 ?_
    refine lv_iconst (v := 1) hx hb dX16_goesTo_110 (by decide) ?_
    refine lv_iadd hx hb dX16_goesTo_111 ?_
    refine lv_topi (fun z111_1 ez111_1 => ?_)
    have r111_2 : rg z111_1 1 40000 := rg_add ez111_1 h_x_mm_32 (show rg (1 : Int32) 1 1 from rg_l (by decide)) (by decide)
    refine va_put (D := D) (ci := 16) (v := .int z111_1) (ty := .int) (C := RX16) (T := TX16) (N := 78) hx hb (htX16 hn) (fun _ h => h) tyX16 tyX16_ok nmX16 hown hK hP hD hS 0 rfl rfl 32 (by decide) (hn.get mw_1571 rfl) (fun _ h9 => h9) rfl (by decide +kernel) rfl rfl (by rw [hlen_mm]; decide) dX16_goesTo_112 (fun H locs hP hD hS => ?_)
    have hP : va_P D vwCl [(mm, .inr (16, (fs_mm.set 32 (.int z111_1)))), (uwa, .inl (ct 1, WL, .inl f94_2)), (uww, .inl (ct 1, WL, .inl f104_2))] _ := hP
    have hD : va_D A [(mm, .inr (16, (fs_mm.set 32 (.int z111_1)))), (uwa, .inl (ct 1, WL, .inl f94_2)), (uww, .inl (ct 1, WL, .inl f104_2))] := hD
    obtain ⟨m112_1, em112_1⟩ : ∃ z, z = (fs_mm.set 32 (.int z111_1)) := ⟨_, rfl⟩
    rw [← em112_1] at hP hD
    have hsm112_1 : SB fs_mm m112_1 [30, 31, 32] := by rw [em112_1]; exact SB.set (SB.rf _ _) (by decide)
    have hfm112_1_30 : m112_1[30]? = some (.ref uwa) := by rw [em112_1]; exact fs_ne (by decide) hf_mm_30
    have hfm112_1_31 : m112_1[31]? = some (.ref uww) := by rw [em112_1]; exact fs_ne (by decide) hf_mm_31
    have hfm112_1_32 : m112_1[32]? = some (.int z111_1) := by rw [em112_1]; exact fs_eq (by rw [hlen_mm]; decide)
    have hP : va_P D vwCl [(mm, .inr (16, m112_1)), (uwa, .inl (ct 1, WL, .inl f94_2)), (uww, .inl (ct 1, WL, .inl f104_2))] _ := hP
    have hD : va_D A [(mm, .inr (16, m112_1)), (uwa, .inl (ct 1, WL, .inl f94_2)), (uww, .inl (ct 1, WL, .inl f104_2))] := hD
    exact et_v (SX := Unit) (pl1 := fun _ => []) hQ hx hb hr hlocks dX16_goesTo_115 (m112_1, uwa, uww, z111_1, f94_2, WL, f104_2, 0, 0) ⟨hsm112_1, hfm112_1_30, hfm112_1_31, r111_2, hfm112_1_32, (show z111_1.toInt = x_mm_32.toInt + 1 by have q0 := (eq_add ez111_1 h_x_mm_32 (show rg (1 : Int32) 1 1 from rg_l (by decide)) (by decide)); have q1 := (show (1 : Int32).toInt = 1 from by decide); omega), (show z111_1.toInt ≤ ((WL : Nat) : Int) by have q0 := (eq_add ez111_1 h_x_mm_32 (show rg (1 : Int32) 1 1 from rg_l (by decide)) (by decide)); have q1 := (eq_len ez8_1 (show (0 : Int) ≤ ((WL : Nat) : Int) ∧ ((WL : Nat) : Int) ≤ 80000 from ⟨Int.natCast_nonneg _, FF.out hq0⟩) (by decide)); have q2 := FF.out hq2; have q3 := FF.out t9_2; have q4 := (show (1 : Int32).toInt = 1 from by decide); omega), (show ((WL : Nat) : Int) ≤ ((WL : Nat) : Int) by omega), (show ((WL : Nat) : Int) ≤ 80000 by have q0 := FF.out hq0; omega), (show 64 * ((0 : Nat) : Int) + 2 * ((WL : Nat) : Int) ≤ 2 * ((WL : Nat) : Int) by omega), (show ((0 : Nat) : Int) = 4 * (((WL : Nat) : Int) - ((WL : Nat) : Int)) by omega), (((show (x_mm_32.toInt + 1) = z111_1.toInt by have q0 := (eq_add ez111_1 h_x_mm_32 (show rg (1 : Int32) 1 1 from rg_l (by decide)) (by decide)); have q1 := (show (1 : Int32).toInt = 1 from by decide); omega) : (x_mm_32.toInt + 1) = z111_1.toInt) ▸ hW105_1)⟩ (by rw [List.append_nil]; exact hP) (by rw [List.append_nil]; exact hD) hS [0, 1, 2] (by decide) rfl (Nat.le_refl _) (Nat.le_refl _) (Nat.zero_le MC) (Nat.zero_le MS)
  · have t9_2 := FF.mk (i_eq c9_1)
    have r9_3 : rg z8_1 0 39999 := rg_eqB t9_2 h_x_mm_32 r8_2 (by decide)
    refine lv_iconst (v := 2) hx hb dX16_goesTo_12 (by decide) ?_
    refine lv_aload_n hx hb dX16_goesTo_13 rfl (lv_at hl 0 rfl) ?_
    refine va_get (D := D) (ci := 16) (v := .int x_mm_32) (C := RX16) (T := TX16) (N := 78) hx hb (htX16 hn) (fun _ h => h) hown hK hP 0 rfl rfl 32 (by decide) (hn.get mw_1571 rfl) (fun _ h9 => h9) hf_mm_32 dX16_goesTo_14 ?_
    refine lv_imul hx hb dX16_goesTo_17 ?_
    refine lv_topi (fun z17_1 ez17_1 => ?_)
    have r17_2 : rg z17_1 0 79998 := rg_mul ez17_1 (show rg (2 : Int32) 2 2 from rg_l (by decide)) h_x_mm_32 (by decide)
    obtain ⟨n18_2, gn18_2⟩ : ∃ k : Nat, z17_1.toNatClampNeg = k := ⟨_, rfl⟩
    have en18_2 := FF.mk (ncn_up gn18_2 (show 0 ≤ z17_1.toInt by have q0 := (eq_mull ez17_1 (show rg (2 : Int32) 2 2 from rg_l (by decide)) h_x_mm_32 (by decide)); have q1 := (eq_len ez8_1 (show (0 : Int) ≤ ((WL : Nat) : Int) ∧ ((WL : Nat) : Int) ≤ 80000 from ⟨Int.natCast_nonneg _, FF.out hq0⟩) (by decide)); have q2 := FF.out hq1; have q3 := FF.out t9_2; omega))
    obtain ⟨c18_3, ec18_3⟩ : ∃ x9 : Nat, x9 = 0 + 1 := ⟨_, rfl⟩
    have ec18_3 := FF.mk ec18_3
    have mc18_3 : FF (c18_3 ≤ MC) := FF.mk (Int.ofNat_le.mp (show ((c18_3 : Nat) : Int) ≤ ((MC : Nat) : Int) by have q0 := r9_3.2; have q1 := (eq_len ez8_1 (show (0 : Int) ≤ ((WL : Nat) : Int) ∧ ((WL : Nat) : Int) ≤ 80000 from ⟨Int.natCast_nonneg _, FF.out hq0⟩) (by decide)); have q2 := FF.out hq4; have q3 := FF.out ec18_3; omega))
    obtain ⟨k18_4, ek18_4⟩ : ∃ x9 : Nat, x9 = 0 + n18_2 := ⟨_, rfl⟩
    have ek18_4 := FF.mk ek18_4
    have mk18_4 : FF (k18_4 ≤ MS) := FF.mk (Int.ofNat_le.mp (show ((k18_4 : Nat) : Int) ≤ ((MS : Nat) : Int) by have q0 := r17_2.2; have q1 := r9_3.2; have q2 := (eq_len ez8_1 (show (0 : Int) ≤ ((WL : Nat) : Int) ∧ ((WL : Nat) : Int) ≤ 80000 from ⟨Int.natCast_nonneg _, FF.out hq0⟩) (by decide)); have q3 := FF.out hq3; have q4 := FF.out en18_2; have q5 := FF.out ek18_4; omega))
    have nbn18_2 : (0 : Int) ≤ ((n18_2 : Nat) : Int) ∧ ((n18_2 : Nat) : Int) ≤ 80000 := ⟨Int.natCast_nonneg _, (show ((n18_2 : Nat) : Int) ≤ 80000 by have q0 := r17_2.2; have q1 := FF.out en18_2; omega)⟩
    refine na_new (atype := .int) (k1 := c18_3) (n1 := k18_4) hx hb hn mw_72 rfl hK hP hD hS hA 1 rfl n18_2 (n18_2, .inl (fun _ => 0)) (fun _ => rfl) (nneg_of (show 0 ≤ z17_1.toInt by have q0 := (eq_mull ez17_1 (show rg (2 : Int32) 2 2 from rg_l (by decide)) h_x_mm_32 (by decide)); have q1 := (eq_len ez8_1 (show (0 : Int) ≤ ((WL : Nat) : Int) ∧ ((WL : Nat) : Int) ≤ 80000 from ⟨Int.natCast_nonneg _, FF.out hq0⟩) (by decide)); have q2 := FF.out hq1; have q3 := FF.out t9_2; omega)) gn18_2 (show n18_2 * 4 ≤ 536870912 by have h9 := (show ((n18_2 : Nat) : Int) ≤ 134217728 by have q0 := r17_2.2; have q1 := FF.out en18_2; omega); omega) (Nat.le_of_eq (FF.out ec18_3).symm) (Nat.le_of_eq (FF.out ek18_4).symm) (FF.out mc18_3) (FF.out mk18_4) dX16_goesTo_18 (fun q18_1 H hP hD hS => ?_)
    have hP : va_P D vwCl [(mm, .inr (16, fs_mm)), (uwa, .inl (ct 1, WL, .inl g_uwa)), (uww, .inl (ct 1, WL, .inl g_uww)), (q18_1, .inl (ct 1, n18_2, .inl (fun _ => 0)))] _ := hP
    have hD : va_D A [(mm, .inr (16, fs_mm)), (uwa, .inl (ct 1, WL, .inl g_uwa)), (uww, .inl (ct 1, WL, .inl g_uww)), (q18_1, .inl (ct 1, n18_2, .inl (fun _ => 0)))] := hD
    refine lv_astore_n (lv' := [(2, .ref q18_1), (0, .ref mm), (1, .int v0)]) hx hb dX16_goesTo_20 rfl hl (by decide) rfl (fun ls hl => ?_)
    refine lv_iconst (v := 2) hx hb dX16_goesTo_21 (by decide) ?_
    refine lv_aload_n hx hb dX16_goesTo_22 rfl (lv_at hl 1 rfl) ?_
    refine va_get (D := D) (ci := 16) (v := .int x_mm_32) (C := RX16) (T := TX16) (N := 78) hx hb (htX16 hn) (fun _ h => h) hown hK hP 0 rfl rfl 32 (by decide) (hn.get mw_1571 rfl) (fun _ h9 => h9) hf_mm_32 dX16_goesTo_23 ?_
    refine lv_imul hx hb dX16_goesTo_26 ?_
    refine lv_topi (fun z26_1 ez26_1 => ?_)
    obtain rfl : z17_1 = z26_1 := ez17_1.trans ez26_1.symm
    obtain ⟨n27_2, gn27_2⟩ : ∃ k : Nat, z17_1.toNatClampNeg = k := ⟨_, rfl⟩
    have en27_2 := FF.mk (ncn_up gn27_2 (show 0 ≤ z17_1.toInt by have q0 := (eq_mull ez17_1 (show rg (2 : Int32) 2 2 from rg_l (by decide)) h_x_mm_32 (by decide)); have q1 := (eq_len ez8_1 (show (0 : Int) ≤ ((WL : Nat) : Int) ∧ ((WL : Nat) : Int) ≤ 80000 from ⟨Int.natCast_nonneg _, FF.out hq0⟩) (by decide)); have q2 := FF.out hq1; have q3 := FF.out t9_2; omega))
    obtain ⟨c27_3, ec27_3⟩ : ∃ x9 : Nat, x9 = c18_3 + 1 := ⟨_, rfl⟩
    have ec27_3 := FF.mk ec27_3
    have mc27_3 : FF (c27_3 ≤ MC) := FF.mk (Int.ofNat_le.mp (show ((c27_3 : Nat) : Int) ≤ ((MC : Nat) : Int) by have q0 := r9_3.2; have q1 := (eq_len ez8_1 (show (0 : Int) ≤ ((WL : Nat) : Int) ∧ ((WL : Nat) : Int) ≤ 80000 from ⟨Int.natCast_nonneg _, FF.out hq0⟩) (by decide)); have q2 := FF.out hq4; have q3 := FF.out ec18_3; have q4 := FF.out ec27_3; omega))
    obtain ⟨k27_4, ek27_4⟩ : ∃ x9 : Nat, x9 = k18_4 + n18_2 := ⟨_, rfl⟩
    have ek27_4 := FF.mk ek27_4
    have mk27_4 : FF (k27_4 ≤ MS) := FF.mk (Int.ofNat_le.mp (show ((k27_4 : Nat) : Int) ≤ ((MS : Nat) : Int) by have q0 := r17_2.2; have q1 := r9_3.2; have q2 := (eq_len ez8_1 (show (0 : Int) ≤ ((WL : Nat) : Int) ∧ ((WL : Nat) : Int) ≤ 80000 from ⟨Int.natCast_nonneg _, FF.out hq0⟩) (by decide)); have q3 := FF.out hq3; have q4 := FF.out en18_2; have q5 := FF.out ek18_4; have q6 := FF.out ek27_4; omega))
    refine na_new (atype := .int) (k1 := c27_3) (n1 := k27_4) hx hb hn mw_72 rfl hK hP hD hS hA 1 rfl n18_2 (n18_2, .inl (fun _ => 0)) (fun _ => rfl) (nneg_of (show 0 ≤ z17_1.toInt by have q0 := (eq_mull ez17_1 (show rg (2 : Int32) 2 2 from rg_l (by decide)) h_x_mm_32 (by decide)); have q1 := (eq_len ez8_1 (show (0 : Int) ≤ ((WL : Nat) : Int) ∧ ((WL : Nat) : Int) ≤ 80000 from ⟨Int.natCast_nonneg _, FF.out hq0⟩) (by decide)); have q2 := FF.out hq1; have q3 := FF.out t9_2; omega)) (gn27_2.trans (Int.ofNat_inj.mp (show ((n27_2 : Nat) : Int) = ((n18_2 : Nat) : Int) by have q0 := FF.out en18_2; have q1 := FF.out en27_2; omega))) (show n18_2 * 4 ≤ 536870912 by have h9 := (show ((n18_2 : Nat) : Int) ≤ 134217728 by have q0 := r17_2.2; have q1 := FF.out en18_2; omega); omega) (Nat.le_of_eq (FF.out ec27_3).symm) (Nat.le_of_eq (FF.out ek27_4).symm) (FF.out mc27_3) (FF.out mk27_4) dX16_goesTo_27 (fun q27_1 H hP hD hS => ?_)
    have hP : va_P D vwCl [(mm, .inr (16, fs_mm)), (uwa, .inl (ct 1, WL, .inl g_uwa)), (uww, .inl (ct 1, WL, .inl g_uww)), (q18_1, .inl (ct 1, n18_2, .inl (fun _ => 0))), (q27_1, .inl (ct 1, n18_2, .inl (fun _ => 0)))] _ := hP
    have hD : va_D A [(mm, .inr (16, fs_mm)), (uwa, .inl (ct 1, WL, .inl g_uwa)), (uww, .inl (ct 1, WL, .inl g_uww)), (q18_1, .inl (ct 1, n18_2, .inl (fun _ => 0))), (q27_1, .inl (ct 1, n18_2, .inl (fun _ => 0)))] := hD
    refine lv_astore_n (lv' := [(3, .ref q27_1), (2, .ref q18_1), (0, .ref mm), (1, .int v0)]) hx hb dX16_goesTo_29 rfl hl (by decide) rfl (fun ls hl => ?_)
    refine lv_iconst (v := 0) hx hb dX16_goesTo_30 (by decide) ?_
    refine lv_istore (lv' := [(4, .int 0), (3, .ref q27_1), (2, .ref q18_1), (0, .ref mm), (1, .int v0)]) hx hb dX16_goesTo_31 hl (by decide) rfl (fun ls hl => ?_)
    have b33 : ∀ (n33 : Nat) (j33_l4 : Int32) (j33_cq18_1 : Nat → Int32) (j33_cq27_1 : Nat → Int32) (H : Heap) (locs : List Loc) (ls : Array Slot), (rg j33_l4 0 2147483647) → (IW g_uwa j33_cq18_1 j33_l4.toInt) → (IW g_uww j33_cq27_1 j33_l4.toInt) → ((2147483647 : Int) - j33_l4.toInt).toNat < n33 → lv_has ls 5 [(0, .ref mm), (1, .int v0), (2, .ref q18_1), (3, .ref q27_1), (4, .int j33_l4)] → va_P D vwCl [(mm, .inr (16, fs_mm)), (uwa, .inl (ct 1, WL, .inl g_uwa)), (uww, .inl (ct 1, WL, .inl g_uww)), (q18_1, .inl (ct 1, n18_2, .inl j33_cq18_1)), (q27_1, .inl (ct 1, n18_2, .inl j33_cq27_1))] H → va_D A [(mm, .inr (16, fs_mm)), (uwa, .inl (ct 1, WL, .inl g_uwa)), (uww, .inl (ct 1, WL, .inl g_uww)), (q18_1, .inl (ct 1, n18_2, .inl j33_cq18_1)), (q27_1, .inl (ct 1, n18_2, .inl j33_cq27_1))] → va_S A s.heap H locs → W p l e ({ frames := 1, cells := MC, slots := MS, locals := 20 }) s m [.ref mm, .int v0].toArray below meth c H locs c27_3 k27_4 Q (F0 m 33 ls []) := by
      intro n33
      induction n33 with
      | zero => intros; rename_i hms _ _ _ _; exact absurd hms (Nat.not_lt_zero _)
      | succ n33 ih33 =>
        intro j33_l4 j33_cq18_1 j33_cq27_1 H locs ls r33_1001 hg33_1002 hg33_1003 hms33 hl hP hD hS
        refine lv_iload hx hb dX16_goesTo_33 (lv_at hl 4 rfl) ?_
        refine lv_aload_n hx hb dX16_goesTo_35 rfl (lv_at hl 0 rfl) ?_
        refine va_get (D := D) (ci := 16) (v := .int x_mm_32) (C := RX16) (T := TX16) (N := 78) hx hb (htX16 hn) (fun _ h => h) hown hK hP 0 rfl rfl 32 (by decide) (hn.get mw_1571 rfl) (fun _ h9 => h9) hf_mm_32 dX16_goesTo_36 ?_
        refine lv_icmp_ge (tgt := 70) hx hb dX16_goesTo_39 (by decide) (fun c39_1 => ?_) (fun c39_1 => ?_)
        · have t39_2 := FF.mk (i_le c39_1)
          refine lv_aload_n hx hb dX16_goesTo_70 rfl (lv_at hl 0 rfl) ?_
          refine lv_aload_n hx hb dX16_goesTo_71 rfl (lv_at hl 2 rfl) ?_
          refine va_put (D := D) (ci := 16) (v := .ref q18_1) (ty := .array .int) (C := RX16) (T := TX16) (N := 78) hx hb (htX16 hn) (fun _ h => h) tyX16 tyX16_ok nmX16 hown hK hP hD hS 0 rfl rfl 30 (by decide) (hn.get mw_1569 rfl) (fun _ h9 => h9) rfl (by decide +kernel) rfl rfl (by rw [hlen_mm]; decide) dX16_goesTo_72 (fun H locs hP hD hS => ?_)
          have hP : va_P D vwCl [(mm, .inr (16, (fs_mm.set 30 (.ref q18_1)))), (uwa, .inl (ct 1, WL, .inl g_uwa)), (uww, .inl (ct 1, WL, .inl g_uww)), (q18_1, .inl (ct 1, n18_2, .inl j33_cq18_1)), (q27_1, .inl (ct 1, n18_2, .inl j33_cq27_1))] _ := hP
          have hD : va_D A [(mm, .inr (16, (fs_mm.set 30 (.ref q18_1)))), (uwa, .inl (ct 1, WL, .inl g_uwa)), (uww, .inl (ct 1, WL, .inl g_uww)), (q18_1, .inl (ct 1, n18_2, .inl j33_cq18_1)), (q27_1, .inl (ct 1, n18_2, .inl j33_cq27_1))] := hD
          obtain ⟨m72_1, em72_1⟩ : ∃ z, z = (fs_mm.set 30 (.ref q18_1)) := ⟨_, rfl⟩
          rw [← em72_1] at hP hD
          have hsm72_1 : SB fs_mm m72_1 [30, 31, 32] := by rw [em72_1]; exact SB.set (SB.rf _ _) (by decide)
          have hfm72_1_31 : m72_1[31]? = some (.ref uww) := by rw [em72_1]; exact fs_ne (by decide) hf_mm_31
          have hfm72_1_32 : m72_1[32]? = some (.int x_mm_32) := by rw [em72_1]; exact fs_ne (by decide) hf_mm_32
          have hfm72_1_30 : m72_1[30]? = some (.ref q18_1) := by rw [em72_1]; exact fs_eq (by rw [hlen_mm]; decide)
          have hP : va_P D vwCl [(mm, .inr (16, m72_1)), (uwa, .inl (ct 1, WL, .inl g_uwa)), (uww, .inl (ct 1, WL, .inl g_uww)), (q18_1, .inl (ct 1, n18_2, .inl j33_cq18_1)), (q27_1, .inl (ct 1, n18_2, .inl j33_cq27_1))] _ := hP
          have hD : va_D A [(mm, .inr (16, m72_1)), (uwa, .inl (ct 1, WL, .inl g_uwa)), (uww, .inl (ct 1, WL, .inl g_uww)), (q18_1, .inl (ct 1, n18_2, .inl j33_cq18_1)), (q27_1, .inl (ct 1, n18_2, .inl j33_cq27_1))] := hD
          refine lv_aload_n hx hb dX16_goesTo_75 rfl (lv_at hl 0 rfl) ?_
          refine lv_aload_n hx hb dX16_goesTo_76 rfl (lv_at hl 3 rfl) ?_
          refine va_put (D := D) (ci := 16) (v := .ref q27_1) (ty := .array .int) (C := RX16) (T := TX16) (N := 78) hx hb (htX16 hn) (fun _ h => h) tyX16 tyX16_ok nmX16 hown hK hP hD hS 0 rfl rfl 31 (by decide) (hn.get mw_1570 rfl) (fun _ h9 => h9) rfl (by decide +kernel) rfl rfl (by rw [hsm72_1.1, hlen_mm]; decide) dX16_goesTo_77 (fun H locs hP hD hS => ?_)
          have hP : va_P D vwCl [(mm, .inr (16, (m72_1.set 31 (.ref q27_1)))), (uwa, .inl (ct 1, WL, .inl g_uwa)), (uww, .inl (ct 1, WL, .inl g_uww)), (q18_1, .inl (ct 1, n18_2, .inl j33_cq18_1)), (q27_1, .inl (ct 1, n18_2, .inl j33_cq27_1))] _ := hP
          have hD : va_D A [(mm, .inr (16, (m72_1.set 31 (.ref q27_1)))), (uwa, .inl (ct 1, WL, .inl g_uwa)), (uww, .inl (ct 1, WL, .inl g_uww)), (q18_1, .inl (ct 1, n18_2, .inl j33_cq18_1)), (q27_1, .inl (ct 1, n18_2, .inl j33_cq27_1))] := hD
          obtain ⟨m77_1, em77_1⟩ : ∃ z, z = (m72_1.set 31 (.ref q27_1)) := ⟨_, rfl⟩
          rw [← em77_1] at hP hD
          have hsm77_1 : SB fs_mm m77_1 [30, 31, 32] := by rw [em77_1]; exact SB.set hsm72_1 (by decide)
          have hfm77_1_32 : m77_1[32]? = some (.int x_mm_32) := by rw [em77_1]; exact fs_ne (by decide) hfm72_1_32
          have hfm77_1_30 : m77_1[30]? = some (.ref q18_1) := by rw [em77_1]; exact fs_ne (by decide) hfm72_1_30
          have hfm77_1_31 : m77_1[31]? = some (.ref q27_1) := by rw [em77_1]; exact fs_eq (by rw [hsm72_1.1, hlen_mm]; decide)
          have hP : va_P D vwCl [(mm, .inr (16, m77_1)), (uwa, .inl (ct 1, WL, .inl g_uwa)), (uww, .inl (ct 1, WL, .inl g_uww)), (q18_1, .inl (ct 1, n18_2, .inl j33_cq18_1)), (q27_1, .inl (ct 1, n18_2, .inl j33_cq27_1))] _ := hP
          have hD : va_D A [(mm, .inr (16, m77_1)), (uwa, .inl (ct 1, WL, .inl g_uwa)), (uww, .inl (ct 1, WL, .inl g_uww)), (q18_1, .inl (ct 1, n18_2, .inl j33_cq18_1)), (q27_1, .inl (ct 1, n18_2, .inl j33_cq27_1))] := hD
          refine lv_aload_n hx hb dX16_goesTo_80 rfl (lv_at hl 0 rfl) ?_
          refine va_get (D := D) (ci := 16) (v := .ref q18_1) (C := RX16) (T := TX16) (N := 78) hx hb (htX16 hn) (fun _ h => h) hown hK hP 0 rfl rfl 30 (by decide) (hn.get mw_1569 rfl) (fun _ h9 => h9) hfm77_1_30 dX16_goesTo_81 ?_
          refine lv_aload_n hx hb dX16_goesTo_84 rfl (lv_at hl 0 rfl) ?_
          refine va_get (D := D) (ci := 16) (v := .int x_mm_32) (C := RX16) (T := TX16) (N := 78) hx hb (htX16 hn) (fun _ h => h) hown hK hP 0 rfl rfl 32 (by decide) (hn.get mw_1571 rfl) (fun _ h9 => h9) hfm77_1_32 dX16_goesTo_85 ?_
          refine lv_aload_n hx hb dX16_goesTo_88 rfl (lv_at hl 0 rfl) ?_
          refine va_get (D := D) (ci := 16) (v := .int x_mm_29) (C := RX16) (T := TX16) (N := 78) hx hb (htX16 hn) (fun _ h => h) hown hK hP 0 rfl rfl 29 (by decide) (hn.get mw_1568 rfl) (fun _ h9 => h9) (SB.get hsm77_1 (by decide) hf_mm_29) dX16_goesTo_89 ?_
          refine lv_iconst (v := 1) hx hb dX16_goesTo_92 (by decide) ?_
          refine lv_isub hx hb dX16_goesTo_93 ?_
          refine lv_topi (fun z93_1 ez93_1 => ?_)
          have r93_2 : rg z93_1 (-1) 279999 := rg_sub ez93_1 h_x_mm_29 (show rg (1 : Int32) 1 1 from rg_l (by decide)) (by decide)
          have hi94_1 : vp_in x_mm_32 n18_2 := (in_of (show 0 ≤ x_mm_32.toInt ∧ x_mm_32.toInt < ((n18_2 : Nat) : Int) by have q0 := (eq_len ez8_1 (show (0 : Int) ≤ ((WL : Nat) : Int) ∧ ((WL : Nat) : Int) ≤ 80000 from ⟨Int.natCast_nonneg _, FF.out hq0⟩) (by decide)); have q1 := (eq_mull ez17_1 (show rg (2 : Int32) 2 2 from rg_l (by decide)) h_x_mm_32 (by decide)); have q2 := FF.out hq1; have q3 := FF.out t9_2; have q4 := FF.out en18_2; omega))
          refine va_iast hx hb hK hP hD hS 3 1 rfl rfl hi94_1 dX16_goesTo_94 (fun H locs hP hD hS => ?_)
          have hP : va_P D vwCl [(mm, .inr (16, m77_1)), (uwa, .inl (ct 1, WL, .inl g_uwa)), (uww, .inl (ct 1, WL, .inl g_uww)), (q18_1, .inl (ct 1, n18_2, .inl (upd j33_cq18_1 x_mm_32.toNatClampNeg z93_1))), (q27_1, .inl (ct 1, n18_2, .inl j33_cq27_1))] _ := hP
          have hD : va_D A [(mm, .inr (16, m77_1)), (uwa, .inl (ct 1, WL, .inl g_uwa)), (uww, .inl (ct 1, WL, .inl g_uww)), (q18_1, .inl (ct 1, n18_2, .inl (upd j33_cq18_1 x_mm_32.toNatClampNeg z93_1))), (q27_1, .inl (ct 1, n18_2, .inl j33_cq27_1))] := hD
          obtain ⟨f94_2, ef94_2⟩ : ∃ z, z = (upd j33_cq18_1 x_mm_32.toNatClampNeg z93_1) := ⟨_, rfl⟩
          rw [← ef94_2] at hP hD
          refine lv_aload_n hx hb dX16_goesTo_95 rfl (lv_at hl 0 rfl) ?_
          refine va_get (D := D) (ci := 16) (v := .ref q27_1) (C := RX16) (T := TX16) (N := 78) hx hb (htX16 hn) (fun _ h => h) hown hK hP 0 rfl rfl 31 (by decide) (hn.get mw_1570 rfl) (fun _ h9 => h9) hfm77_1_31 dX16_goesTo_96 ?_
          refine lv_aload_n hx hb dX16_goesTo_99 rfl (lv_at hl 0 rfl) ?_
          refine va_get (D := D) (ci := 16) (v := .int x_mm_32) (C := RX16) (T := TX16) (N := 78) hx hb (htX16 hn) (fun _ h => h) hown hK hP 0 rfl rfl 32 (by decide) (hn.get mw_1571 rfl) (fun _ h9 => h9) hfm77_1_32 dX16_goesTo_100 ?_
          refine lv_iload_n hx hb dX16_goesTo_103 rfl (lv_at hl 1 rfl) ?_
          have hi104_1 : vp_in x_mm_32 n18_2 := (in_of (show 0 ≤ x_mm_32.toInt ∧ x_mm_32.toInt < ((n18_2 : Nat) : Int) by have q0 := (eq_len ez8_1 (show (0 : Int) ≤ ((WL : Nat) : Int) ∧ ((WL : Nat) : Int) ≤ 80000 from ⟨Int.natCast_nonneg _, FF.out hq0⟩) (by decide)); have q1 := (eq_mull ez17_1 (show rg (2 : Int32) 2 2 from rg_l (by decide)) h_x_mm_32 (by decide)); have q2 := FF.out hq1; have q3 := FF.out t9_2; have q4 := FF.out en18_2; omega))
          refine va_iast hx hb hK hP hD hS 4 1 rfl rfl hi104_1 dX16_goesTo_104 (fun H locs hP hD hS => ?_)
          have hP : va_P D vwCl [(mm, .inr (16, m77_1)), (uwa, .inl (ct 1, WL, .inl g_uwa)), (uww, .inl (ct 1, WL, .inl g_uww)), (q18_1, .inl (ct 1, n18_2, .inl f94_2)), (q27_1, .inl (ct 1, n18_2, .inl (upd j33_cq27_1 x_mm_32.toNatClampNeg v0)))] _ := hP
          have hD : va_D A [(mm, .inr (16, m77_1)), (uwa, .inl (ct 1, WL, .inl g_uwa)), (uww, .inl (ct 1, WL, .inl g_uww)), (q18_1, .inl (ct 1, n18_2, .inl f94_2)), (q27_1, .inl (ct 1, n18_2, .inl (upd j33_cq27_1 x_mm_32.toNatClampNeg v0)))] := hD
          obtain ⟨f104_2, ef104_2⟩ : ∃ z, z = (upd j33_cq27_1 x_mm_32.toNatClampNeg v0) := ⟨_, rfl⟩
          rw [← ef104_2] at hP hD
          have hW105_1 : WK f94_2 f104_2 (x_mm_32.toInt + 1) x_mm_29.toInt x_mm_15.toInt := WK.push hg0 (IW.mono hg33_1002 (show x_mm_32.toInt ≤ j33_l4.toInt by have q0 := FF.out t39_2; omega)) (IW.mono hg33_1003 (show x_mm_32.toInt ≤ j33_l4.toInt by have q0 := FF.out t39_2; omega)) ef94_2 ef104_2 (show x_mm_32.toInt = x_mm_32.toInt by omega) (show x_mm_32.toInt = x_mm_32.toInt by omega) (show 0 ≤ x_mm_32.toInt by have q0 := (eq_len ez8_1 (show (0 : Int) ≤ ((WL : Nat) : Int) ∧ ((WL : Nat) : Int) ≤ 80000 from ⟨Int.natCast_nonneg _, FF.out hq0⟩) (by decide)); have q1 := FF.out hq1; have q2 := FF.out t9_2; omega) rfl (show 0 ≤ z93_1.toInt ∧ z93_1.toInt < x_mm_29.toInt by have q0 := (eq_sub ez93_1 h_x_mm_29 (show rg (1 : Int32) 1 1 from rg_l (by decide)) (by decide)); have q1 := FF.out hq5; have q2 := (show (1 : Int32).toInt = 1 from by decide); omega) (show -2 ≤ v0.toInt ∧ v0.toInt < x_mm_15.toInt by have q0 := FF.out hq6; have q1 := FF.out hq7; omega)
          refine lv_aload_n hx hb dX16_goesTo_105 rfl (lv_at hl 0 rfl) ?_
          refine lv_dup hx hb dX16_goesTo_106 rfl ?_
          refine va_get (D := D) (ci := 16) (v := .int x_mm_32) (C := RX16) (T := TX16) (N := 78) hx hb (htX16 hn) (fun _ h => h) hown hK hP 0 rfl rfl 32 (by decide) (hn.get mw_1571 rfl) (fun _ h9 => h9) hfm77_1_32 dX16_goesTo_107 ?_
          refine lv_iconst (v := 1) hx hb dX16_goesTo_110 (by decide) ?_
          refine lv_iadd hx hb dX16_goesTo_111 ?_
          refine lv_topi (fun z111_1 ez111_1 => ?_)
          have r111_2 : rg z111_1 1 40000 := rg_add ez111_1 h_x_mm_32 (show rg (1 : Int32) 1 1 from rg_l (by decide)) (by decide)
          refine va_put (D := D) (ci := 16) (v := .int z111_1) (ty := .int) (C := RX16) (T := TX16) (N := 78) hx hb (htX16 hn) (fun _ h => h) tyX16 tyX16_ok nmX16 hown hK hP hD hS 0 rfl rfl 32 (by decide) (hn.get mw_1571 rfl) (fun _ h9 => h9) rfl (by decide +kernel) rfl rfl (by rw [hsm77_1.1, hlen_mm]; decide) dX16_goesTo_112 (fun H locs hP hD hS => ?_)
          have hP : va_P D vwCl [(mm, .inr (16, (m77_1.set 32 (.int z111_1)))), (uwa, .inl (ct 1, WL, .inl g_uwa)), (uww, .inl (ct 1, WL, .inl g_uww)), (q18_1, .inl (ct 1, n18_2, .inl f94_2)), (q27_1, .inl (ct 1, n18_2, .inl f104_2))] _ := hP
          have hD : va_D A [(mm, .inr (16, (m77_1.set 32 (.int z111_1)))), (uwa, .inl (ct 1, WL, .inl g_uwa)), (uww, .inl (ct 1, WL, .inl g_uww)), (q18_1, .inl (ct 1, n18_2, .inl f94_2)), (q27_1, .inl (ct 1, n18_2, .inl f104_2))] := hD
          obtain ⟨m112_1, em112_1⟩ : ∃ z, z = (m77_1.set 32 (.int z111_1)) := ⟨_, rfl⟩
          rw [← em112_1] at hP hD
          have hsm112_1 : SB fs_mm m112_1 [30, 31, 32] := by rw [em112_1]; exact SB.set hsm77_1 (by decide)
          have hfm112_1_30 : m112_1[30]? = some (.ref q18_1) := by rw [em112_1]; exact fs_ne (by decide) hfm77_1_30
          have hfm112_1_31 : m112_1[31]? = some (.ref q27_1) := by rw [em112_1]; exact fs_ne (by decide) hfm77_1_31
          have hfm112_1_32 : m112_1[32]? = some (.int z111_1) := by rw [em112_1]; exact fs_eq (by rw [hsm77_1.1, hlen_mm]; decide)
          have hP : va_P D vwCl [(mm, .inr (16, m112_1)), (uwa, .inl (ct 1, WL, .inl g_uwa)), (uww, .inl (ct 1, WL, .inl g_uww)), (q18_1, .inl (ct 1, n18_2, .inl f94_2)), (q27_1, .inl (ct 1, n18_2, .inl f104_2))] _ := hP
          have hD : va_D A [(mm, .inr (16, m112_1)), (uwa, .inl (ct 1, WL, .inl g_uwa)), (uww, .inl (ct 1, WL, .inl g_uww)), (q18_1, .inl (ct 1, n18_2, .inl f94_2)), (q27_1, .inl (ct 1, n18_2, .inl f104_2))] := hD
          exact et_v (SX := Unit) (pl1 := fun _ => []) hQ hx hb hr hlocks dX16_goesTo_115 (m112_1, q18_1, q27_1, z111_1, f94_2, n18_2, f104_2, c27_3, k27_4) ⟨hsm112_1, hfm112_1_30, hfm112_1_31, r111_2, hfm112_1_32, (show z111_1.toInt = x_mm_32.toInt + 1 by have q0 := (eq_add ez111_1 h_x_mm_32 (show rg (1 : Int32) 1 1 from rg_l (by decide)) (by decide)); have q1 := (show (1 : Int32).toInt = 1 from by decide); omega), (show z111_1.toInt ≤ ((n18_2 : Nat) : Int) by have q0 := (eq_add ez111_1 h_x_mm_32 (show rg (1 : Int32) 1 1 from rg_l (by decide)) (by decide)); have q1 := (eq_len ez8_1 (show (0 : Int) ≤ ((WL : Nat) : Int) ∧ ((WL : Nat) : Int) ≤ 80000 from ⟨Int.natCast_nonneg _, FF.out hq0⟩) (by decide)); have q2 := (eq_mull ez17_1 (show rg (2 : Int32) 2 2 from rg_l (by decide)) h_x_mm_32 (by decide)); have q3 := FF.out hq1; have q4 := FF.out t9_2; have q5 := FF.out en18_2; have q6 := (show (1 : Int32).toInt = 1 from by decide); omega), (show ((WL : Nat) : Int) ≤ ((n18_2 : Nat) : Int) by have q0 := (eq_mull ez17_1 (show rg (2 : Int32) 2 2 from rg_l (by decide)) h_x_mm_32 (by decide)); have q1 := (eq_len ez8_1 (show (0 : Int) ≤ ((WL : Nat) : Int) ∧ ((WL : Nat) : Int) ≤ 80000 from ⟨Int.natCast_nonneg _, FF.out hq0⟩) (by decide)); have q2 := FF.out hq1; have q3 := FF.out t9_2; have q4 := FF.out en18_2; omega), (show ((n18_2 : Nat) : Int) ≤ 80000 by have q0 := r17_2.2; have q1 := FF.out en18_2; omega), (show 64 * ((c27_3 : Nat) : Int) + 2 * ((WL : Nat) : Int) ≤ 2 * ((n18_2 : Nat) : Int) by have q0 := (eq_mull ez17_1 (show rg (2 : Int32) 2 2 from rg_l (by decide)) h_x_mm_32 (by decide)); have q1 := (eq_len ez8_1 (show (0 : Int) ≤ ((WL : Nat) : Int) ∧ ((WL : Nat) : Int) ≤ 80000 from ⟨Int.natCast_nonneg _, FF.out hq0⟩) (by decide)); have q2 := FF.out hq1; have q3 := FF.out t9_2; have q4 := FF.out en18_2; have q5 := FF.out ec18_3; have q6 := FF.out ec27_3; omega), (show ((k27_4 : Nat) : Int) = 4 * (((n18_2 : Nat) : Int) - ((WL : Nat) : Int)) by have q0 := (eq_mull ez17_1 (show rg (2 : Int32) 2 2 from rg_l (by decide)) h_x_mm_32 (by decide)); have q1 := (eq_len ez8_1 (show (0 : Int) ≤ ((WL : Nat) : Int) ∧ ((WL : Nat) : Int) ≤ 80000 from ⟨Int.natCast_nonneg _, FF.out hq0⟩) (by decide)); have q2 := FF.out hq2; have q3 := FF.out t9_2; have q4 := FF.out en18_2; have q5 := FF.out ek18_4; have q6 := FF.out ek27_4; omega), (((show (x_mm_32.toInt + 1) = z111_1.toInt by have q0 := (eq_add ez111_1 h_x_mm_32 (show rg (1 : Int32) 1 1 from rg_l (by decide)) (by decide)); have q1 := (show (1 : Int32).toInt = 1 from by decide); omega) : (x_mm_32.toInt + 1) = z111_1.toInt) ▸ hW105_1)⟩ (by rw [List.append_nil]; exact hP) (by rw [List.append_nil]; exact hD) hS [0, 3, 4] (by decide) rfl (Nat.le_refl _) (Nat.le_refl _) (FF.out mc27_3) (FF.out mk27_4)
        · have t39_2 := FF.mk (i_nle c39_1)
          have r39_3 : rg j33_l4 0 39998 := rg_ltA t39_2 r33_1001 h_x_mm_32 (by decide)
          have r39_4 : rg x_mm_32 1 39999 := rg_ltB t39_2 r33_1001 h_x_mm_32 (by decide)
          refine lv_aload_n hx hb dX16_goesTo_42 rfl (lv_at hl 2 rfl) ?_
          refine lv_iload hx hb dX16_goesTo_43 (lv_at hl 4 rfl) ?_
          refine lv_aload_n hx hb dX16_goesTo_45 rfl (lv_at hl 0 rfl) ?_
          refine va_get (D := D) (ci := 16) (v := .ref uwa) (C := RX16) (T := TX16) (N := 78) hx hb (htX16 hn) (fun _ h => h) hown hK hP 0 rfl rfl 30 (by decide) (hn.get mw_1569 rfl) (fun _ h9 => h9) hf_mm_30 dX16_goesTo_46 ?_
          refine lv_iload hx hb dX16_goesTo_49 (lv_at hl 4 rfl) ?_
          have hi51_1 : vp_in j33_l4 WL := (in_of (show 0 ≤ j33_l4.toInt ∧ j33_l4.toInt < ((WL : Nat) : Int) by have q0 := r39_3.1; have q1 := FF.out hq2; have q2 := FF.out t39_2; omega))
          refine va_iald hx hb hK hP 1 1 rfl rfl hi51_1 dX16_goesTo_51 ?_
          refine lv_topi (fun z51_2 ez51_2 => ?_)
          have hi52_1 : vp_in j33_l4 n18_2 := (in_of (show 0 ≤ j33_l4.toInt ∧ j33_l4.toInt < ((n18_2 : Nat) : Int) by have q0 := r39_3.1; have q1 := (eq_len ez8_1 (show (0 : Int) ≤ ((WL : Nat) : Int) ∧ ((WL : Nat) : Int) ≤ 80000 from ⟨Int.natCast_nonneg _, FF.out hq0⟩) (by decide)); have q2 := (eq_mull ez17_1 (show rg (2 : Int32) 2 2 from rg_l (by decide)) h_x_mm_32 (by decide)); have q3 := FF.out hq1; have q4 := FF.out t9_2; have q5 := FF.out en18_2; have q6 := FF.out t39_2; omega))
          refine va_iast hx hb hK hP hD hS 3 1 rfl rfl hi52_1 dX16_goesTo_52 (fun H locs hP hD hS => ?_)
          have hP : va_P D vwCl [(mm, .inr (16, fs_mm)), (uwa, .inl (ct 1, WL, .inl g_uwa)), (uww, .inl (ct 1, WL, .inl g_uww)), (q18_1, .inl (ct 1, n18_2, .inl (upd j33_cq18_1 j33_l4.toNatClampNeg z51_2))), (q27_1, .inl (ct 1, n18_2, .inl j33_cq27_1))] _ := hP
          have hD : va_D A [(mm, .inr (16, fs_mm)), (uwa, .inl (ct 1, WL, .inl g_uwa)), (uww, .inl (ct 1, WL, .inl g_uww)), (q18_1, .inl (ct 1, n18_2, .inl (upd j33_cq18_1 j33_l4.toNatClampNeg z51_2))), (q27_1, .inl (ct 1, n18_2, .inl j33_cq27_1))] := hD
          obtain ⟨f52_2, ef52_2⟩ : ∃ z, z = (upd j33_cq18_1 j33_l4.toNatClampNeg z51_2) := ⟨_, rfl⟩
          rw [← ef52_2] at hP hD
          refine lv_aload_n hx hb dX16_goesTo_53 rfl (lv_at hl 3 rfl) ?_
          refine lv_iload hx hb dX16_goesTo_54 (lv_at hl 4 rfl) ?_
          refine lv_aload_n hx hb dX16_goesTo_56 rfl (lv_at hl 0 rfl) ?_
          refine va_get (D := D) (ci := 16) (v := .ref uww) (C := RX16) (T := TX16) (N := 78) hx hb (htX16 hn) (fun _ h => h) hown hK hP 0 rfl rfl 31 (by decide) (hn.get mw_1570 rfl) (fun _ h9 => h9) hf_mm_31 dX16_goesTo_57 ?_
          refine lv_iload hx hb dX16_goesTo_60 (lv_at hl 4 rfl) ?_
          have hi62_1 : vp_in j33_l4 WL := (in_of (show 0 ≤ j33_l4.toInt ∧ j33_l4.toInt < ((WL : Nat) : Int) by have q0 := r39_3.1; have q1 := FF.out hq2; have q2 := FF.out t39_2; omega))
          refine va_iald hx hb hK hP 2 1 rfl rfl hi62_1 dX16_goesTo_62 ?_
          refine lv_topi (fun z62_2 ez62_2 => ?_)
          have hi63_1 : vp_in j33_l4 n18_2 := (in_of (show 0 ≤ j33_l4.toInt ∧ j33_l4.toInt < ((n18_2 : Nat) : Int) by have q0 := r39_3.1; have q1 := (eq_len ez8_1 (show (0 : Int) ≤ ((WL : Nat) : Int) ∧ ((WL : Nat) : Int) ≤ 80000 from ⟨Int.natCast_nonneg _, FF.out hq0⟩) (by decide)); have q2 := (eq_mull ez17_1 (show rg (2 : Int32) 2 2 from rg_l (by decide)) h_x_mm_32 (by decide)); have q3 := FF.out hq1; have q4 := FF.out t9_2; have q5 := FF.out en18_2; have q6 := FF.out t39_2; omega))
          refine va_iast hx hb hK hP hD hS 4 1 rfl rfl hi63_1 dX16_goesTo_63 (fun H locs hP hD hS => ?_)
          have hP : va_P D vwCl [(mm, .inr (16, fs_mm)), (uwa, .inl (ct 1, WL, .inl g_uwa)), (uww, .inl (ct 1, WL, .inl g_uww)), (q18_1, .inl (ct 1, n18_2, .inl f52_2)), (q27_1, .inl (ct 1, n18_2, .inl (upd j33_cq27_1 j33_l4.toNatClampNeg z62_2)))] _ := hP
          have hD : va_D A [(mm, .inr (16, fs_mm)), (uwa, .inl (ct 1, WL, .inl g_uwa)), (uww, .inl (ct 1, WL, .inl g_uww)), (q18_1, .inl (ct 1, n18_2, .inl f52_2)), (q27_1, .inl (ct 1, n18_2, .inl (upd j33_cq27_1 j33_l4.toNatClampNeg z62_2)))] := hD
          obtain ⟨f63_2, ef63_2⟩ : ∃ z, z = (upd j33_cq27_1 j33_l4.toNatClampNeg z62_2) := ⟨_, rfl⟩
          rw [← ef63_2] at hP hD
          obtain ⟨x64_1, ex64_1⟩ : ∃ z : Int32, z = j33_l4 + 1 := ⟨_, rfl⟩
          have r64_2 : rg x64_1 1 39999 := rg_add ex64_1 r39_3 (show rg (1 : Int32) 1 1 from rg_l (by decide)) (by decide)
          refine lv_iinc (v := x64_1) (lv' := [(4, .int x64_1), (0, .ref mm), (1, .int v0), (2, .ref q18_1), (3, .ref q27_1)]) hx hb dX16_goesTo_64 hl (k := 4) rfl (by rw [ex64_1]; rfl) (by decide) rfl (fun ls hl => ?_)
          refine lv_goto (tgt := 33) hx hb dX16_goesTo_67 (by decide) ?_
          exact ih33 x64_1 f52_2 f63_2 H locs ls (rg_w r64_2 (by decide)) (IW.copy hg33_1002 ef52_2 ez51_2 (show 0 ≤ j33_l4.toInt by have q0 := r39_3.1; omega) (show x64_1.toInt = j33_l4.toInt + 1 by have q0 := (eq_add ex64_1 r39_3 (show rg (1 : Int32) 1 1 from rg_l (by decide)) (by decide)); have q1 := (show (1 : Int32).toInt = 1 from by decide); omega)) (IW.copy hg33_1003 ef63_2 ez62_2 (show 0 ≤ j33_l4.toInt by have q0 := r39_3.1; omega) (show x64_1.toInt = j33_l4.toInt + 1 by have q0 := (eq_add ex64_1 r39_3 (show rg (1 : Int32) 1 1 from rg_l (by decide)) (by decide)); have q1 := (show (1 : Int32).toInt = 1 from by decide); omega)) (show ((2147483647 : Int) - x64_1.toInt).toNat < n33 by have q0 := r39_3.2; have q1 := (eq_add ex64_1 r39_3 (show rg (1 : Int32) 1 1 from rg_l (by decide)) (by decide)); have q2 := (show (1 : Int32).toInt = 1 from by decide); have q3 := hms33; omega) (lv_sub hl [1, 2, 3, 4, 0] rfl) hP hD hS
    exact b33 _ (0 : Int32) (fun _ => 0) (fun _ => 0) H locs ls (rg_w (show rg (0 : Int32) 0 0 from rg_l (by decide)) (by decide)) (IW.zero (by decide)) (IW.zero (by decide)) (Nat.lt_succ_self _) (lv_sub hl [3, 4, 2, 1, 0] rfl) hP hD hS
set_option maxHeartbeats 2000000 in
theorem c_X16_toNo_k (l : Launch) (hst : l.stackTraces = false) (D : va_G) (ct : Nat → ClassId) (MC : Nat) (MS : Nat) (mm : Nat) (fs_mm : List Value) (x_mm_15 : Int32) (uco : Nat) (x_mm_29 : Int32) (uwa : Nat) (uww : Nat) (x_mm_32 : Int32) (g_uco : Nat → Int64) (CL : Nat) (g_uwa : Nat → Int32) (WL : Nat) (g_uww : Nat → Int32) (hlen_mm : fs_mm.length = 78) (h_x_mm_15 : rg x_mm_15 0 34000) (hf_mm_15 : fs_mm[15]? = some (.int x_mm_15)) (hf_mm_28 : fs_mm[28]? = some (.ref uco)) (h_x_mm_29 : rg x_mm_29 0 279999) (hf_mm_29 : fs_mm[29]? = some (.int x_mm_29)) (hf_mm_30 : fs_mm[30]? = some (.ref uwa)) (hf_mm_31 : fs_mm[31]? = some (.ref uww)) (h_x_mm_32 : rg x_mm_32 0 39999) (hf_mm_32 : fs_mm[32]? = some (.int x_mm_32)) (hq0 : ((CL : Nat) : Int) ≤ 560000) (hq1 : 64 ≤ ((CL : Nat) : Int)) (hq2 : x_mm_29.toInt ≤ ((CL : Nat) : Int)) (hq3 : ((WL : Nat) : Int) ≤ 80000) (hq4 : 64 ≤ ((WL : Nat) : Int)) (hq5 : x_mm_32.toInt ≤ ((WL : Nat) : Int)) (hq6 : 1440000 ≤ ((MS : Nat) : Int) + 2 * ((CL : Nat) : Int) + 4 * ((WL : Nat) : Int)) (hq7 : 721200 ≤ 64 * ((MC : Nat) : Int) + ((CL : Nat) : Int) + 2 * ((WL : Nat) : Int)) (hg0 : WK g_uwa g_uww x_mm_32.toInt x_mm_29.toInt x_mm_15.toInt) : KT (V := Unit) (S := List Value × Nat × Int32 × Nat × Nat × Int32 × (Nat → Int64) × Nat × (Nat → Int32) × Nat × (Nat → Int32) × Nat × Nat) (SX := Unit) l yX16_toNo cX16_toNo 1 none 2 48 D ct [.ref mm] [(mm, .inr (16, fs_mm)), (uco, .inl (ct 2, CL, .inr (.inl g_uco))), (uwa, .inl (ct 1, WL, .inl g_uwa)), (uww, .inl (ct 1, WL, .inl g_uww))] MC MS (fun _ : Unit => none) (fun (_ : Unit) (u : List Value × Nat × Int32 × Nat × Nat × Int32 × (Nat → Int64) × Nat × (Nat → Int32) × Nat × (Nat → Int32) × Nat × Nat) => match u with | (fs2_mm, a_mm_28, y_mm_29, a_mm_30, a_mm_31, y_mm_32, k_uco, CL2, k_uwa, WL2, k_uww, kc, kn) => SB fs_mm fs2_mm [28, 29, 30, 31, 32] ∧ fs2_mm[28]? = some (.ref a_mm_28) ∧ rg y_mm_29 1 280000 ∧ fs2_mm[29]? = some (.int y_mm_29) ∧ fs2_mm[30]? = some (.ref a_mm_30) ∧ fs2_mm[31]? = some (.ref a_mm_31) ∧ rg y_mm_32 1 40000 ∧ fs2_mm[32]? = some (.int y_mm_32) ∧ (y_mm_29.toInt = x_mm_29.toInt + 1) ∧ (y_mm_29.toInt ≤ ((CL2 : Nat) : Int)) ∧ (((CL : Nat) : Int) ≤ ((CL2 : Nat) : Int)) ∧ (((CL2 : Nat) : Int) ≤ 560000) ∧ (y_mm_32.toInt = x_mm_32.toInt + 1) ∧ (y_mm_32.toInt ≤ ((WL2 : Nat) : Int)) ∧ (((WL : Nat) : Int) ≤ ((WL2 : Nat) : Int)) ∧ (((WL2 : Nat) : Int) ≤ 80000) ∧ (64 * ((kc : Nat) : Int) + ((CL : Nat) : Int) + 2 * ((WL : Nat) : Int) ≤ ((CL2 : Nat) : Int) + 2 * ((WL2 : Nat) : Int)) ∧ (((kn : Nat) : Int) = 2 * (((CL2 : Nat) : Int) - ((CL : Nat) : Int)) + 4 * (((WL2 : Nat) : Int) - ((WL : Nat) : Int))) ∧ (ER g_uco k_uco x_mm_29.toInt y_mm_29.toInt 0) ∧ (WK k_uwa k_uww y_mm_32.toInt y_mm_29.toInt x_mm_15.toInt)) (fun (u : List Value × Nat × Int32 × Nat × Nat × Int32 × (Nat → Int64) × Nat × (Nat → Int32) × Nat × (Nat → Int32) × Nat × Nat) => match u with | (fs2_mm, a_mm_28, y_mm_29, a_mm_30, a_mm_31, y_mm_32, k_uco, CL2, k_uwa, WL2, k_uww, kc, kn) => [(mm, .inr (16, fs2_mm)), (a_mm_28, .inl (ct 2, CL2, .inr (.inl k_uco))), (a_mm_30, .inl (ct 1, WL2, .inl k_uwa)), (a_mm_31, .inl (ct 1, WL2, .inl k_uww))] ++ []) (fun (u : List Value × Nat × Int32 × Nat × Nat × Int32 × (Nat → Int64) × Nat × (Nat → Int32) × Nat × (Nat → Int32) × Nat × Nat) => match u with | (fs2_mm, a_mm_28, y_mm_29, a_mm_30, a_mm_31, y_mm_32, k_uco, CL2, k_uwa, WL2, k_uww, kc, kn) => kc) (fun (u : List Value × Nat × Int32 × Nat × Nat × Int32 × (Nat → Int64) × Nat × (Nat → Int32) × Nat × (Nat → Int32) × Nat × Nat) => match u with | (fs2_mm, a_mm_28, y_mm_29, a_mm_30, a_mm_31, y_mm_32, k_uco, CL2, k_uwa, WL2, k_uww, kc, kn) => kn) 15 RX15 peW (fun _ => False) (fun _ => []) := by
  refine KT_of (by decide) (Nat.le_of_ble_eq_true rfl) (fun p e s m below meth c A Q C0 htab hA H locs hS hP hD hQ ls hl => ?_)
  obtain ⟨hx, hb, hr, hown, hin, hml, hlocks, hn, hK, hZ, hSK⟩ := C0
  have hl : lv_has ls 1 [(0, .ref mm)] := hl
  replace hq0 := FF.mk hq0
  replace hq1 := FF.mk hq1
  replace hq2 := FF.mk hq2
  replace hq3 := FF.mk hq3
  replace hq4 := FF.mk hq4
  replace hq5 := FF.mk hq5
  replace hq6 := FF.mk hq6
  replace hq7 := FF.mk hq7
  refine lv_aload_n hx hb dX16_toNo_0 rfl (lv_at hl 0 rfl) ?_
  refine lv_iconst (v := 5) hx hb dX16_toNo_1 (by decide) ?_
  refine lv_iconst (v := 0) hx hb dX16_toNo_2 (by decide) ?_
  refine lv_iconst (v := 0) hx hb dX16_toNo_3 (by decide) ?_
  refine lv_iconst (v := 0) hx hb dX16_toNo_4 (by decide) ?_
  refine lv_lconst (v := 0) hx hb dX16_toNo_5 (by decide) ?_
  obtain ⟨m6_1, gm6_1⟩ : ∃ m9 : Nat, m9 + 0 = MC := ⟨MC - 0, Nat.sub_add_cancel (Nat.zero_le MC)⟩
  have em6_1 := FF.mk gm6_1
  obtain ⟨m6_2, gm6_2⟩ : ∃ m9 : Nat, m9 + 0 = MS := ⟨MS - 0, Nat.sub_add_cancel (Nat.zero_le MS)⟩
  have em6_2 := FF.mk gm6_2
  refine gt_q (pl := []) (wr := [(uwa, .inl (ct 1, WL, .inl g_uwa)), (uww, .inl (ct 1, WL, .inl g_uww))]) [0, 1] [2, 3] (rt_V (As := [.int 5, .int 0, .int 0, .int 0, .long 0]) (rest := []) (c_X16_emit_k l hst D ct m6_1 m6_2 mm (5 : Int32) (0 : Int32) (0 : Int32) (0 : Int32) (0 : Int64) fs_mm uco x_mm_29 g_uco CL hlen_mm hf_mm_28 h_x_mm_29 hf_mm_29 (show ((CL : Nat) : Int) ≤ 560000 by have q0 := FF.out hq0; omega) (show 64 ≤ ((CL : Nat) : Int) by have q0 := FF.out hq1; omega) (show x_mm_29.toInt ≤ ((CL : Nat) : Int) by have q0 := FF.out hq2; omega) (show 1120000 ≤ ((m6_2 : Nat) : Int) + 2 * ((CL : Nat) : Int) by have q0 := FF.out hq3; have q1 := FF.out hq6; have q2 := FF.out em6_2; omega) (show 560064 ≤ 64 * ((m6_1 : Nat) : Int) + ((CL : Nat) : Int) by have q0 := FF.out hq3; have q1 := FF.out hq7; have q2 := FF.out em6_1; omega) _) (cb_of (n := 5) hn mw_2250 mw_13 mw_2247 mhX16_emit ⟨(Nat.le_of_ble_eq_true rfl), (Nat.le_of_ble_eq_true rfl)⟩) hx hb hml hown hn hK hSK hZ hS mw_2249 mw_s211 (ci := 16) (q0 := 0) rfl rfl rfl rfl hl.1 (Nat.le_of_ble_eq_true rfl) dX16_toNo_6 ⟨(Nat.le_of_eq ((Nat.add_comm _ _).trans gm6_1)), (Nat.le_of_eq ((Nat.add_comm _ _).trans gm6_2))⟩) (by rw [List.append_nil]; exact hP) (by rw [List.append_nil]; exact hD) hS hA rfl rfl (by decide) (by decide) (by decide) (fun xq6_6 ux6_7 xfs6_8 H locs hpx6_9 hpexfs6_8 hP hD hS => ?_) (fun r6_3 u6_4 H locs hp6_5 hP hD hS => ?_)
  · exact hpx6_9.elim
  obtain ⟨fs2_mm6_310, a_mm_286_311, y_mm_296_312, k_uco6_313, CL26_314, kc6_315, kn6_316⟩ := u6_4
  obtain ⟨hp6_317, hp6_318, hp6_319, hp6_320, hp6_321, hp6_322, hp6_323, hp6_324, hp6_325, hp6_326, hp6_327, hp6_328⟩ := hp6_5
  have hs6_329 : SB fs_mm fs2_mm6_310 [28, 29, 30, 31, 32] := SB.trans (SB.rf _ _) hp6_317 (by decide)
  have hf6_330 : fs2_mm6_310[30]? = some (.ref uwa) := SB.get hp6_317 (by decide) hf_mm_30
  have hf6_331 : fs2_mm6_310[31]? = some (.ref uww) := SB.get hp6_317 (by decide) hf_mm_31
  have hf6_332 : fs2_mm6_310[32]? = some (.int x_mm_32) := SB.get hp6_317 (by decide) hf_mm_32
  have hp6_319 : rg y_mm_296_312 1 280000 := hp6_319
  replace hp6_321 : FF (y_mm_296_312.toInt = x_mm_29.toInt + 1) := hp6_321
  replace hp6_322 : FF (y_mm_296_312.toInt ≤ ((CL26_314 : Nat) : Int)) := hp6_322
  replace hp6_323 : FF (((CL : Nat) : Int) ≤ ((CL26_314 : Nat) : Int)) := hp6_323
  replace hp6_324 : FF (((CL26_314 : Nat) : Int) ≤ 560000) := hp6_324
  replace hp6_325 : FF (64 * ((kc6_315 : Nat) : Int) + ((CL : Nat) : Int) ≤ ((CL26_314 : Nat) : Int)) := hp6_325
  replace hp6_326 : FF (((kn6_316 : Nat) : Int) = 2 * (((CL26_314 : Nat) : Int) - ((CL : Nat) : Int))) := hp6_326
  have hp6_327 : (5 : Int32).toInt % 256 ≠ 32 ∧ (5 : Int32).toInt % 256 ≠ 64 → ER g_uco k_uco6_313 x_mm_29.toInt y_mm_296_312.toInt 0 := hp6_327
  have hp6_328 : ER g_uco k_uco6_313 x_mm_29.toInt y_mm_296_312.toInt 1 := hp6_328
  obtain ⟨c6_333, ec6_333⟩ : ∃ x9 : Nat, x9 = 0 + kc6_315 := ⟨_, rfl⟩
  have ec6_333 := FF.mk ec6_333
  have mc6_333 : FF (c6_333 ≤ MC) := FF.mk (Int.ofNat_le.mp (show ((c6_333 : Nat) : Int) ≤ ((MC : Nat) : Int) by have q0 := FF.out hq3; have q1 := FF.out hq7; have q2 := FF.out hp6_324; have q3 := FF.out hp6_325; have q4 := FF.out ec6_333; omega))
  obtain ⟨k6_334, ek6_334⟩ : ∃ x9 : Nat, x9 = 0 + kn6_316 := ⟨_, rfl⟩
  have ek6_334 := FF.mk ek6_334
  have mk6_334 : FF (k6_334 ≤ MS) := FF.mk (Int.ofNat_le.mp (show ((k6_334 : Nat) : Int) ≤ ((MS : Nat) : Int) by have q0 := FF.out hq3; have q1 := FF.out hq6; have q2 := FF.out hp6_324; have q3 := FF.out hp6_326; have q4 := FF.out ek6_334; omega))
  rw [List.append_nil] at hP hD
  have hP : va_P D vwCl [(uwa, .inl (ct 1, WL, .inl g_uwa)), (uww, .inl (ct 1, WL, .inl g_uww)), (mm, .inr (16, fs2_mm6_310)), (a_mm_286_311, .inl (ct 2, CL26_314, .inr (.inl k_uco6_313)))] _ := hP
  have hD : va_D A [(uwa, .inl (ct 1, WL, .inl g_uwa)), (uww, .inl (ct 1, WL, .inl g_uww)), (mm, .inr (16, fs2_mm6_310)), (a_mm_286_311, .inl (ct 2, CL26_314, .inr (.inl k_uco6_313)))] := hD
  refine W.widen (k := c6_333) (n := k6_334) (Nat.le_of_eq (FF.out ec6_333).symm) (Nat.le_of_eq (FF.out ek6_334).symm) (W.eq (g2 := F0 m 9 ls []) rfl ?_)
  refine lv_aload_n hx hb dX16_toNo_9 rfl (lv_at hl 0 rfl) ?_
  refine lv_bipush (v := (-2)) hx hb dX16_toNo_10 (by decide) ?_
  obtain ⟨m12_1, gm12_1⟩ : ∃ m9 : Nat, m9 + c6_333 = MC := ⟨MC - c6_333, Nat.sub_add_cancel (FF.out mc6_333)⟩
  have em12_1 := FF.mk gm12_1
  obtain ⟨m12_2, gm12_2⟩ : ∃ m9 : Nat, m9 + k6_334 = MS := ⟨MS - k6_334, Nat.sub_add_cancel (FF.out mk6_334)⟩
  have em12_2 := FF.mk gm12_2
  refine gt_q (pl := []) (wr := [(a_mm_286_311, .inl (ct 2, CL26_314, .inr (.inl k_uco6_313)))]) [2, 0, 1] [3] (rt_V (As := [.int (-2)]) (rest := []) (c_X16_goesTo_k l hst D ct m12_1 m12_2 mm ((-2) : Int32) fs2_mm6_310 x_mm_15 y_mm_296_312 uwa uww x_mm_32 g_uwa WL g_uww (hs6_329.1.trans hlen_mm) h_x_mm_15 (SB.get hs6_329 (by decide) hf_mm_15) (rg_w hp6_319 (by decide)) hp6_320 hf6_330 hf6_331 h_x_mm_32 hf6_332 (show ((WL : Nat) : Int) ≤ 80000 by have q0 := FF.out hq3; omega) (show 64 ≤ ((WL : Nat) : Int) by have q0 := FF.out hq4; omega) (show x_mm_32.toInt ≤ ((WL : Nat) : Int) by have q0 := FF.out hq5; omega) (show 320000 ≤ ((m12_2 : Nat) : Int) + 4 * ((WL : Nat) : Int) by have q0 := FF.out hq6; have q1 := FF.out hp6_324; have q2 := FF.out hp6_326; have q3 := FF.out ek6_334; have q4 := FF.out em12_2; omega) (show 161000 ≤ 64 * ((m12_1 : Nat) : Int) + 2 * ((WL : Nat) : Int) by have q0 := FF.out hq7; have q1 := FF.out hp6_324; have q2 := FF.out hp6_325; have q3 := FF.out ec6_333; have q4 := FF.out em12_1; omega) (show 1 ≤ y_mm_296_312.toInt by have q0 := hp6_319.1; omega) (show -2 ≤ (-2 : Int32).toInt by have q0 := (show (-2 : Int32).toInt = -2 from by decide); omega) (show (-2 : Int32).toInt < x_mm_15.toInt by have q0 := h_x_mm_15.1; have q1 := (show (-2 : Int32).toInt = -2 from by decide); omega) (WK.mono hg0 (show x_mm_29.toInt ≤ y_mm_296_312.toInt by have q0 := FF.out hp6_321; omega)) _) (cb_of (n := 1) hn mw_2292 mw_13 mw_2289 mhX16_goesTo ⟨(Nat.le_of_ble_eq_true rfl), (Nat.le_of_ble_eq_true rfl)⟩) hx hb hml hown hn hK hSK hZ hS mw_2291 mw_s220 (ci := 16) (q0 := 0) rfl rfl rfl rfl hl.1 (Nat.le_of_ble_eq_true rfl) dX16_toNo_12 ⟨(Nat.le_of_eq ((Nat.add_comm _ _).trans gm12_1)), (Nat.le_of_eq ((Nat.add_comm _ _).trans gm12_2))⟩) (by rw [List.append_nil]; exact hP) (by rw [List.append_nil]; exact hD) hS hA rfl rfl (by decide) (by decide) (by decide) (fun xq12_6 ux12_7 xfs12_8 H locs hpx12_9 hpexfs12_8 hP hD hS => ?_) (fun r12_3 u12_4 H locs hp12_5 hP hD hS => ?_)
  · exact hpx12_9.elim
  obtain ⟨fs2_mm12_310, a_mm_3012_311, a_mm_3112_312, y_mm_3212_313, k_uwa12_314, WL212_315, k_uww12_316, kc12_317, kn12_318⟩ := u12_4
  obtain ⟨hp12_319, hp12_320, hp12_321, hp12_322, hp12_323, hp12_324, hp12_325, hp12_326, hp12_327, hp12_328, hp12_329, hp12_330⟩ := hp12_5
  have hs12_331 : SB fs_mm fs2_mm12_310 [28, 29, 30, 31, 32] := SB.trans hs6_329 hp12_319 (by decide)
  have hf12_332 : fs2_mm12_310[28]? = some (.ref a_mm_286_311) := SB.get hp12_319 (by decide) hp6_318
  have hf12_333 : fs2_mm12_310[29]? = some (.int y_mm_296_312) := SB.get hp12_319 (by decide) hp6_320
  have hp12_322 : rg y_mm_3212_313 1 40000 := hp12_322
  replace hp12_324 : FF (y_mm_3212_313.toInt = x_mm_32.toInt + 1) := hp12_324
  replace hp12_325 : FF (y_mm_3212_313.toInt ≤ ((WL212_315 : Nat) : Int)) := hp12_325
  replace hp12_326 : FF (((WL : Nat) : Int) ≤ ((WL212_315 : Nat) : Int)) := hp12_326
  replace hp12_327 : FF (((WL212_315 : Nat) : Int) ≤ 80000) := hp12_327
  replace hp12_328 : FF (64 * ((kc12_317 : Nat) : Int) + 2 * ((WL : Nat) : Int) ≤ 2 * ((WL212_315 : Nat) : Int)) := hp12_328
  replace hp12_329 : FF (((kn12_318 : Nat) : Int) = 4 * (((WL212_315 : Nat) : Int) - ((WL : Nat) : Int))) := hp12_329
  have hp12_330 : WK k_uwa12_314 k_uww12_316 y_mm_3212_313.toInt y_mm_296_312.toInt x_mm_15.toInt := hp12_330
  obtain ⟨c12_334, ec12_334⟩ : ∃ x9 : Nat, x9 = c6_333 + kc12_317 := ⟨_, rfl⟩
  have ec12_334 := FF.mk ec12_334
  have mc12_334 : FF (c12_334 ≤ MC) := FF.mk (Int.ofNat_le.mp (show ((c12_334 : Nat) : Int) ≤ ((MC : Nat) : Int) by have q0 := FF.out hq7; have q1 := FF.out hp6_324; have q2 := FF.out hp6_325; have q3 := FF.out ec6_333; have q4 := FF.out hp12_327; have q5 := FF.out hp12_328; have q6 := FF.out ec12_334; omega))
  obtain ⟨k12_335, ek12_335⟩ : ∃ x9 : Nat, x9 = k6_334 + kn12_318 := ⟨_, rfl⟩
  have ek12_335 := FF.mk ek12_335
  have mk12_335 : FF (k12_335 ≤ MS) := FF.mk (Int.ofNat_le.mp (show ((k12_335 : Nat) : Int) ≤ ((MS : Nat) : Int) by have q0 := FF.out hq6; have q1 := FF.out hp6_324; have q2 := FF.out hp6_326; have q3 := FF.out ek6_334; have q4 := FF.out hp12_327; have q5 := FF.out hp12_329; have q6 := FF.out ek12_335; omega))
  rw [List.append_nil] at hP hD
  have hP : va_P D vwCl [(a_mm_286_311, .inl (ct 2, CL26_314, .inr (.inl k_uco6_313))), (mm, .inr (16, fs2_mm12_310)), (a_mm_3012_311, .inl (ct 1, WL212_315, .inl k_uwa12_314)), (a_mm_3112_312, .inl (ct 1, WL212_315, .inl k_uww12_316))] _ := hP
  have hD : va_D A [(a_mm_286_311, .inl (ct 2, CL26_314, .inr (.inl k_uco6_313))), (mm, .inr (16, fs2_mm12_310)), (a_mm_3012_311, .inl (ct 1, WL212_315, .inl k_uwa12_314)), (a_mm_3112_312, .inl (ct 1, WL212_315, .inl k_uww12_316))] := hD
  refine W.widen (k := c12_334) (n := k12_335) (Nat.le_of_eq (FF.out ec12_334).symm) (Nat.le_of_eq (FF.out ek12_335).symm) (W.eq (g2 := F0 m 15 ls []) rfl ?_)
  exact et_v (SX := Unit) (pl1 := fun _ => []) hQ hx hb hr hlocks dX16_toNo_15 (fs2_mm12_310, a_mm_286_311, y_mm_296_312, a_mm_3012_311, a_mm_3112_312, y_mm_3212_313, k_uco6_313, CL26_314, k_uwa12_314, WL212_315, k_uww12_316, c12_334, k12_335) ⟨hs12_331, hf12_332, hp6_319, hf12_333, hp12_320, hp12_321, hp12_322, hp12_323, (show y_mm_296_312.toInt = x_mm_29.toInt + 1 by have q0 := FF.out hp6_321; omega), (show y_mm_296_312.toInt ≤ ((CL26_314 : Nat) : Int) by have q0 := FF.out hp6_322; omega), (show ((CL : Nat) : Int) ≤ ((CL26_314 : Nat) : Int) by have q0 := FF.out hp6_323; omega), (show ((CL26_314 : Nat) : Int) ≤ 560000 by have q0 := FF.out hp6_324; omega), (show y_mm_3212_313.toInt = x_mm_32.toInt + 1 by have q0 := FF.out hp12_324; omega), (show y_mm_3212_313.toInt ≤ ((WL212_315 : Nat) : Int) by have q0 := FF.out hp12_325; omega), (show ((WL : Nat) : Int) ≤ ((WL212_315 : Nat) : Int) by have q0 := FF.out hp12_326; omega), (show ((WL212_315 : Nat) : Int) ≤ 80000 by have q0 := FF.out hp12_327; omega), (show 64 * ((c12_334 : Nat) : Int) + ((CL : Nat) : Int) + 2 * ((WL : Nat) : Int) ≤ ((CL26_314 : Nat) : Int) + 2 * ((WL212_315 : Nat) : Int) by have q0 := FF.out hp6_325; have q1 := FF.out ec6_333; have q2 := FF.out hp12_328; have q3 := FF.out ec12_334; omega), (show ((k12_335 : Nat) : Int) = 2 * (((CL26_314 : Nat) : Int) - ((CL : Nat) : Int)) + 4 * (((WL212_315 : Nat) : Int) - ((WL : Nat) : Int)) by have q0 := FF.out hp6_326; have q1 := FF.out ek6_334; have q2 := FF.out hp12_329; have q3 := FF.out ek12_335; omega), (hp6_327 (show (5 : Int32).toInt % 256 ≠ 32 ∧ (5 : Int32).toInt % 256 ≠ 64 by have q0 := (show (5 : Int32).toInt = 5 from by decide); omega)), hp12_330⟩ (by rw [List.append_nil]; exact hP) (by rw [List.append_nil]; exact hD) hS [1, 0, 2, 3] (by decide) rfl (Nat.le_refl _) (Nat.le_refl _) (FF.out mc12_334) (FF.out mk12_335)
set_option maxHeartbeats 2000000 in
theorem c_X16_keep_k (l : Launch) (hst : l.stackTraces = false) (D : va_G) (ct : Nat → ClassId) (MC : Nat) (MS : Nat) (mm : Nat) (v0 : Int32) (fs_mm : List Value) (uco : Nat) (x_mm_29 : Int32) (g_uco : Nat → Int64) (CL : Nat) (hlen_mm : fs_mm.length = 78) (hf_mm_28 : fs_mm[28]? = some (.ref uco)) (h_x_mm_29 : rg x_mm_29 0 279999) (hf_mm_29 : fs_mm[29]? = some (.int x_mm_29)) (hq0 : ((CL : Nat) : Int) ≤ 560000) (hq1 : 64 ≤ ((CL : Nat) : Int)) (hq2 : x_mm_29.toInt ≤ ((CL : Nat) : Int)) (hq3 : 1120000 ≤ ((MS : Nat) : Int) + 2 * ((CL : Nat) : Int)) (hq4 : 560064 ≤ 64 * ((MC : Nat) : Int) + ((CL : Nat) : Int)) : KT (V := Unit) (S := List Value × Nat × Int32 × (Nat → Int64) × Nat × Nat × Nat) (SX := Unit) l yX16_keep cX16_keep 2 none 2 48 D ct [.ref mm, .int v0] [(mm, .inr (16, fs_mm)), (uco, .inl (ct 2, CL, .inr (.inl g_uco)))] MC MS (fun _ : Unit => none) (fun (_ : Unit) (u : List Value × Nat × Int32 × (Nat → Int64) × Nat × Nat × Nat) => match u with | (fs2_mm, a_mm_28, y_mm_29, k_uco, CL2, kc, kn) => SB fs_mm fs2_mm [28, 29] ∧ fs2_mm[28]? = some (.ref a_mm_28) ∧ rg y_mm_29 1 280000 ∧ fs2_mm[29]? = some (.int y_mm_29) ∧ (y_mm_29.toInt = x_mm_29.toInt + 1) ∧ (y_mm_29.toInt ≤ ((CL2 : Nat) : Int)) ∧ (((CL : Nat) : Int) ≤ ((CL2 : Nat) : Int)) ∧ (((CL2 : Nat) : Int) ≤ 560000) ∧ (64 * ((kc : Nat) : Int) + ((CL : Nat) : Int) ≤ ((CL2 : Nat) : Int)) ∧ (((kn : Nat) : Int) = 2 * (((CL2 : Nat) : Int) - ((CL : Nat) : Int))) ∧ (ER g_uco k_uco x_mm_29.toInt y_mm_29.toInt 0)) (fun (u : List Value × Nat × Int32 × (Nat → Int64) × Nat × Nat × Nat) => match u with | (fs2_mm, a_mm_28, y_mm_29, k_uco, CL2, kc, kn) => [(mm, .inr (16, fs2_mm)), (a_mm_28, .inl (ct 2, CL2, .inr (.inl k_uco)))] ++ []) (fun (u : List Value × Nat × Int32 × (Nat → Int64) × Nat × Nat × Nat) => match u with | (fs2_mm, a_mm_28, y_mm_29, k_uco, CL2, kc, kn) => kc) (fun (u : List Value × Nat × Int32 × (Nat → Int64) × Nat × Nat × Nat) => match u with | (fs2_mm, a_mm_28, y_mm_29, k_uco, CL2, kc, kn) => kn) 15 RX15 peW (fun _ => False) (fun _ => []) := by
  refine KT_of (by decide) (Nat.le_of_ble_eq_true rfl) (fun p e s m below meth c A Q C0 htab hA H locs hS hP hD hQ ls hl => ?_)
  obtain ⟨hx, hb, hr, hown, hin, hml, hlocks, hn, hK, hZ, hSK⟩ := C0
  have hl : lv_has ls 2 [(0, .ref mm), (1, .int v0)] := hl
  replace hq0 := FF.mk hq0
  replace hq1 := FF.mk hq1
  replace hq2 := FF.mk hq2
  replace hq3 := FF.mk hq3
  replace hq4 := FF.mk hq4
  refine lv_aload_n hx hb dX16_keep_0 rfl (lv_at hl 0 rfl) ?_
  refine lv_bipush (v := 123) hx hb dX16_keep_1 (by decide) ?_
  refine lv_bipush (v := 10) hx hb dX16_keep_3 (by decide) ?_
  refine lv_iconst (v := 0) hx hb dX16_keep_5 (by decide) ?_
  refine lv_iload_n hx hb dX16_keep_6 rfl (lv_at hl 1 rfl) ?_
  refine go_i (k1 := 0) (n1 := 0) (wr := [(mm, .inr (16, fs_mm)), (uco, .inl (ct 2, CL, .inr (.inl g_uco)))]) [] [0, 1] (rn_S (As := [.int v0]) (rest := [.int 0, .int 10, .int 123, .ref mm]) (c_X16_slotOf l D ct v0  _) (cb_of (n := 1) hn mw_2280 mw_13 mw_2278 mhX16_slotOf ⟨(Nat.le_of_ble_eq_true rfl), (Nat.le_of_ble_eq_true rfl)⟩) hx hb hml hown hn hK hSK hZ hS mw_2279 rfl hl.1 (Nat.le_of_ble_eq_true rfl) dX16_keep_7 ⟨(Nat.zero_le MC), (Nat.zero_le MS)⟩) hP hD hS hA rfl rfl (by decide) (by decide) (by decide) (Nat.le_refl _) (Nat.le_refl _) (fun r7_1 u7_2 H locs hp7_3 hP hD hS => ?_)
  have hP : va_P D vwCl [(mm, .inr (16, fs_mm)), (uco, .inl (ct 2, CL, .inr (.inl g_uco)))] _ := hP
  have hD : va_D A [(mm, .inr (16, fs_mm)), (uco, .inl (ct 2, CL, .inr (.inl g_uco)))] := hD
  refine lv_lconst (v := 0) hx hb dX16_keep_10 (by decide) ?_
  obtain ⟨m11_1, gm11_1⟩ : ∃ m9 : Nat, m9 + 0 = MC := ⟨MC - 0, Nat.sub_add_cancel (Nat.zero_le MC)⟩
  have em11_1 := FF.mk gm11_1
  obtain ⟨m11_2, gm11_2⟩ : ∃ m9 : Nat, m9 + 0 = MS := ⟨MS - 0, Nat.sub_add_cancel (Nat.zero_le MS)⟩
  have em11_2 := FF.mk gm11_2
  refine gt_q (pl := []) (wr := []) [0, 1] [] (rt_V (As := [.int 123, .int 10, .int 0, .int r7_1, .long 0]) (rest := []) (c_X16_emit_k l hst D ct m11_1 m11_2 mm (123 : Int32) (10 : Int32) (0 : Int32) r7_1 (0 : Int64) fs_mm uco x_mm_29 g_uco CL hlen_mm hf_mm_28 h_x_mm_29 hf_mm_29 (show ((CL : Nat) : Int) ≤ 560000 by have q0 := FF.out hq0; omega) (show 64 ≤ ((CL : Nat) : Int) by have q0 := FF.out hq1; omega) (show x_mm_29.toInt ≤ ((CL : Nat) : Int) by have q0 := FF.out hq2; omega) (show 1120000 ≤ ((m11_2 : Nat) : Int) + 2 * ((CL : Nat) : Int) by have q0 := FF.out hq3; have q1 := FF.out em11_2; omega) (show 560064 ≤ 64 * ((m11_1 : Nat) : Int) + ((CL : Nat) : Int) by have q0 := FF.out hq4; have q1 := FF.out em11_1; omega) _) (cb_of (n := 5) hn mw_2250 mw_13 mw_2247 mhX16_emit ⟨(Nat.le_of_ble_eq_true rfl), (Nat.le_of_ble_eq_true rfl)⟩) hx hb hml hown hn hK hSK hZ hS mw_2249 mw_s211 (ci := 16) (q0 := 0) rfl rfl rfl rfl hl.1 (Nat.le_of_ble_eq_true rfl) dX16_keep_11 ⟨(Nat.le_of_eq ((Nat.add_comm _ _).trans gm11_1)), (Nat.le_of_eq ((Nat.add_comm _ _).trans gm11_2))⟩) (by rw [List.append_nil]; exact hP) (by rw [List.append_nil]; exact hD) hS hA rfl rfl (by decide) (by decide) (by decide) (fun xq11_6 ux11_7 xfs11_8 H locs hpx11_9 hpexfs11_8 hP hD hS => ?_) (fun r11_3 u11_4 H locs hp11_5 hP hD hS => ?_)
  · exact hpx11_9.elim
  obtain ⟨fs2_mm11_310, a_mm_2811_311, y_mm_2911_312, k_uco11_313, CL211_314, kc11_315, kn11_316⟩ := u11_4
  obtain ⟨hp11_317, hp11_318, hp11_319, hp11_320, hp11_321, hp11_322, hp11_323, hp11_324, hp11_325, hp11_326, hp11_327, hp11_328⟩ := hp11_5
  have hs11_329 : SB fs_mm fs2_mm11_310 [28, 29] := SB.trans (SB.rf _ _) hp11_317 (by decide)
  have hp11_319 : rg y_mm_2911_312 1 280000 := hp11_319
  replace hp11_321 : FF (y_mm_2911_312.toInt = x_mm_29.toInt + 1) := hp11_321
  replace hp11_322 : FF (y_mm_2911_312.toInt ≤ ((CL211_314 : Nat) : Int)) := hp11_322
  replace hp11_323 : FF (((CL : Nat) : Int) ≤ ((CL211_314 : Nat) : Int)) := hp11_323
  replace hp11_324 : FF (((CL211_314 : Nat) : Int) ≤ 560000) := hp11_324
  replace hp11_325 : FF (64 * ((kc11_315 : Nat) : Int) + ((CL : Nat) : Int) ≤ ((CL211_314 : Nat) : Int)) := hp11_325
  replace hp11_326 : FF (((kn11_316 : Nat) : Int) = 2 * (((CL211_314 : Nat) : Int) - ((CL : Nat) : Int))) := hp11_326
  have hp11_327 : (123 : Int32).toInt % 256 ≠ 32 ∧ (123 : Int32).toInt % 256 ≠ 64 → ER g_uco k_uco11_313 x_mm_29.toInt y_mm_2911_312.toInt 0 := hp11_327
  have hp11_328 : ER g_uco k_uco11_313 x_mm_29.toInt y_mm_2911_312.toInt 1 := hp11_328
  obtain ⟨c11_330, ec11_330⟩ : ∃ x9 : Nat, x9 = 0 + kc11_315 := ⟨_, rfl⟩
  have ec11_330 := FF.mk ec11_330
  have mc11_330 : FF (c11_330 ≤ MC) := FF.mk (Int.ofNat_le.mp (show ((c11_330 : Nat) : Int) ≤ ((MC : Nat) : Int) by have q0 := FF.out hq4; have q1 := FF.out hp11_324; have q2 := FF.out hp11_325; have q3 := FF.out ec11_330; omega))
  obtain ⟨k11_331, ek11_331⟩ : ∃ x9 : Nat, x9 = 0 + kn11_316 := ⟨_, rfl⟩
  have ek11_331 := FF.mk ek11_331
  have mk11_331 : FF (k11_331 ≤ MS) := FF.mk (Int.ofNat_le.mp (show ((k11_331 : Nat) : Int) ≤ ((MS : Nat) : Int) by have q0 := FF.out hq3; have q1 := FF.out hp11_324; have q2 := FF.out hp11_326; have q3 := FF.out ek11_331; omega))
  rw [List.append_nil] at hP hD
  have hP : va_P D vwCl [(mm, .inr (16, fs2_mm11_310)), (a_mm_2811_311, .inl (ct 2, CL211_314, .inr (.inl k_uco11_313)))] _ := hP
  have hD : va_D A [(mm, .inr (16, fs2_mm11_310)), (a_mm_2811_311, .inl (ct 2, CL211_314, .inr (.inl k_uco11_313)))] := hD
  refine W.widen (k := c11_330) (n := k11_331) (Nat.le_of_eq (FF.out ec11_330).symm) (Nat.le_of_eq (FF.out ek11_331).symm) (W.eq (g2 := F0 m 14 ls []) rfl ?_)
  exact et_v (SX := Unit) (pl1 := fun _ => []) hQ hx hb hr hlocks dX16_keep_14 (fs2_mm11_310, a_mm_2811_311, y_mm_2911_312, k_uco11_313, CL211_314, c11_330, k11_331) ⟨hs11_329, hp11_318, hp11_319, hp11_320, (show y_mm_2911_312.toInt = x_mm_29.toInt + 1 by have q0 := FF.out hp11_321; omega), (show y_mm_2911_312.toInt ≤ ((CL211_314 : Nat) : Int) by have q0 := FF.out hp11_322; omega), (show ((CL : Nat) : Int) ≤ ((CL211_314 : Nat) : Int) by have q0 := FF.out hp11_323; omega), (show ((CL211_314 : Nat) : Int) ≤ 560000 by have q0 := FF.out hp11_324; omega), (show 64 * ((c11_330 : Nat) : Int) + ((CL : Nat) : Int) ≤ ((CL211_314 : Nat) : Int) by have q0 := FF.out hp11_325; have q1 := FF.out ec11_330; omega), (show ((k11_331 : Nat) : Int) = 2 * (((CL211_314 : Nat) : Int) - ((CL : Nat) : Int)) by have q0 := FF.out hp11_326; have q1 := FF.out ek11_331; omega), (hp11_327 (show (123 : Int32).toInt % 256 ≠ 32 ∧ (123 : Int32).toInt % 256 ≠ 64 by have q0 := (show (123 : Int32).toInt = 123 from by decide); omega))⟩ (by rw [List.append_nil]; exact hP) (by rw [List.append_nil]; exact hD) hS [0, 1] (by decide) rfl (Nat.le_refl _) (Nat.le_refl _) (FF.out mc11_330) (FF.out mk11_331)
set_option maxHeartbeats 2000000 in
theorem c_X16_makeHeader_k (l : Launch) (hst : l.stackTraces = false) (D : va_G) (ct : Nat → ClassId) (MC : Nat) (MS : Nat) (mm : Nat) (fs_mm : List Value) (uco : Nat) (x_mm_29 : Int32) (g_uco : Nat → Int64) (CL : Nat) (hlen_mm : fs_mm.length = 78) (hf_mm_28 : fs_mm[28]? = some (.ref uco)) (h_x_mm_29 : rg x_mm_29 0 279990) (hf_mm_29 : fs_mm[29]? = some (.int x_mm_29)) (hq0 : ((CL : Nat) : Int) ≤ 560000) (hq1 : 64 ≤ ((CL : Nat) : Int)) (hq2 : x_mm_29.toInt ≤ ((CL : Nat) : Int)) (hq3 : 1120000 ≤ ((MS : Nat) : Int) + 2 * ((CL : Nat) : Int)) (hq4 : 560064 ≤ 64 * ((MC : Nat) : Int) + ((CL : Nat) : Int)) : KT (V := Unit) (S := List Value × Nat × Int32 × (Nat → Int64) × Nat × Nat × Nat) (SX := Unit) l yX16_makeHeader cX16_makeHeader 1 none 2 48 D ct [.ref mm] [(mm, .inr (16, fs_mm)), (uco, .inl (ct 2, CL, .inr (.inl g_uco)))] MC MS (fun _ : Unit => none) (fun (_ : Unit) (u : List Value × Nat × Int32 × (Nat → Int64) × Nat × Nat × Nat) => match u with | (fs2_mm, a_mm_28, y_mm_29, k_uco, CL2, kc, kn) => SB fs_mm fs2_mm [28, 29] ∧ fs2_mm[28]? = some (.ref a_mm_28) ∧ rg y_mm_29 1 280000 ∧ fs2_mm[29]? = some (.int y_mm_29) ∧ (y_mm_29.toInt = x_mm_29.toInt + 3) ∧ (y_mm_29.toInt ≤ ((CL2 : Nat) : Int)) ∧ (((CL : Nat) : Int) ≤ ((CL2 : Nat) : Int)) ∧ (((CL2 : Nat) : Int) ≤ 560000) ∧ (64 * ((kc : Nat) : Int) + ((CL : Nat) : Int) ≤ ((CL2 : Nat) : Int)) ∧ (((kn : Nat) : Int) = 2 * (((CL2 : Nat) : Int) - ((CL : Nat) : Int))) ∧ (ER g_uco k_uco x_mm_29.toInt y_mm_29.toInt 0)) (fun (u : List Value × Nat × Int32 × (Nat → Int64) × Nat × Nat × Nat) => match u with | (fs2_mm, a_mm_28, y_mm_29, k_uco, CL2, kc, kn) => [(mm, .inr (16, fs2_mm)), (a_mm_28, .inl (ct 2, CL2, .inr (.inl k_uco)))] ++ []) (fun (u : List Value × Nat × Int32 × (Nat → Int64) × Nat × Nat × Nat) => match u with | (fs2_mm, a_mm_28, y_mm_29, k_uco, CL2, kc, kn) => kc) (fun (u : List Value × Nat × Int32 × (Nat → Int64) × Nat × Nat × Nat) => match u with | (fs2_mm, a_mm_28, y_mm_29, k_uco, CL2, kc, kn) => kn) 15 RX15 peW (fun _ => False) (fun _ => []) := by
  refine KT_of (by decide) (Nat.le_of_ble_eq_true rfl) (fun p e s m below meth c A Q C0 htab hA H locs hS hP hD hQ ls hl => ?_)
  obtain ⟨hx, hb, hr, hown, hin, hml, hlocks, hn, hK, hZ, hSK⟩ := C0
  have hl : lv_has ls 1 [(0, .ref mm)] := hl
  replace hq0 := FF.mk hq0
  replace hq1 := FF.mk hq1
  replace hq2 := FF.mk hq2
  replace hq3 := FF.mk hq3
  replace hq4 := FF.mk hq4
  refine lv_aload_n hx hb dX16_makeHeader_0 rfl (lv_at hl 0 rfl) ?_
  refine lv_bipush (v := 48) hx hb dX16_makeHeader_1 (by decide) ?_
  refine lv_iconst (v := 0) hx hb dX16_makeHeader_3 (by decide) ?_
  refine lv_iconst (v := 0) hx hb dX16_makeHeader_4 (by decide) ?_
  refine lv_iconst (v := 0) hx hb dX16_makeHeader_5 (by decide) ?_
  refine lv_ldc2 (v := 14) hx hb hown (hn.get mw_1826 rfl) dX16_makeHeader_6 ?_
  obtain ⟨m9_1, gm9_1⟩ : ∃ m9 : Nat, m9 + 0 = MC := ⟨MC - 0, Nat.sub_add_cancel (Nat.zero_le MC)⟩
  have em9_1 := FF.mk gm9_1
  obtain ⟨m9_2, gm9_2⟩ : ∃ m9 : Nat, m9 + 0 = MS := ⟨MS - 0, Nat.sub_add_cancel (Nat.zero_le MS)⟩
  have em9_2 := FF.mk gm9_2
  refine gt_q (pl := []) (wr := []) [0, 1] [] (rt_V (As := [.int 48, .int 0, .int 0, .int 0, .long 14]) (rest := []) (c_X16_emit_k l hst D ct m9_1 m9_2 mm (48 : Int32) (0 : Int32) (0 : Int32) (0 : Int32) (14 : Int64) fs_mm uco x_mm_29 g_uco CL hlen_mm hf_mm_28 (rg_w h_x_mm_29 (by decide)) hf_mm_29 (show ((CL : Nat) : Int) ≤ 560000 by have q0 := FF.out hq0; omega) (show 64 ≤ ((CL : Nat) : Int) by have q0 := FF.out hq1; omega) (show x_mm_29.toInt ≤ ((CL : Nat) : Int) by have q0 := FF.out hq2; omega) (show 1120000 ≤ ((m9_2 : Nat) : Int) + 2 * ((CL : Nat) : Int) by have q0 := FF.out hq3; have q1 := FF.out em9_2; omega) (show 560064 ≤ 64 * ((m9_1 : Nat) : Int) + ((CL : Nat) : Int) by have q0 := FF.out hq4; have q1 := FF.out em9_1; omega) _) (cb_of (n := 5) hn mw_2250 mw_13 mw_2247 mhX16_emit ⟨(Nat.le_of_ble_eq_true rfl), (Nat.le_of_ble_eq_true rfl)⟩) hx hb hml hown hn hK hSK hZ hS mw_2249 mw_s211 (ci := 16) (q0 := 0) rfl rfl rfl rfl hl.1 (Nat.le_of_ble_eq_true rfl) dX16_makeHeader_9 ⟨(Nat.le_of_eq ((Nat.add_comm _ _).trans gm9_1)), (Nat.le_of_eq ((Nat.add_comm _ _).trans gm9_2))⟩) (by rw [List.append_nil]; exact hP) (by rw [List.append_nil]; exact hD) hS hA rfl rfl (by decide) (by decide) (by decide) (fun xq9_6 ux9_7 xfs9_8 H locs hpx9_9 hpexfs9_8 hP hD hS => ?_) (fun r9_3 u9_4 H locs hp9_5 hP hD hS => ?_)
  · exact hpx9_9.elim
  obtain ⟨fs2_mm9_310, a_mm_289_311, y_mm_299_312, k_uco9_313, CL29_314, kc9_315, kn9_316⟩ := u9_4
  obtain ⟨hp9_317, hp9_318, hp9_319, hp9_320, hp9_321, hp9_322, hp9_323, hp9_324, hp9_325, hp9_326, hp9_327, hp9_328⟩ := hp9_5
  have hs9_329 : SB fs_mm fs2_mm9_310 [28, 29] := SB.trans (SB.rf _ _) hp9_317 (by decide)
  have hp9_319 : rg y_mm_299_312 1 280000 := hp9_319
  replace hp9_321 : FF (y_mm_299_312.toInt = x_mm_29.toInt + 1) := hp9_321
  replace hp9_322 : FF (y_mm_299_312.toInt ≤ ((CL29_314 : Nat) : Int)) := hp9_322
  replace hp9_323 : FF (((CL : Nat) : Int) ≤ ((CL29_314 : Nat) : Int)) := hp9_323
  replace hp9_324 : FF (((CL29_314 : Nat) : Int) ≤ 560000) := hp9_324
  replace hp9_325 : FF (64 * ((kc9_315 : Nat) : Int) + ((CL : Nat) : Int) ≤ ((CL29_314 : Nat) : Int)) := hp9_325
  replace hp9_326 : FF (((kn9_316 : Nat) : Int) = 2 * (((CL29_314 : Nat) : Int) - ((CL : Nat) : Int))) := hp9_326
  have hp9_327 : (48 : Int32).toInt % 256 ≠ 32 ∧ (48 : Int32).toInt % 256 ≠ 64 → ER g_uco k_uco9_313 x_mm_29.toInt y_mm_299_312.toInt 0 := hp9_327
  have hp9_328 : ER g_uco k_uco9_313 x_mm_29.toInt y_mm_299_312.toInt 1 := hp9_328
  obtain ⟨c9_330, ec9_330⟩ : ∃ x9 : Nat, x9 = 0 + kc9_315 := ⟨_, rfl⟩
  have ec9_330 := FF.mk ec9_330
  have mc9_330 : FF (c9_330 ≤ MC) := FF.mk (Int.ofNat_le.mp (show ((c9_330 : Nat) : Int) ≤ ((MC : Nat) : Int) by have q0 := FF.out hq4; have q1 := FF.out hp9_324; have q2 := FF.out hp9_325; have q3 := FF.out ec9_330; omega))
  obtain ⟨k9_331, ek9_331⟩ : ∃ x9 : Nat, x9 = 0 + kn9_316 := ⟨_, rfl⟩
  have ek9_331 := FF.mk ek9_331
  have mk9_331 : FF (k9_331 ≤ MS) := FF.mk (Int.ofNat_le.mp (show ((k9_331 : Nat) : Int) ≤ ((MS : Nat) : Int) by have q0 := FF.out hq3; have q1 := FF.out hp9_324; have q2 := FF.out hp9_326; have q3 := FF.out ek9_331; omega))
  rw [List.append_nil] at hP hD
  have hP : va_P D vwCl [(mm, .inr (16, fs2_mm9_310)), (a_mm_289_311, .inl (ct 2, CL29_314, .inr (.inl k_uco9_313)))] _ := hP
  have hD : va_D A [(mm, .inr (16, fs2_mm9_310)), (a_mm_289_311, .inl (ct 2, CL29_314, .inr (.inl k_uco9_313)))] := hD
  refine W.widen (k := c9_330) (n := k9_331) (Nat.le_of_eq (FF.out ec9_330).symm) (Nat.le_of_eq (FF.out ek9_331).symm) (W.eq (g2 := F0 m 12 ls []) rfl ?_)
  refine lv_aload_n hx hb dX16_makeHeader_12 rfl (lv_at hl 0 rfl) ?_
  refine lv_bipush (v := 84) hx hb dX16_makeHeader_13 (by decide) ?_
  refine lv_iconst (v := 0) hx hb dX16_makeHeader_15 (by decide) ?_
  refine lv_iconst (v := 0) hx hb dX16_makeHeader_16 (by decide) ?_
  refine lv_iconst (v := 0) hx hb dX16_makeHeader_17 (by decide) ?_
  refine lv_ldc2 (v := 15) hx hb hown (hn.get mw_1896 rfl) dX16_makeHeader_18 ?_
  obtain ⟨m21_1, gm21_1⟩ : ∃ m9 : Nat, m9 + c9_330 = MC := ⟨MC - c9_330, Nat.sub_add_cancel (FF.out mc9_330)⟩
  have em21_1 := FF.mk gm21_1
  obtain ⟨m21_2, gm21_2⟩ : ∃ m9 : Nat, m9 + k9_331 = MS := ⟨MS - k9_331, Nat.sub_add_cancel (FF.out mk9_331)⟩
  have em21_2 := FF.mk gm21_2
  refine gt_q (pl := []) (wr := []) [0, 1] [] (rt_V (As := [.int 84, .int 0, .int 0, .int 0, .long 15]) (rest := []) (c_X16_emit_k l hst D ct m21_1 m21_2 mm (84 : Int32) (0 : Int32) (0 : Int32) (0 : Int32) (15 : Int64) fs2_mm9_310 a_mm_289_311 y_mm_299_312 k_uco9_313 CL29_314 (hs9_329.1.trans hlen_mm) hp9_318 (rg_of (show 0 ≤ y_mm_299_312.toInt ∧ y_mm_299_312.toInt ≤ 279999 by have q0 := hp9_319.1; have q1 := h_x_mm_29.2; have q2 := FF.out hp9_321; omega)) hp9_320 (show ((CL29_314 : Nat) : Int) ≤ 560000 by have q0 := FF.out hp9_324; omega) (show 64 ≤ ((CL29_314 : Nat) : Int) by have q0 := FF.out hq1; have q1 := FF.out hp9_323; omega) (show y_mm_299_312.toInt ≤ ((CL29_314 : Nat) : Int) by have q0 := FF.out hp9_322; omega) (show 1120000 ≤ ((m21_2 : Nat) : Int) + 2 * ((CL29_314 : Nat) : Int) by have q0 := FF.out hq3; have q1 := FF.out hp9_326; have q2 := FF.out ek9_331; have q3 := FF.out em21_2; omega) (show 560064 ≤ 64 * ((m21_1 : Nat) : Int) + ((CL29_314 : Nat) : Int) by have q0 := FF.out hq4; have q1 := FF.out hp9_325; have q2 := FF.out ec9_330; have q3 := FF.out em21_1; omega) _) (cb_of (n := 5) hn mw_2250 mw_13 mw_2247 mhX16_emit ⟨(Nat.le_of_ble_eq_true rfl), (Nat.le_of_ble_eq_true rfl)⟩) hx hb hml hown hn hK hSK hZ hS mw_2249 mw_s211 (ci := 16) (q0 := 0) rfl rfl rfl rfl hl.1 (Nat.le_of_ble_eq_true rfl) dX16_makeHeader_21 ⟨(Nat.le_of_eq ((Nat.add_comm _ _).trans gm21_1)), (Nat.le_of_eq ((Nat.add_comm _ _).trans gm21_2))⟩) (by rw [List.append_nil]; exact hP) (by rw [List.append_nil]; exact hD) hS hA rfl rfl (by decide) (by decide) (by decide) (fun xq21_6 ux21_7 xfs21_8 H locs hpx21_9 hpexfs21_8 hP hD hS => ?_) (fun r21_3 u21_4 H locs hp21_5 hP hD hS => ?_)
  · exact hpx21_9.elim
  obtain ⟨fs2_mm21_310, a_mm_2821_311, y_mm_2921_312, k_uco21_313, CL221_314, kc21_315, kn21_316⟩ := u21_4
  obtain ⟨hp21_317, hp21_318, hp21_319, hp21_320, hp21_321, hp21_322, hp21_323, hp21_324, hp21_325, hp21_326, hp21_327, hp21_328⟩ := hp21_5
  have hs21_329 : SB fs_mm fs2_mm21_310 [28, 29] := SB.trans hs9_329 hp21_317 (by decide)
  have hp21_319 : rg y_mm_2921_312 1 280000 := hp21_319
  replace hp21_321 : FF (y_mm_2921_312.toInt = y_mm_299_312.toInt + 1) := hp21_321
  replace hp21_322 : FF (y_mm_2921_312.toInt ≤ ((CL221_314 : Nat) : Int)) := hp21_322
  replace hp21_323 : FF (((CL29_314 : Nat) : Int) ≤ ((CL221_314 : Nat) : Int)) := hp21_323
  replace hp21_324 : FF (((CL221_314 : Nat) : Int) ≤ 560000) := hp21_324
  replace hp21_325 : FF (64 * ((kc21_315 : Nat) : Int) + ((CL29_314 : Nat) : Int) ≤ ((CL221_314 : Nat) : Int)) := hp21_325
  replace hp21_326 : FF (((kn21_316 : Nat) : Int) = 2 * (((CL221_314 : Nat) : Int) - ((CL29_314 : Nat) : Int))) := hp21_326
  have hp21_327 : (84 : Int32).toInt % 256 ≠ 32 ∧ (84 : Int32).toInt % 256 ≠ 64 → ER k_uco9_313 k_uco21_313 y_mm_299_312.toInt y_mm_2921_312.toInt 0 := hp21_327
  have hp21_328 : ER k_uco9_313 k_uco21_313 y_mm_299_312.toInt y_mm_2921_312.toInt 1 := hp21_328
  obtain ⟨c21_330, ec21_330⟩ : ∃ x9 : Nat, x9 = c9_330 + kc21_315 := ⟨_, rfl⟩
  have ec21_330 := FF.mk ec21_330
  have mc21_330 : FF (c21_330 ≤ MC) := FF.mk (Int.ofNat_le.mp (show ((c21_330 : Nat) : Int) ≤ ((MC : Nat) : Int) by have q0 := FF.out hq4; have q1 := FF.out hp9_325; have q2 := FF.out ec9_330; have q3 := FF.out hp21_324; have q4 := FF.out hp21_325; have q5 := FF.out ec21_330; omega))
  obtain ⟨k21_331, ek21_331⟩ : ∃ x9 : Nat, x9 = k9_331 + kn21_316 := ⟨_, rfl⟩
  have ek21_331 := FF.mk ek21_331
  have mk21_331 : FF (k21_331 ≤ MS) := FF.mk (Int.ofNat_le.mp (show ((k21_331 : Nat) : Int) ≤ ((MS : Nat) : Int) by have q0 := FF.out hq3; have q1 := FF.out hp9_326; have q2 := FF.out ek9_331; have q3 := FF.out hp21_324; have q4 := FF.out hp21_326; have q5 := FF.out ek21_331; omega))
  rw [List.append_nil] at hP hD
  have hP : va_P D vwCl [(mm, .inr (16, fs2_mm21_310)), (a_mm_2821_311, .inl (ct 2, CL221_314, .inr (.inl k_uco21_313)))] _ := hP
  have hD : va_D A [(mm, .inr (16, fs2_mm21_310)), (a_mm_2821_311, .inl (ct 2, CL221_314, .inr (.inl k_uco21_313)))] := hD
  refine W.widen (k := c21_330) (n := k21_331) (Nat.le_of_eq (FF.out ec21_330).symm) (Nat.le_of_eq (FF.out ek21_331).symm) (W.eq (g2 := F0 m 24 ls []) rfl ?_)
  refine lv_aload_n hx hb dX16_makeHeader_24 rfl (lv_at hl 0 rfl) ?_
  refine lv_bipush (v := 100) hx hb dX16_makeHeader_25 (by decide) ?_
  refine lv_iconst (v := 0) hx hb dX16_makeHeader_27 (by decide) ?_
  refine lv_iconst (v := 0) hx hb dX16_makeHeader_28 (by decide) ?_
  refine lv_iconst (v := 0) hx hb dX16_makeHeader_29 (by decide) ?_
  refine lv_ldc2 (v := 2) hx hb hown (hn.get mw_2096 rfl) dX16_makeHeader_30 ?_
  obtain ⟨m33_1, gm33_1⟩ : ∃ m9 : Nat, m9 + c21_330 = MC := ⟨MC - c21_330, Nat.sub_add_cancel (FF.out mc21_330)⟩
  have em33_1 := FF.mk gm33_1
  obtain ⟨m33_2, gm33_2⟩ : ∃ m9 : Nat, m9 + k21_331 = MS := ⟨MS - k21_331, Nat.sub_add_cancel (FF.out mk21_331)⟩
  have em33_2 := FF.mk gm33_2
  refine gt_q (pl := []) (wr := []) [0, 1] [] (rt_V (As := [.int 100, .int 0, .int 0, .int 0, .long 2]) (rest := []) (c_X16_emit_k l hst D ct m33_1 m33_2 mm (100 : Int32) (0 : Int32) (0 : Int32) (0 : Int32) (2 : Int64) fs2_mm21_310 a_mm_2821_311 y_mm_2921_312 k_uco21_313 CL221_314 (hs21_329.1.trans hlen_mm) hp21_318 (rg_of (show 0 ≤ y_mm_2921_312.toInt ∧ y_mm_2921_312.toInt ≤ 279999 by have q0 := hp9_319.1; have q1 := h_x_mm_29.2; have q2 := FF.out hp9_321; have q3 := FF.out hp21_321; omega)) hp21_320 (show ((CL221_314 : Nat) : Int) ≤ 560000 by have q0 := FF.out hp21_324; omega) (show 64 ≤ ((CL221_314 : Nat) : Int) by have q0 := FF.out hq1; have q1 := FF.out hp9_323; have q2 := FF.out hp21_323; omega) (show y_mm_2921_312.toInt ≤ ((CL221_314 : Nat) : Int) by have q0 := FF.out hp21_322; omega) (show 1120000 ≤ ((m33_2 : Nat) : Int) + 2 * ((CL221_314 : Nat) : Int) by have q0 := FF.out hq3; have q1 := FF.out hp9_326; have q2 := FF.out ek9_331; have q3 := FF.out hp21_326; have q4 := FF.out ek21_331; have q5 := FF.out em33_2; omega) (show 560064 ≤ 64 * ((m33_1 : Nat) : Int) + ((CL221_314 : Nat) : Int) by have q0 := FF.out hq4; have q1 := FF.out hp9_325; have q2 := FF.out ec9_330; have q3 := FF.out hp21_325; have q4 := FF.out ec21_330; have q5 := FF.out em33_1; omega) _) (cb_of (n := 5) hn mw_2250 mw_13 mw_2247 mhX16_emit ⟨(Nat.le_of_ble_eq_true rfl), (Nat.le_of_ble_eq_true rfl)⟩) hx hb hml hown hn hK hSK hZ hS mw_2249 mw_s211 (ci := 16) (q0 := 0) rfl rfl rfl rfl hl.1 (Nat.le_of_ble_eq_true rfl) dX16_makeHeader_33 ⟨(Nat.le_of_eq ((Nat.add_comm _ _).trans gm33_1)), (Nat.le_of_eq ((Nat.add_comm _ _).trans gm33_2))⟩) (by rw [List.append_nil]; exact hP) (by rw [List.append_nil]; exact hD) hS hA rfl rfl (by decide) (by decide) (by decide) (fun xq33_6 ux33_7 xfs33_8 H locs hpx33_9 hpexfs33_8 hP hD hS => ?_) (fun r33_3 u33_4 H locs hp33_5 hP hD hS => ?_)
  · exact hpx33_9.elim
  obtain ⟨fs2_mm33_310, a_mm_2833_311, y_mm_2933_312, k_uco33_313, CL233_314, kc33_315, kn33_316⟩ := u33_4
  obtain ⟨hp33_317, hp33_318, hp33_319, hp33_320, hp33_321, hp33_322, hp33_323, hp33_324, hp33_325, hp33_326, hp33_327, hp33_328⟩ := hp33_5
  have hs33_329 : SB fs_mm fs2_mm33_310 [28, 29] := SB.trans hs21_329 hp33_317 (by decide)
  have hp33_319 : rg y_mm_2933_312 1 280000 := hp33_319
  replace hp33_321 : FF (y_mm_2933_312.toInt = y_mm_2921_312.toInt + 1) := hp33_321
  replace hp33_322 : FF (y_mm_2933_312.toInt ≤ ((CL233_314 : Nat) : Int)) := hp33_322
  replace hp33_323 : FF (((CL221_314 : Nat) : Int) ≤ ((CL233_314 : Nat) : Int)) := hp33_323
  replace hp33_324 : FF (((CL233_314 : Nat) : Int) ≤ 560000) := hp33_324
  replace hp33_325 : FF (64 * ((kc33_315 : Nat) : Int) + ((CL221_314 : Nat) : Int) ≤ ((CL233_314 : Nat) : Int)) := hp33_325
  replace hp33_326 : FF (((kn33_316 : Nat) : Int) = 2 * (((CL233_314 : Nat) : Int) - ((CL221_314 : Nat) : Int))) := hp33_326
  have hp33_327 : (100 : Int32).toInt % 256 ≠ 32 ∧ (100 : Int32).toInt % 256 ≠ 64 → ER k_uco21_313 k_uco33_313 y_mm_2921_312.toInt y_mm_2933_312.toInt 0 := hp33_327
  have hp33_328 : ER k_uco21_313 k_uco33_313 y_mm_2921_312.toInt y_mm_2933_312.toInt 1 := hp33_328
  obtain ⟨c33_330, ec33_330⟩ : ∃ x9 : Nat, x9 = c21_330 + kc33_315 := ⟨_, rfl⟩
  have ec33_330 := FF.mk ec33_330
  have mc33_330 : FF (c33_330 ≤ MC) := FF.mk (Int.ofNat_le.mp (show ((c33_330 : Nat) : Int) ≤ ((MC : Nat) : Int) by have q0 := FF.out hq4; have q1 := FF.out hp9_325; have q2 := FF.out ec9_330; have q3 := FF.out hp21_325; have q4 := FF.out ec21_330; have q5 := FF.out hp33_324; have q6 := FF.out hp33_325; have q7 := FF.out ec33_330; omega))
  obtain ⟨k33_331, ek33_331⟩ : ∃ x9 : Nat, x9 = k21_331 + kn33_316 := ⟨_, rfl⟩
  have ek33_331 := FF.mk ek33_331
  have mk33_331 : FF (k33_331 ≤ MS) := FF.mk (Int.ofNat_le.mp (show ((k33_331 : Nat) : Int) ≤ ((MS : Nat) : Int) by have q0 := FF.out hq3; have q1 := FF.out hp9_326; have q2 := FF.out ek9_331; have q3 := FF.out hp21_326; have q4 := FF.out ek21_331; have q5 := FF.out hp33_324; have q6 := FF.out hp33_326; have q7 := FF.out ek33_331; omega))
  rw [List.append_nil] at hP hD
  have hP : va_P D vwCl [(mm, .inr (16, fs2_mm33_310)), (a_mm_2833_311, .inl (ct 2, CL233_314, .inr (.inl k_uco33_313)))] _ := hP
  have hD : va_D A [(mm, .inr (16, fs2_mm33_310)), (a_mm_2833_311, .inl (ct 2, CL233_314, .inr (.inl k_uco33_313)))] := hD
  refine W.widen (k := c33_330) (n := k33_331) (Nat.le_of_eq (FF.out ec33_330).symm) (Nat.le_of_eq (FF.out ek33_331).symm) (W.eq (g2 := F0 m 36 ls []) rfl ?_)
  exact et_v (SX := Unit) (pl1 := fun _ => []) hQ hx hb hr hlocks dX16_makeHeader_36 (fs2_mm33_310, a_mm_2833_311, y_mm_2933_312, k_uco33_313, CL233_314, c33_330, k33_331) ⟨hs33_329, hp33_318, hp33_319, hp33_320, (show y_mm_2933_312.toInt = x_mm_29.toInt + 3 by have q0 := FF.out hp9_321; have q1 := FF.out hp21_321; have q2 := FF.out hp33_321; omega), (show y_mm_2933_312.toInt ≤ ((CL233_314 : Nat) : Int) by have q0 := FF.out hp33_322; omega), (show ((CL : Nat) : Int) ≤ ((CL233_314 : Nat) : Int) by have q0 := FF.out hp9_323; have q1 := FF.out hp21_323; have q2 := FF.out hp33_323; omega), (show ((CL233_314 : Nat) : Int) ≤ 560000 by have q0 := FF.out hp33_324; omega), (show 64 * ((c33_330 : Nat) : Int) + ((CL : Nat) : Int) ≤ ((CL233_314 : Nat) : Int) by have q0 := FF.out hp9_325; have q1 := FF.out ec9_330; have q2 := FF.out hp21_325; have q3 := FF.out ec21_330; have q4 := FF.out hp33_325; have q5 := FF.out ec33_330; omega), (show ((k33_331 : Nat) : Int) = 2 * (((CL233_314 : Nat) : Int) - ((CL : Nat) : Int)) by have q0 := FF.out hp9_326; have q1 := FF.out ek9_331; have q2 := FF.out hp21_326; have q3 := FF.out ek21_331; have q4 := FF.out hp33_326; have q5 := FF.out ek33_331; omega), (show ER g_uco k_uco33_313 x_mm_29.toInt y_mm_2933_312.toInt 0 from ER.mono (q1 := (0 + 0) + 0) (ER.tr (ER.tr (hp9_327 (show (48 : Int32).toInt % 256 ≠ 32 ∧ (48 : Int32).toInt % 256 ≠ 64 by have q0 := (show (48 : Int32).toInt = 48 from by decide); omega)) (hp21_327 (show (84 : Int32).toInt % 256 ≠ 32 ∧ (84 : Int32).toInt % 256 ≠ 64 by have q0 := (show (84 : Int32).toInt = 84 from by decide); omega)) (Int.le_refl _)) (hp33_327 (show (100 : Int32).toInt % 256 ≠ 32 ∧ (100 : Int32).toInt % 256 ≠ 64 by have q0 := (show (100 : Int32).toInt = 100 from by decide); omega)) (Int.le_refl _)) (show (0 + 0) + 0 ≤ 0 by omega))⟩ (by rw [List.append_nil]; exact hP) (by rw [List.append_nil]; exact hD) hS [0, 1] (by decide) rfl (Nat.le_refl _) (Nat.le_refl _) (FF.out mc33_330) (FF.out mk33_331)
