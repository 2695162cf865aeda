set_option maxHeartbeats 2000000 in
theorem c_X16_emit (l : Launch) (hst : l.stackTraces = false) (D : va_G) (ct : Nat → ClassId) (MC : Nat) (MS : Nat) (mm : Nat) (v0 : Int32) (v1 : Int32) (v2 : Int32) (v3 : Int32) (v4 : Int64) (fs_mm : List Value) (uco : Nat) (x_mm_29 : Int32) (g_uco : Nat → Int64) (CL : Nat) (hlen_mm : fs_mm.length = 78) (hf_mm_28 : fs_mm[28]? = some (.ref uco)) (h_x_mm_29 : rg x_mm_29 0 200000) (hf_mm_29 : fs_mm[29]? = some (.int x_mm_29)) (hq0 : ((CL : Nat) : Int) ≤ 400000) (hq1 : 1 ≤ ((MC : Nat) : Int)) (hq2 : 2 * x_mm_29.toInt ≤ ((MS : Nat) : Int)) (hq3 : x_mm_29.toInt ≤ ((CL : Nat) : Int)) (hq4 : 64 ≤ ((CL : Nat) : Int)) : KT (V := Unit) (S := List Value × Nat × Int32 × (Nat → Int64) × Nat × Nat × Nat) (SX := Unit) l yX16_emit cX16_emit 9 none 1 20 D ct [.ref mm, .int v0, .int v1, .int v2, .int v3, .long v4] [(mm, .inr (16, fs_mm)), (uco, .inl (ct 2, CL, .inr (.inl g_uco)))] MC MS (fun _ : Unit => none) (fun (_ : Unit) (u : List Value × Nat × Int32 × (Nat → Int64) × Nat × Nat × Nat) => match u with | (fs2_mm, a_mm_28, y_mm_29, k_uco, CL2, kc, kn) => SB fs_mm fs2_mm [28, 29] ∧ fs2_mm[28]? = some (.ref a_mm_28) ∧ rg y_mm_29 1 200001 ∧ fs2_mm[29]? = some (.int y_mm_29) ∧ (y_mm_29.toInt = x_mm_29.toInt + 1) ∧ (y_mm_29.toInt ≤ ((CL2 : Nat) : Int)) ∧ (64 * ((kc : Nat) : Int) + ((CL : Nat) : Int) ≤ ((CL2 : Nat) : Int)) ∧ (((kn : Nat) : Int) = 2 * (((CL2 : Nat) : Int) - ((CL : Nat) : Int))) ∧ (((kc : Nat) : Int) ≤ 1) ∧ (((CL2 : Nat) : Int) = ((CL : Nat) : Int) ∨ ((CL2 : Nat) : Int) = 2 * x_mm_29.toInt)) (fun (u : List Value × Nat × Int32 × (Nat → Int64) × Nat × Nat × Nat) => match u with | (fs2_mm, a_mm_28, y_mm_29, k_uco, CL2, kc, kn) => [(mm, .inr (16, fs2_mm)), (a_mm_28, .inl (ct 2, CL2, .inr (.inl k_uco)))] ++ []) (fun (u : List Value × Nat × Int32 × (Nat → Int64) × Nat × Nat × Nat) => match u with | (fs2_mm, a_mm_28, y_mm_29, k_uco, CL2, kc, kn) => kc) (fun (u : List Value × Nat × Int32 × (Nat → Int64) × Nat × Nat × Nat) => match u with | (fs2_mm, a_mm_28, y_mm_29, k_uco, CL2, kc, kn) => kn) 15 RX15 peW (fun _ => False) (fun _ => []) := by
  refine KT_of (by decide) (Nat.le_of_ble_eq_true rfl) (fun p e s m below meth c A Q C0 htab hA H locs hS hP hD hQ ls hl => ?_)
  obtain ⟨hx, hb, hr, hown, hin, hml, hlocks, hn, hK, hZ, hSK⟩ := C0
  have hl : lv_has ls 9 [(0, .ref mm), (1, .int v0), (2, .int v1), (3, .int v2), (4, .int v3), (5, .long v4)] := hl
  replace hq0 := FF.mk hq0
  replace hq1 := FF.mk hq1
  replace hq2 := FF.mk hq2
  replace hq3 := FF.mk hq3
  replace hq4 := FF.mk hq4
  refine lv_aload_n hx hb dX16_emit_0 rfl (lv_at hl 0 rfl) ?_
  refine va_get (D := D) (ci := 16) (v := .int x_mm_29) (C := RX16) (T := TX16) (N := 78) hx hb (htX16 hn) (fun _ h => h) hown hK hP 0 rfl rfl 29 (by decide) (hn.get mw_1568 rfl) (fun _ h9 => h9) hf_mm_29 dX16_emit_1 ?_
  refine lv_aload_n hx hb dX16_emit_4 rfl (lv_at hl 0 rfl) ?_
  refine va_get (D := D) (ci := 16) (v := .ref uco) (C := RX16) (T := TX16) (N := 78) hx hb (htX16 hn) (fun _ h => h) hown hK hP 0 rfl rfl 28 (by decide) (hn.get mw_1567 rfl) (fun _ h9 => h9) hf_mm_28 dX16_emit_5 ?_
  refine va_alen hx hb hK hP 1 2 rfl rfl rfl dX16_emit_8 ?_
  refine lv_topi (fun z8_1 ez8_1 => ?_)
  have r8_2 : rg z8_1 0 400000 := rg_len ez8_1 (show (0 : Int) ≤ ((CL : Nat) : Int) ∧ ((CL : Nat) : Int) ≤ 400000 from ⟨Int.natCast_nonneg _, FF.out hq0⟩) (by decide)
  refine lv_icmp_ne (tgt := 58) hx hb dX16_emit_9 (by decide) (fun c9_1 => ?_) (fun c9_1 => ?_)
  · have t9_2 := FF.mk (i_ne c9_1)
    refine lv_aload_n hx hb dX16_emit_58 rfl (lv_at hl 0 rfl) ?_
    refine va_get (D := D) (ci := 16) (v := .ref uco) (C := RX16) (T := TX16) (N := 78) hx hb (htX16 hn) (fun _ h => h) hown hK hP 0 rfl rfl 28 (by decide) (hn.get mw_1567 rfl) (fun _ h9 => h9) hf_mm_28 dX16_emit_59 ?_
    refine lv_aload_n hx hb dX16_emit_62 rfl (lv_at hl 0 rfl) ?_
    refine va_get (D := D) (ci := 16) (v := .int x_mm_29) (C := RX16) (T := TX16) (N := 78) hx hb (htX16 hn) (fun _ h => h) hown hK hP 0 rfl rfl 29 (by decide) (hn.get mw_1568 rfl) (fun _ h9 => h9) hf_mm_29 dX16_emit_63 ?_
    refine lv_iload_n hx hb dX16_emit_66 rfl (lv_at hl 1 rfl) ?_
    refine lv_i2l hx hb dX16_emit_67 rfl ?_
    refine lv_topl (fun z67_1 ez67_1 => ?_)
    have r67_2 : rl z67_1 (-2147483648) 2147483647 := rl_i2l ez67_1 (rg_any v0)
    refine lv_iload_n hx hb dX16_emit_68 rfl (lv_at hl 2 rfl) ?_
    refine lv_iload_n hx hb dX16_emit_69 rfl (lv_at hl 3 rfl) ?_
    refine lv_iconst (v := 4) hx hb dX16_emit_70 (by decide) ?_
    refine lv_ishl hx hb dX16_emit_71 ?_
    refine lv_topi (fun z71_1 ez71_1 => ?_)
    refine lv_ior hx hb dX16_emit_72 ?_
    refine lv_topi (fun z72_1 ez72_1 => ?_)
    refine lv_i2l hx hb dX16_emit_73 rfl ?_
    refine lv_topl (fun z73_1 ez73_1 => ?_)
    have r73_2 : rl z73_1 (-2147483648) 2147483647 := rl_i2l ez73_1 (rg_any z72_1)
    refine lv_bipush (v := 8) hx hb dX16_emit_74 (by decide) ?_
    refine lv_lshl hx hb dX16_emit_76 rfl ?_
    refine lv_topl (fun z76_1 ez76_1 => ?_)
    refine lv_lor hx hb dX16_emit_77 ?_
    refine lv_topl (fun z77_1 ez77_1 => ?_)
    refine lv_iload hx hb dX16_emit_78 (lv_at hl 4 rfl) ?_
    refine lv_i2l hx hb dX16_emit_80 rfl ?_
    refine lv_topl (fun z80_1 ez80_1 => ?_)
    have r80_2 : rl z80_1 (-2147483648) 2147483647 := rl_i2l ez80_1 (rg_any v3)
    refine lv_ldc2 (v := 65535) hx hb hown (hn.get mw_2156 rfl) dX16_emit_81 ?_
    refine lv_land hx hb dX16_emit_84 ?_
    refine lv_topl (fun z84_1 ez84_1 => ?_)
    have r84_2 : rl z84_1 0 65535 := rgL_andr ez84_1 (show rl (65535 : Int64) 65535 65535 from rl_l (by decide)) (by decide)
    refine lv_bipush (v := 16) hx hb dX16_emit_85 (by decide) ?_
    refine lv_lshl hx hb dX16_emit_87 rfl ?_
    refine lv_topl (fun z87_1 ez87_1 => ?_)
    refine lv_lor hx hb dX16_emit_88 ?_
    refine lv_topl (fun z88_1 ez88_1 => ?_)
    refine lv_lload hx hb dX16_emit_89 (lv_at hl 5 rfl) ?_
    refine lv_bipush (v := 32) hx hb dX16_emit_91 (by decide) ?_
    refine lv_lshl hx hb dX16_emit_93 rfl ?_
    refine lv_topl (fun z93_1 ez93_1 => ?_)
    refine lv_lor hx hb dX16_emit_94 ?_
    refine lv_topl (fun z94_1 ez94_1 => ?_)
    have hi95_1 : vp_in x_mm_29 CL := (in_of (show 0 ≤ x_mm_29.toInt ∧ x_mm_29.toInt < ((CL : Nat) : Int) by have q0 := h_x_mm_29.1; have q1 := (eq_len ez8_1 (show (0 : Int) ≤ ((CL : Nat) : Int) ∧ ((CL : Nat) : Int) ≤ 400000 from ⟨Int.natCast_nonneg _, FF.out hq0⟩) (by decide)); have q2 := FF.out hq3; have q3 := FF.out t9_2; omega))
    refine va_last hx hb hK hP hD hS 1 2 rfl rfl hi95_1 dX16_emit_95 (fun H locs hP hD hS => ?_)
    have hP : va_P D vwCl [(mm, .inr (16, fs_mm)), (uco, .inl (ct 2, CL, .inr (.inl (vp_updL g_uco x_mm_29.toNatClampNeg z94_1))))] _ := hP
    have hD : va_D A [(mm, .inr (16, fs_mm)), (uco, .inl (ct 2, CL, .inr (.inl (vp_updL g_uco x_mm_29.toNatClampNeg z94_1))))] := hD
    obtain ⟨f95_2, ef95_2⟩ : ∃ z, z = (vp_updL g_uco x_mm_29.toNatClampNeg z94_1) := ⟨_, rfl⟩
    rw [← ef95_2] at hP hD
    refine lv_aload_n hx hb dX16_emit_96 rfl (lv_at hl 0 rfl) ?_
    refine lv_dup hx hb dX16_emit_97 rfl ?_
    refine va_get (D := D) (ci := 16) (v := .int x_mm_29) (C := RX16) (T := TX16) (N := 78) hx hb (htX16 hn) (fun _ h => h) hown hK hP 0 rfl rfl 29 (by decide) (hn.get mw_1568 rfl) (fun _ h9 => h9) hf_mm_29 dX16_emit_98 ?_
    refine lv_iconst (v := 1) hx hb dX16_emit_101 (by decide) ?_
    refine lv_iadd hx hb dX16_emit_102 ?_
    refine lv_topi (fun z102_1 ez102_1 => ?_)
    have r102_2 : rg z102_1 1 200001 := rg_add ez102_1 h_x_mm_29 (show rg (1 : Int32) 1 1 from rg_l (by decide)) (by decide)
    refine va_put (D := D) (ci := 16) (v := .int z102_1) (ty := .int) (C := RX16) (T := TX16) (N := 78) hx hb (htX16 hn) (fun _ h => h) tyX16 tyX16_ok nmX16 hown hK hP hD hS 0 rfl rfl 29 (by decide) (hn.get mw_1568 rfl) (fun _ h9 => h9) rfl (by decide +kernel) rfl rfl (by rw [hlen_mm]; decide) dX16_emit_103 (fun H locs hP hD hS => ?_)
    have hP : va_P D vwCl [(mm, .inr (16, (fs_mm.set 29 (.int z102_1)))), (uco, .inl (ct 2, CL, .inr (.inl f95_2)))] _ := hP
    have hD : va_D A [(mm, .inr (16, (fs_mm.set 29 (.int z102_1)))), (uco, .inl (ct 2, CL, .inr (.inl f95_2)))] := hD
    obtain ⟨m103_1, em103_1⟩ : ∃ z, z = (fs_mm.set 29 (.int z102_1)) := ⟨_, rfl⟩
    rw [← em103_1] at hP hD
    have hsm103_1 : SB fs_mm m103_1 [28, 29] := by rw [em103_1]; exact SB.set (SB.rf _ _) (by decide)
    have hfm103_1_28 : m103_1[28]? = some (.ref uco) := by rw [em103_1]; exact fs_ne (by decide) hf_mm_28
    have hfm103_1_29 : m103_1[29]? = some (.int z102_1) := by rw [em103_1]; exact fs_eq (by rw [hlen_mm]; decide)
    have hP : va_P D vwCl [(mm, .inr (16, m103_1)), (uco, .inl (ct 2, CL, .inr (.inl f95_2)))] _ := hP
    have hD : va_D A [(mm, .inr (16, m103_1)), (uco, .inl (ct 2, CL, .inr (.inl f95_2)))] := hD
    exact et_v (SX := Unit) (pl1 := fun _ => []) hQ hx hb hr hlocks dX16_emit_106 (m103_1, uco, z102_1, f95_2, CL, 0, 0) ⟨hsm103_1, hfm103_1_28, r102_2, hfm103_1_29, (show z102_1.toInt = x_mm_29.toInt + 1 by have q0 := (eq_add ez102_1 h_x_mm_29 (show rg (1 : Int32) 1 1 from rg_l (by decide)) (by decide)); have q1 := (show (1 : Int32).toInt = 1 from by decide); omega), (show z102_1.toInt ≤ ((CL : Nat) : Int) by have q0 := (eq_add ez102_1 h_x_mm_29 (show rg (1 : Int32) 1 1 from rg_l (by decide)) (by decide)); have q1 := (eq_len ez8_1 (show (0 : Int) ≤ ((CL : Nat) : Int) ∧ ((CL : Nat) : Int) ≤ 400000 from ⟨Int.natCast_nonneg _, FF.out hq0⟩) (by decide)); have q2 := FF.out hq3; have q3 := FF.out t9_2; have q4 := (show (1 : Int32).toInt = 1 from by decide); omega), (show 64 * ((0 : Nat) : Int) + ((CL : Nat) : Int) ≤ ((CL : Nat) : Int) by omega), (show ((0 : Nat) : Int) = 2 * (((CL : Nat) : Int) - ((CL : Nat) : Int)) by omega), (show ((0 : Nat) : Int) ≤ 1 by omega), (show ((CL : Nat) : Int) = ((CL : Nat) : Int) ∨ ((CL : Nat) : Int) = 2 * x_mm_29.toInt by omega)⟩ (by rw [List.append_nil]; exact hP) (by rw [List.append_nil]; exact hD) hS [0, 1] (by decide) rfl (Nat.le_refl _) (Nat.le_refl _) (Nat.zero_le MC) (Nat.zero_le MS)
  · have t9_2 := FF.mk (i_eq c9_1)
    have r9_3 : rg z8_1 0 200000 := rg_eqB t9_2 h_x_mm_29 r8_2 (by decide)
    refine lv_iconst (v := 2) hx hb dX16_emit_12 (by decide) ?_
    refine lv_aload_n hx hb dX16_emit_13 rfl (lv_at hl 0 rfl) ?_
    refine va_get (D := D) (ci := 16) (v := .int x_mm_29) (C := RX16) (T := TX16) (N := 78) hx hb (htX16 hn) (fun _ h => h) hown hK hP 0 rfl rfl 29 (by decide) (hn.get mw_1568 rfl) (fun _ h9 => h9) hf_mm_29 dX16_emit_14 ?_
    refine lv_imul hx hb dX16_emit_17 ?_
    refine lv_topi (fun z17_1 ez17_1 => ?_)
    have r17_2 : rg z17_1 0 400000 := rg_mul ez17_1 (show rg (2 : Int32) 2 2 from rg_l (by decide)) h_x_mm_29 (by decide)
    obtain ⟨n18_2, gn18_2⟩ : ∃ k : Nat, z17_1.toNatClampNeg = k := ⟨_, rfl⟩
    have en18_2 := FF.mk (ncn_up gn18_2 (show 0 ≤ z17_1.toInt by have q0 := (eq_mull ez17_1 (show rg (2 : Int32) 2 2 from rg_l (by decide)) h_x_mm_29 (by decide)); have q1 := (eq_len ez8_1 (show (0 : Int) ≤ ((CL : Nat) : Int) ∧ ((CL : Nat) : Int) ≤ 400000 from ⟨Int.natCast_nonneg _, FF.out hq0⟩) (by decide)); have q2 := FF.out hq4; have q3 := FF.out t9_2; omega))
    obtain ⟨c18_3, ec18_3⟩ : ∃ x9 : Nat, x9 = 0 + 1 := ⟨_, rfl⟩
    have ec18_3 := FF.mk ec18_3
    have mc18_3 : FF (c18_3 ≤ MC) := FF.mk (Int.ofNat_le.mp (show ((c18_3 : Nat) : Int) ≤ ((MC : Nat) : Int) by have q0 := FF.out hq1; have q1 := FF.out ec18_3; omega))
    obtain ⟨k18_4, ek18_4⟩ : ∃ x9 : Nat, x9 = 0 + n18_2 := ⟨_, rfl⟩
    have ek18_4 := FF.mk ek18_4
    have mk18_4 : FF (k18_4 ≤ MS) := FF.mk (Int.ofNat_le.mp (show ((k18_4 : Nat) : Int) ≤ ((MS : Nat) : Int) by have q0 := (eq_mull ez17_1 (show rg (2 : Int32) 2 2 from rg_l (by decide)) h_x_mm_29 (by decide)); have q1 := FF.out hq2; have q2 := FF.out en18_2; have q3 := FF.out ek18_4; omega))
    have nbn18_2 : (0 : Int) ≤ ((n18_2 : Nat) : Int) ∧ ((n18_2 : Nat) : Int) ≤ 500000 := ⟨Int.natCast_nonneg _, (show ((n18_2 : Nat) : Int) ≤ 500000 by have q0 := r17_2.2; have q1 := FF.out en18_2; omega)⟩
    refine na_new (atype := .long) (k1 := c18_3) (n1 := k18_4) hx hb hn mw_123 rfl hK hP hD hS hA 2 rfl n18_2 (n18_2, .inr (.inl (fun _ => 0))) (fun _ => rfl) (nneg_of (show 0 ≤ z17_1.toInt by have q0 := (eq_mull ez17_1 (show rg (2 : Int32) 2 2 from rg_l (by decide)) h_x_mm_29 (by decide)); have q1 := (eq_len ez8_1 (show (0 : Int) ≤ ((CL : Nat) : Int) ∧ ((CL : Nat) : Int) ≤ 400000 from ⟨Int.natCast_nonneg _, FF.out hq0⟩) (by decide)); have q2 := FF.out hq4; have q3 := FF.out t9_2; omega)) gn18_2 (show n18_2 * 8 ≤ 536870912 by have h9 := (show ((n18_2 : Nat) : Int) ≤ 67108864 by have q0 := r17_2.2; have q1 := FF.out en18_2; omega); omega) (Nat.le_of_eq (FF.out ec18_3).symm) (Nat.le_of_eq (FF.out ek18_4).symm) (FF.out mc18_3) (FF.out mk18_4) dX16_emit_18 (fun q18_1 H hP hD hS => ?_)
    have hP : va_P D vwCl [(mm, .inr (16, fs_mm)), (uco, .inl (ct 2, CL, .inr (.inl g_uco))), (q18_1, .inl (ct 2, n18_2, .inr (.inl (fun _ => 0))))] _ := hP
    have hD : va_D A [(mm, .inr (16, fs_mm)), (uco, .inl (ct 2, CL, .inr (.inl g_uco))), (q18_1, .inl (ct 2, n18_2, .inr (.inl (fun _ => 0))))] := hD
    refine lv_astore (lv' := [(7, .ref q18_1), (0, .ref mm), (1, .int v0), (2, .int v1), (3, .int v2), (4, .int v3), (5, .long v4)]) hx hb dX16_emit_20 hl (by decide) rfl (fun ls hl => ?_)
    refine lv_iconst (v := 0) hx hb dX16_emit_22 (by decide) ?_
    refine lv_istore (lv' := [(8, .int 0), (7, .ref q18_1), (0, .ref mm), (1, .int v0), (2, .int v1), (3, .int v2), (4, .int v3), (5, .long v4)]) hx hb dX16_emit_23 hl (by decide) rfl (fun ls hl => ?_)
    have b25 : ∀ (n25 : Nat) (j25_l8 : Int32) (j25_cq18_1 : Nat → Int64) (H : Heap) (locs : List Loc) (ls : Array Slot), (rg j25_l8 0 2147483647) → ((2147483647 : Int) - j25_l8.toInt).toNat < n25 → lv_has ls 9 [(0, .ref mm), (1, .int v0), (2, .int v1), (3, .int v2), (4, .int v3), (5, .long v4), (7, .ref q18_1), (8, .int j25_l8)] → va_P D vwCl [(mm, .inr (16, fs_mm)), (uco, .inl (ct 2, CL, .inr (.inl g_uco))), (q18_1, .inl (ct 2, n18_2, .inr (.inl j25_cq18_1)))] H → va_D A [(mm, .inr (16, fs_mm)), (uco, .inl (ct 2, CL, .inr (.inl g_uco))), (q18_1, .inl (ct 2, n18_2, .inr (.inl j25_cq18_1)))] → va_S A s.heap H locs → W p l e ({ frames := 1, cells := MC, slots := MS, locals := 20 }) s m [.ref mm, .int v0, .int v1, .int v2, .int v3, .long v4].toArray below meth c H locs c18_3 k18_4 Q (F0 m 25 ls []) := by
      intro n25
      induction n25 with
      | zero => intros; rename_i hms _ _ _ _; exact absurd hms (Nat.not_lt_zero _)
      | succ n25 ih25 =>
        intro j25_l8 j25_cq18_1 H locs ls r25_1001 hms25 hl hP hD hS
        refine lv_iload hx hb dX16_emit_25 (lv_at hl 7 rfl) ?_
        refine lv_aload_n hx hb dX16_emit_27 rfl (lv_at hl 0 rfl) ?_
        refine va_get (D := D) (ci := 16) (v := .int x_mm_29) (C := RX16) (T := TX16) (N := 78) hx hb (htX16 hn) (fun _ h => h) hown hK hP 0 rfl rfl 29 (by decide) (hn.get mw_1568 rfl) (fun _ h9 => h9) hf_mm_29 dX16_emit_28 ?_
        refine lv_icmp_ge (tgt := 52) hx hb dX16_emit_31 (by decide) (fun c31_1 => ?_) (fun c31_1 => ?_)
        · have t31_2 := FF.mk (i_le c31_1)
          refine lv_aload_n hx hb dX16_emit_52 rfl (lv_at hl 0 rfl) ?_
          refine lv_aload hx hb dX16_emit_53 (lv_at hl 6 rfl) ?_
          refine va_put (D := D) (ci := 16) (v := .ref q18_1) (ty := .array .long) (C := RX16) (T := TX16) (N := 78) hx hb (htX16 hn) (fun _ h => h) tyX16 tyX16_ok nmX16 hown hK hP hD hS 0 rfl rfl 28 (by decide) (hn.get mw_1567 rfl) (fun _ h9 => h9) rfl (by decide +kernel) rfl rfl (by rw [hlen_mm]; decide) dX16_emit_55 (fun H locs hP hD hS => ?_)
          have hP : va_P D vwCl [(mm, .inr (16, (fs_mm.set 28 (.ref q18_1)))), (uco, .inl (ct 2, CL, .inr (.inl g_uco))), (q18_1, .inl (ct 2, n18_2, .inr (.inl j25_cq18_1)))] _ := hP
          have hD : va_D A [(mm, .inr (16, (fs_mm.set 28 (.ref q18_1)))), (uco, .inl (ct 2, CL, .inr (.inl g_uco))), (q18_1, .inl (ct 2, n18_2, .inr (.inl j25_cq18_1)))] := hD
          obtain ⟨m55_1, em55_1⟩ : ∃ z, z = (fs_mm.set 28 (.ref q18_1)) := ⟨_, rfl⟩
          rw [← em55_1] at hP hD
          have hsm55_1 : SB fs_mm m55_1 [28, 29] := by rw [em55_1]; exact SB.set (SB.rf _ _) (by decide)
          have hfm55_1_29 : m55_1[29]? = some (.int x_mm_29) := by rw [em55_1]; exact fs_ne (by decide) hf_mm_29
          have hfm55_1_28 : m55_1[28]? = some (.ref q18_1) := by rw [em55_1]; exact fs_eq (by rw [hlen_mm]; decide)
          have hP : va_P D vwCl [(mm, .inr (16, m55_1)), (uco, .inl (ct 2, CL, .inr (.inl g_uco))), (q18_1, .inl (ct 2, n18_2, .inr (.inl j25_cq18_1)))] _ := hP
          have hD : va_D A [(mm, .inr (16, m55_1)), (uco, .inl (ct 2, CL, .inr (.inl g_uco))), (q18_1, .inl (ct 2, n18_2, .inr (.inl j25_cq18_1)))] := hD
          refine lv_aload_n hx hb dX16_emit_58 rfl (lv_at hl 0 rfl) ?_
          refine va_get (D := D) (ci := 16) (v := .ref q18_1) (C := RX16) (T := TX16) (N := 78) hx hb (htX16 hn) (fun _ h => h) hown hK hP 0 rfl rfl 28 (by decide) (hn.get mw_1567 rfl) (fun _ h9 => h9) hfm55_1_28 dX16_emit_59 ?_
          refine lv_aload_n hx hb dX16_emit_62 rfl (lv_at hl 0 rfl) ?_
          refine va_get (D := D) (ci := 16) (v := .int x_mm_29) (C := RX16) (T := TX16) (N := 78) hx hb (htX16 hn) (fun _ h => h) hown hK hP 0 rfl rfl 29 (by decide) (hn.get mw_1568 rfl) (fun _ h9 => h9) hfm55_1_29 dX16_emit_63 ?_
          refine lv_iload_n hx hb dX16_emit_66 rfl (lv_at hl 1 rfl) ?_
          refine lv_i2l hx hb dX16_emit_67 rfl ?_
          refine lv_topl (fun z67_1 ez67_1 => ?_)
          have r67_2 : rl z67_1 (-2147483648) 2147483647 := rl_i2l ez67_1 (rg_any v0)
          refine lv_iload_n hx hb dX16_emit_68 rfl (lv_at hl 2 rfl) ?_
          refine lv_iload_n hx hb dX16_emit_69 rfl (lv_at hl 3 rfl) ?_
          refine lv_iconst (v := 4) hx hb dX16_emit_70 (by decide) ?_
          refine lv_ishl hx hb dX16_emit_71 ?_
          refine lv_topi (fun z71_1 ez71_1 => ?_)
          refine lv_ior hx hb dX16_emit_72 ?_
          refine lv_topi (fun z72_1 ez72_1 => ?_)
          refine lv_i2l hx hb dX16_emit_73 rfl ?_
          refine lv_topl (fun z73_1 ez73_1 => ?_)
          have r73_2 : rl z73_1 (-2147483648) 2147483647 := rl_i2l ez73_1 (rg_any z72_1)
          refine lv_bipush (v := 8) hx hb dX16_emit_74 (by decide) ?_
          refine lv_lshl hx hb dX16_emit_76 rfl ?_
          refine lv_topl (fun z76_1 ez76_1 => ?_)
          refine lv_lor hx hb dX16_emit_77 ?_
          refine lv_topl (fun z77_1 ez77_1 => ?_)
          refine lv_iload hx hb dX16_emit_78 (lv_at hl 4 rfl) ?_
          refine lv_i2l hx hb dX16_emit_80 rfl ?_
          refine lv_topl (fun z80_1 ez80_1 => ?_)
          have r80_2 : rl z80_1 (-2147483648) 2147483647 := rl_i2l ez80_1 (rg_any v3)
          refine lv_ldc2 (v := 65535) hx hb hown (hn.get mw_2156 rfl) dX16_emit_81 ?_
          refine lv_land hx hb dX16_emit_84 ?_
          refine lv_topl (fun z84_1 ez84_1 => ?_)
          have r84_2 : rl z84_1 0 65535 := rgL_andr ez84_1 (show rl (65535 : Int64) 65535 65535 from rl_l (by decide)) (by decide)
          refine lv_bipush (v := 16) hx hb dX16_emit_85 (by decide) ?_
          refine lv_lshl hx hb dX16_emit_87 rfl ?_
          refine lv_topl (fun z87_1 ez87_1 => ?_)
          refine lv_lor hx hb dX16_emit_88 ?_
          refine lv_topl (fun z88_1 ez88_1 => ?_)
          refine lv_lload hx hb dX16_emit_89 (lv_at hl 5 rfl) ?_
          refine lv_bipush (v := 32) hx hb dX16_emit_91 (by decide) ?_
          refine lv_lshl hx hb dX16_emit_93 rfl ?_
          refine lv_topl (fun z93_1 ez93_1 => ?_)
          refine lv_lor hx hb dX16_emit_94 ?_
          refine lv_topl (fun z94_1 ez94_1 => ?_)
          have hi95_1 : vp_in x_mm_29 n18_2 := (in_of (show 0 ≤ x_mm_29.toInt ∧ x_mm_29.toInt < ((n18_2 : Nat) : Int) by have q0 := (eq_len ez8_1 (show (0 : Int) ≤ ((CL : Nat) : Int) ∧ ((CL : Nat) : Int) ≤ 400000 from ⟨Int.natCast_nonneg _, FF.out hq0⟩) (by decide)); have q1 := (eq_mull ez17_1 (show rg (2 : Int32) 2 2 from rg_l (by decide)) h_x_mm_29 (by decide)); have q2 := FF.out hq4; have q3 := FF.out t9_2; have q4 := FF.out en18_2; omega))
          refine va_last hx hb hK hP hD hS 2 2 rfl rfl hi95_1 dX16_emit_95 (fun H locs hP hD hS => ?_)
          have hP : va_P D vwCl [(mm, .inr (16, m55_1)), (uco, .inl (ct 2, CL, .inr (.inl g_uco))), (q18_1, .inl (ct 2, n18_2, .inr (.inl (vp_updL j25_cq18_1 x_mm_29.toNatClampNeg z94_1))))] _ := hP
          have hD : va_D A [(mm, .inr (16, m55_1)), (uco, .inl (ct 2, CL, .inr (.inl g_uco))), (q18_1, .inl (ct 2, n18_2, .inr (.inl (vp_updL j25_cq18_1 x_mm_29.toNatClampNeg z94_1))))] := hD
          obtain ⟨f95_2, ef95_2⟩ : ∃ z, z = (vp_updL j25_cq18_1 x_mm_29.toNatClampNeg z94_1) := ⟨_, rfl⟩
          rw [← ef95_2] at hP hD
          refine lv_aload_n hx hb dX16_emit_96 rfl (lv_at hl 0 rfl) ?_
          refine lv_dup hx hb dX16_emit_97 rfl ?_
          refine va_get (D := D) (ci := 16) (v := .int x_mm_29) (C := RX16) (T := TX16) (N := 78) hx hb (htX16 hn) (fun _ h => h) hown hK hP 0 rfl rfl 29 (by decide) (hn.get mw_1568 rfl) (fun _ h9 => h9) hfm55_1_29 dX16_emit_98 ?_
          refine lv_iconst (v := 1) hx hb dX16_emit_101 (by decide) ?_
          refine lv_iadd hx hb dX16_emit_102 ?_
          refine lv_topi (fun z102_1 ez102_1 => ?_)
          have r102_2 : rg z102_1 1 200001 := rg_add ez102_1 h_x_mm_29 (show rg (1 : Int32) 1 1 from rg_l (by decide)) (by decide)
          refine va_put (D := D) (ci := 16) (v := .int z102_1) (ty := .int) (C := RX16) (T := TX16) (N := 78) hx hb (htX16 hn) (fun _ h => h) tyX16 tyX16_ok nmX16 hown hK hP hD hS 0 rfl rfl 29 (by decide) (hn.get mw_1568 rfl) (fun _ h9 => h9) rfl (by decide +kernel) rfl rfl (by rw [hsm55_1.1, hlen_mm]; decide) dX16_emit_103 (fun H locs hP hD hS => ?_)
          have hP : va_P D vwCl [(mm, .inr (16, (m55_1.set 29 (.int z102_1)))), (uco, .inl (ct 2, CL, .inr (.inl g_uco))), (q18_1, .inl (ct 2, n18_2, .inr (.inl f95_2)))] _ := hP
          have hD : va_D A [(mm, .inr (16, (m55_1.set 29 (.int z102_1)))), (uco, .inl (ct 2, CL, .inr (.inl g_uco))), (q18_1, .inl (ct 2, n18_2, .inr (.inl f95_2)))] := hD
          obtain ⟨m103_1, em103_1⟩ : ∃ z, z = (m55_1.set 29 (.int z102_1)) := ⟨_, rfl⟩
          rw [← em103_1] at hP hD
          have hsm103_1 : SB fs_mm m103_1 [28, 29] := by rw [em103_1]; exact SB.set hsm55_1 (by decide)
          have hfm103_1_28 : m103_1[28]? = some (.ref q18_1) := by rw [em103_1]; exact fs_ne (by decide) hfm55_1_28
          have hfm103_1_29 : m103_1[29]? = some (.int z102_1) := by rw [em103_1]; exact fs_eq (by rw [hsm55_1.1, hlen_mm]; decide)
          have hP : va_P D vwCl [(mm, .inr (16, m103_1)), (uco, .inl (ct 2, CL, .inr (.inl g_uco))), (q18_1, .inl (ct 2, n18_2, .inr (.inl f95_2)))] _ := hP
          have hD : va_D A [(mm, .inr (16, m103_1)), (uco, .inl (ct 2, CL, .inr (.inl g_uco))), (q18_1, .inl (ct 2, n18_2, .inr (.inl f95_2)))] := hD
          exact et_v (SX := Unit) (pl1 := fun _ => []) hQ hx hb hr hlocks dX16_emit_106 (m103_1, q18_1, z102_1, f95_2, n18_2, c18_3, k18_4) ⟨hsm103_1, hfm103_1_28, r102_2, hfm103_1_29, (show z102_1.toInt = x_mm_29.toInt + 1 by have q0 := (eq_add ez102_1 h_x_mm_29 (show rg (1 : Int32) 1 1 from rg_l (by decide)) (by decide)); have q1 := (show (1 : Int32).toInt = 1 from by decide); omega), (show z102_1.toInt ≤ ((n18_2 : Nat) : Int) by have q0 := (eq_add ez102_1 h_x_mm_29 (show rg (1 : Int32) 1 1 from rg_l (by decide)) (by decide)); have q1 := (eq_len ez8_1 (show (0 : Int) ≤ ((CL : Nat) : Int) ∧ ((CL : Nat) : Int) ≤ 400000 from ⟨Int.natCast_nonneg _, FF.out hq0⟩) (by decide)); have q2 := (eq_mull ez17_1 (show rg (2 : Int32) 2 2 from rg_l (by decide)) h_x_mm_29 (by decide)); have q3 := FF.out hq4; have q4 := FF.out t9_2; have q5 := FF.out en18_2; have q6 := (show (1 : Int32).toInt = 1 from by decide); omega), (show 64 * ((c18_3 : Nat) : Int) + ((CL : Nat) : Int) ≤ ((n18_2 : Nat) : Int) by have q0 := (eq_mull ez17_1 (show rg (2 : Int32) 2 2 from rg_l (by decide)) h_x_mm_29 (by decide)); have q1 := (eq_len ez8_1 (show (0 : Int) ≤ ((CL : Nat) : Int) ∧ ((CL : Nat) : Int) ≤ 400000 from ⟨Int.natCast_nonneg _, FF.out hq0⟩) (by decide)); have q2 := FF.out hq4; have q3 := FF.out t9_2; have q4 := FF.out en18_2; have q5 := FF.out ec18_3; omega), (show ((k18_4 : Nat) : Int) = 2 * (((n18_2 : Nat) : Int) - ((CL : Nat) : Int)) by have q0 := (eq_mull ez17_1 (show rg (2 : Int32) 2 2 from rg_l (by decide)) h_x_mm_29 (by decide)); have q1 := (eq_len ez8_1 (show (0 : Int) ≤ ((CL : Nat) : Int) ∧ ((CL : Nat) : Int) ≤ 400000 from ⟨Int.natCast_nonneg _, FF.out hq0⟩) (by decide)); have q2 := FF.out hq3; have q3 := FF.out t9_2; have q4 := FF.out en18_2; have q5 := FF.out ek18_4; omega), (show ((c18_3 : Nat) : Int) ≤ 1 by have q0 := FF.out ec18_3; omega), (show ((n18_2 : Nat) : Int) = ((CL : Nat) : Int) ∨ ((n18_2 : Nat) : Int) = 2 * x_mm_29.toInt by have q0 := (eq_mull ez17_1 (show rg (2 : Int32) 2 2 from rg_l (by decide)) h_x_mm_29 (by decide)); have q1 := FF.out en18_2; omega)⟩ (by rw [List.append_nil]; exact hP) (by rw [List.append_nil]; exact hD) hS [0, 2] (by decide) rfl (Nat.le_refl _) (Nat.le_refl _) (FF.out mc18_3) (FF.out mk18_4)
        · have t31_2 := FF.mk (i_nle c31_1)
          have r31_3 : rg j25_l8 0 199999 := rg_ltA t31_2 r25_1001 h_x_mm_29 (by decide)
          have r31_4 : rg x_mm_29 1 200000 := rg_ltB t31_2 r25_1001 h_x_mm_29 (by decide)
          refine lv_aload hx hb dX16_emit_34 (lv_at hl 6 rfl) ?_
          refine lv_iload hx hb dX16_emit_36 (lv_at hl 7 rfl) ?_
          refine lv_aload_n hx hb dX16_emit_38 rfl (lv_at hl 0 rfl) ?_
          refine va_get (D := D) (ci := 16) (v := .ref uco) (C := RX16) (T := TX16) (N := 78) hx hb (htX16 hn) (fun _ h => h) hown hK hP 0 rfl rfl 28 (by decide) (hn.get mw_1567 rfl) (fun _ h9 => h9) hf_mm_28 dX16_emit_39 ?_
          refine lv_iload hx hb dX16_emit_42 (lv_at hl 7 rfl) ?_
          have hi44_1 : vp_in j25_l8 CL := (in_of (show 0 ≤ j25_l8.toInt ∧ j25_l8.toInt < ((CL : Nat) : Int) by have q0 := r31_3.1; have q1 := FF.out hq3; have q2 := FF.out t31_2; omega))
          refine va_lald hx hb hK hP 1 2 rfl rfl hi44_1 dX16_emit_44 ?_
          refine lv_topl (fun z44_2 ez44_2 => ?_)
          have hi45_1 : vp_in j25_l8 n18_2 := (in_of (show 0 ≤ j25_l8.toInt ∧ j25_l8.toInt < ((n18_2 : Nat) : Int) by have q0 := r31_3.1; have q1 := (eq_len ez8_1 (show (0 : Int) ≤ ((CL : Nat) : Int) ∧ ((CL : Nat) : Int) ≤ 400000 from ⟨Int.natCast_nonneg _, FF.out hq0⟩) (by decide)); have q2 := (eq_mull ez17_1 (show rg (2 : Int32) 2 2 from rg_l (by decide)) h_x_mm_29 (by decide)); have q3 := FF.out hq4; have q4 := FF.out t9_2; have q5 := FF.out en18_2; have q6 := FF.out t31_2; omega))
          refine va_last hx hb hK hP hD hS 2 2 rfl rfl hi45_1 dX16_emit_45 (fun H locs hP hD hS => ?_)
          have hP : va_P D vwCl [(mm, .inr (16, fs_mm)), (uco, .inl (ct 2, CL, .inr (.inl g_uco))), (q18_1, .inl (ct 2, n18_2, .inr (.inl (vp_updL j25_cq18_1 j25_l8.toNatClampNeg z44_2))))] _ := hP
          have hD : va_D A [(mm, .inr (16, fs_mm)), (uco, .inl (ct 2, CL, .inr (.inl g_uco))), (q18_1, .inl (ct 2, n18_2, .inr (.inl (vp_updL j25_cq18_1 j25_l8.toNatClampNeg z44_2))))] := hD
          obtain ⟨f45_2, ef45_2⟩ : ∃ z, z = (vp_updL j25_cq18_1 j25_l8.toNatClampNeg z44_2) := ⟨_, rfl⟩
          rw [← ef45_2] at hP hD
          obtain ⟨x46_1, ex46_1⟩ : ∃ z : Int32, z = j25_l8 + 1 := ⟨_, rfl⟩
          have r46_2 : rg x46_1 1 200000 := rg_add ex46_1 r31_3 (show rg (1 : Int32) 1 1 from rg_l (by decide)) (by decide)
          refine lv_iinc (v := x46_1) (lv' := [(8, .int x46_1), (0, .ref mm), (1, .int v0), (2, .int v1), (3, .int v2), (4, .int v3), (5, .long v4), (7, .ref q18_1)]) hx hb dX16_emit_46 hl (k := 7) rfl (by rw [ex46_1]; rfl) (by decide) rfl (fun ls hl => ?_)
          refine lv_goto (tgt := 25) hx hb dX16_emit_49 (by decide) ?_
          exact ih25 x46_1 f45_2 H locs ls (rg_w r46_2 (by decide)) (show ((2147483647 : Int) - x46_1.toInt).toNat < n25 by have q0 := r31_3.2; have q1 := (eq_add ex46_1 r31_3 (show rg (1 : Int32) 1 1 from rg_l (by decide)) (by decide)); have q2 := (show (1 : Int32).toInt = 1 from by decide); have q3 := hms25; omega) (lv_sub hl [1, 2, 3, 4, 5, 6, 7, 0] rfl) hP hD hS
    exact b25 _ (0 : Int32) (fun _ => 0) H locs ls (rg_w (show rg (0 : Int32) 0 0 from rg_l (by decide)) (by decide)) (Nat.lt_succ_self _) (lv_sub hl [2, 3, 4, 5, 6, 7, 1, 0] rfl) hP hD hS
set_option maxHeartbeats 2000000 in
theorem c_X16_goesTo (l : Launch) (hst : l.stackTraces = false) (D : va_G) (ct : Nat → ClassId) (MC : Nat) (MS : Nat) (mm : Nat) (v0 : Int32) (fs_mm : List Value) (x_mm_29 : Int32) (uwa : Nat) (uww : Nat) (x_mm_32 : Int32) (g_uwa : Nat → Int32) (WL : Nat) (g_uww : Nat → Int32) (hlen_mm : fs_mm.length = 78) (h_x_mm_29 : rg x_mm_29 0 200000) (hf_mm_29 : fs_mm[29]? = some (.int x_mm_29)) (hf_mm_30 : fs_mm[30]? = some (.ref uwa)) (hf_mm_31 : fs_mm[31]? = some (.ref uww)) (h_x_mm_32 : rg x_mm_32 0 200000) (hf_mm_32 : fs_mm[32]? = some (.int x_mm_32)) (hq0 : ((WL : Nat) : Int) ≤ 400000) (hq1 : 2 ≤ ((MC : Nat) : Int)) (hq2 : 4 * x_mm_32.toInt ≤ ((MS : Nat) : Int)) (hq3 : x_mm_32.toInt ≤ ((WL : Nat) : Int)) (hq4 : 64 ≤ ((WL : Nat) : Int)) : KT (V := Unit) (S := List Value × Nat × Nat × Int32 × (Nat → Int32) × Nat × (Nat → Int32) × Nat × Nat) (SX := Unit) l yX16_goesTo cX16_goesTo 5 none 1 20 D ct [.ref mm, .int v0] [(mm, .inr (16, fs_mm)), (uwa, .inl (ct 1, WL, .inl g_uwa)), (uww, .inl (ct 1, WL, .inl g_uww))] MC MS (fun _ : Unit => none) (fun (_ : Unit) (u : List Value × Nat × Nat × Int32 × (Nat → Int32) × Nat × (Nat → Int32) × Nat × Nat) => match u with | (fs2_mm, a_mm_30, a_mm_31, y_mm_32, k_uwa, WL2, k_uww, kc, kn) => SB fs_mm fs2_mm [30, 31, 32] ∧ fs2_mm[30]? = some (.ref a_mm_30) ∧ fs2_mm[31]? = some (.ref a_mm_31) ∧ rg y_mm_32 1 200001 ∧ fs2_mm[32]? = some (.int y_mm_32) ∧ (y_mm_32.toInt = x_mm_32.toInt + 1) ∧ (y_mm_32.toInt ≤ ((WL2 : Nat) : Int)) ∧ (32 * ((kc : Nat) : Int) + ((WL : Nat) : Int) ≤ ((WL2 : Nat) : Int)) ∧ (((kn : Nat) : Int) = 4 * (((WL2 : Nat) : Int) - ((WL : Nat) : Int))) ∧ (((kc : Nat) : Int) ≤ 2) ∧ (((WL2 : Nat) : Int) = ((WL : Nat) : Int) ∨ ((WL2 : Nat) : Int) = 2 * x_mm_32.toInt)) (fun (u : List Value × Nat × Nat × Int32 × (Nat → Int32) × Nat × (Nat → Int32) × Nat × Nat) => match u with | (fs2_mm, a_mm_30, a_mm_31, y_mm_32, k_uwa, WL2, k_uww, kc, kn) => [(mm, .inr (16, fs2_mm)), (a_mm_30, .inl (ct 1, WL2, .inl k_uwa)), (a_mm_31, .inl (ct 1, WL2, .inl k_uww))] ++ []) (fun (u : List Value × Nat × Nat × Int32 × (Nat → Int32) × Nat × (Nat → Int32) × Nat × Nat) => match u with | (fs2_mm, a_mm_30, a_mm_31, y_mm_32, k_uwa, WL2, k_uww, kc, kn) => kc) (fun (u : List Value × Nat × Nat × Int32 × (Nat → Int32) × Nat × (Nat → Int32) × Nat × Nat) => match u with | (fs2_mm, a_mm_30, a_mm_31, y_mm_32, k_uwa, WL2, k_uww, kc, kn) => kn) 15 RX15 peW (fun _ => False) (fun _ => []) := by
  refine KT_of (by decide) (Nat.le_of_ble_eq_true rfl) (fun p e s m below meth c A Q C0 htab hA H locs hS hP hD hQ ls hl => ?_)
  obtain ⟨hx, hb, hr, hown, hin, hml, hlocks, hn, hK, hZ, hSK⟩ := C0
  have hl : lv_has ls 5 [(0, .ref mm), (1, .int v0)] := hl
  replace hq0 := FF.mk hq0
  replace hq1 := FF.mk hq1
  replace hq2 := FF.mk hq2
  replace hq3 := FF.mk hq3
  replace hq4 := FF.mk hq4
  refine lv_aload_n hx hb dX16_goesTo_0 rfl (lv_at hl 0 rfl) ?_
  refine va_get (D := D) (ci := 16) (v := .int x_mm_32) (C := RX16) (T := TX16) (N := 78) hx hb (htX16 hn) (fun _ h => h) hown hK hP 0 rfl rfl 32 (by decide) (hn.get mw_1571 rfl) (fun _ h9 => h9) hf_mm_32 dX16_goesTo_1 ?_
  refine lv_aload_n hx hb dX16_goesTo_4 rfl (lv_at hl 0 rfl) ?_
  refine va_get (D := D) (ci := 16) (v := .ref uwa) (C := RX16) (T := TX16) (N := 78) hx hb (htX16 hn) (fun _ h => h) hown hK hP 0 rfl rfl 30 (by decide) (hn.get mw_1569 rfl) (fun _ h9 => h9) hf_mm_30 dX16_goesTo_5 ?_
  refine va_alen hx hb hK hP 1 1 rfl rfl rfl dX16_goesTo_8 ?_
  refine lv_topi (fun z8_1 ez8_1 => ?_)
  have r8_2 : rg z8_1 0 400000 := rg_len ez8_1 (show (0 : Int) ≤ ((WL : Nat) : Int) ∧ ((WL : Nat) : Int) ≤ 400000 from ⟨Int.natCast_nonneg _, FF.out hq0⟩) (by decide)
  refine lv_icmp_ne (tgt := 80) hx hb dX16_goesTo_9 (by decide) (fun c9_1 => ?_) (fun c9_1 => ?_)
  · have t9_2 := FF.mk (i_ne c9_1)
    refine lv_aload_n hx hb dX16_goesTo_80 rfl (lv_at hl 0 rfl) ?_
    refine va_get (D := D) (ci := 16) (v := .ref uwa) (C := RX16) (T := TX16) (N := 78) hx hb (htX16 hn) (fun _ h => h) hown hK hP 0 rfl rfl 30 (by decide) (hn.get mw_1569 rfl) (fun _ h9 => h9) hf_mm_30 dX16_goesTo_81 ?_
    refine lv_aload_n hx hb dX16_goesTo_84 rfl (lv_at hl 0 rfl) ?_
    refine va_get (D := D) (ci := 16) (v := .int x_mm_32) (C := RX16) (T := TX16) (N := 78) hx hb (htX16 hn) (fun _ h => h) hown hK hP 0 rfl rfl 32 (by decide) (hn.get mw_1571 rfl) (fun _ h9 => h9) hf_mm_32 dX16_goesTo_85 ?_
    refine lv_aload_n hx hb dX16_goesTo_88 rfl (lv_at hl 0 rfl) ?_
    refine va_get (D := D) (ci := 16) (v := .int x_mm_29) (C := RX16) (T := TX16) (N := 78) hx hb (htX16 hn) (fun _ h => h) hown hK hP 0 rfl rfl 29 (by decide) (hn.get mw_1568 rfl) (fun _ h9 => h9) hf_mm_29 dX16_goesTo_89 ?_
    refine lv_iconst (v := 1) hx hb dX16_goesTo_92 (by decide) ?_
    refine lv_isub hx hb dX16_goesTo_93 ?_
    refine lv_topi (fun z93_1 ez93_1 => ?_)
    have r93_2 : rg z93_1 (-1) 199999 := rg_sub ez93_1 h_x_mm_29 (show rg (1 : Int32) 1 1 from rg_l (by decide)) (by decide)
    have hi94_1 : vp_in x_mm_32 WL := (in_of (show 0 ≤ x_mm_32.toInt ∧ x_mm_32.toInt < ((WL : Nat) : Int) by have q0 := h_x_mm_32.1; have q1 := (eq_len ez8_1 (show (0 : Int) ≤ ((WL : Nat) : Int) ∧ ((WL : Nat) : Int) ≤ 400000 from ⟨Int.natCast_nonneg _, FF.out hq0⟩) (by decide)); have q2 := FF.out hq3; have q3 := FF.out t9_2; omega))
    refine va_iast hx hb hK hP hD hS 1 1 rfl rfl hi94_1 dX16_goesTo_94 (fun H locs hP hD hS => ?_)
    have hP : va_P D vwCl [(mm, .inr (16, fs_mm)), (uwa, .inl (ct 1, WL, .inl (upd g_uwa x_mm_32.toNatClampNeg z93_1))), (uww, .inl (ct 1, WL, .inl g_uww))] _ := hP
    have hD : va_D A [(mm, .inr (16, fs_mm)), (uwa, .inl (ct 1, WL, .inl (upd g_uwa x_mm_32.toNatClampNeg z93_1))), (uww, .inl (ct 1, WL, .inl g_uww))] := hD
    obtain ⟨f94_2, ef94_2⟩ : ∃ z, z = (upd g_uwa x_mm_32.toNatClampNeg z93_1) := ⟨_, rfl⟩
    rw [← ef94_2] at hP hD
    refine lv_aload_n hx hb dX16_goesTo_95 rfl (lv_at hl 0 rfl) ?_
    refine va_get (D := D) (ci := 16) (v := .ref uww) (C := RX16) (T := TX16) (N := 78) hx hb (htX16 hn) (fun _ h => h) hown hK hP 0 rfl rfl 31 (by decide) (hn.get mw_1570 rfl) (fun _ h9 => h9) hf_mm_31 dX16_goesTo_96 ?_
    refine lv_aload_n hx hb dX16_goesTo_99 rfl (lv_at hl 0 rfl) ?_
    refine va_get (D := D) (ci := 16) (v := .int x_mm_32) (C := RX16) (T := TX16) (N := 78) hx hb (htX16 hn) (fun _ h => h) hown hK hP 0 rfl rfl 32 (by decide) (hn.get mw_1571 rfl) (fun _ h9 => h9) hf_mm_32 dX16_goesTo_100 ?_
    refine lv_iload_n hx hb dX16_goesTo_103 rfl (lv_at hl 1 rfl) ?_
    have hi104_1 : vp_in x_mm_32 WL := (in_of (show 0 ≤ x_mm_32.toInt ∧ x_mm_32.toInt < ((WL : Nat) : Int) by have q0 := h_x_mm_32.1; have q1 := (eq_len ez8_1 (show (0 : Int) ≤ ((WL : Nat) : Int) ∧ ((WL : Nat) : Int) ≤ 400000 from ⟨Int.natCast_nonneg _, FF.out hq0⟩) (by decide)); have q2 := FF.out hq3; have q3 := FF.out t9_2; omega))
    refine va_iast hx hb hK hP hD hS 2 1 rfl rfl hi104_1 dX16_goesTo_104 (fun H locs hP hD hS => ?_)
    have hP : va_P D vwCl [(mm, .inr (16, fs_mm)), (uwa, .inl (ct 1, WL, .inl f94_2)), (uww, .inl (ct 1, WL, .inl (upd g_uww x_mm_32.toNatClampNeg v0)))] _ := hP
    have hD : va_D A [(mm, .inr (16, fs_mm)), (uwa, .inl (ct 1, WL, .inl f94_2)), (uww, .inl (ct 1, WL, .inl (upd g_uww x_mm_32.toNatClampNeg v0)))] := hD
    obtain ⟨f104_2, ef104_2⟩ : ∃ z, z = (upd g_uww x_mm_32.toNatClampNeg v0) := ⟨_, rfl⟩
    rw [← ef104_2] at hP hD
    refine lv_aload_n hx hb dX16_goesTo_105 rfl (lv_at hl 0 rfl) ?_
    refine lv_dup hx hb dX16_goesTo_106 rfl ?_
    refine va_get (D := D) (ci := 16) (v := .int x_mm_32) (C := RX16) (T := TX16) (N := 78) hx hb (htX16 hn) (fun _ h => h) hown hK hP 0 rfl rfl 32 (by decide) (hn.get mw_1571 rfl) (fun _ h9 => h9) hf_mm_32 dX16_goesTo_107 ?_
    refine lv_iconst (v := 1) hx hb dX16_goesTo_110 (by decide) ?_
    refine lv_iadd hx hb dX16_goesTo_111 ?_
    refine lv_topi (fun z111_1 ez111_1 => ?_)
    have r111_2 : rg z111_1 1 200001 := rg_add ez111_1 h_x_mm_32 (show rg (1 : Int32) 1 1 from rg_l (by decide)) (by decide)
    refine va_put (D := D) (ci := 16) (v := .int z111_1) (ty := .int) (C := RX16) (T := TX16) (N := 78) hx hb (htX16 hn) (fun _ h => h) tyX16 tyX16_ok nmX16 hown hK hP hD hS 0 rfl rfl 32 (by decide) (hn.get mw_1571 rfl) (fun _ h9 => h9) rfl (by decide +kernel) rfl rfl (by rw [hlen_mm]; decide) dX16_goesTo_112 (fun H locs hP hD hS => ?_)
    have hP : va_P D vwCl [(mm, .inr (16, (fs_mm.set 32 (.int z111_1)))), (uwa, .inl (ct 1, WL, .inl f94_2)), (uww, .inl (ct 1, WL, .inl f104_2))] _ := hP
    have hD : va_D A [(mm, .inr (16, (fs_mm.set 32 (.int z111_1)))), (uwa, .inl (ct 1, WL, .inl f94_2)), (uww, .inl (ct 1, WL, .inl f104_2))] := hD
    obtain ⟨m112_1, em112_1⟩ : ∃ z, z = (fs_mm.set 32 (.int z111_1)) := ⟨_, rfl⟩
    rw [← em112_1] at hP hD
    have hsm112_1 : SB fs_mm m112_1 [30, 31, 32] := by rw [em112_1]; exact SB.set (SB.rf _ _) (by decide)
    have hfm112_1_30 : m112_1[30]? = some (.ref uwa) := by rw [em112_1]; exact fs_ne (by decide) hf_mm_30
    have hfm112_1_31 : m112_1[31]? = some (.ref uww) := by rw [em112_1]; exact fs_ne (by decide) hf_mm_31
    have hfm112_1_32 : m112_1[32]? = some (.int z111_1) := by rw [em112_1]; exact fs_eq (by rw [hlen_mm]; decide)
    have hP : va_P D vwCl [(mm, .inr (16, m112_1)), (uwa, .inl (ct 1, WL, .inl f94_2)), (uww, .inl (ct 1, WL, .inl f104_2))] _ := hP
    have hD : va_D A [(mm, .inr (16, m112_1)), (uwa, .inl (ct 1, WL, .inl f94_2)), (uww, .inl (ct 1, WL, .inl f104_2))] := hD
    exact et_v (SX := Unit) (pl1 := fun _ => []) hQ hx hb hr hlocks dX16_goesTo_115 (m112_1, uwa, uww, z111_1, f94_2, WL, f104_2, 0, 0) ⟨hsm112_1, hfm112_1_30, hfm112_1_31, r111_2, hfm112_1_32, (show z111_1.toInt = x_mm_32.toInt + 1 by have q0 := (eq_add ez111_1 h_x_mm_32 (show rg (1 : Int32) 1 1 from rg_l (by decide)) (by decide)); have q1 := (show (1 : Int32).toInt = 1 from by decide); omega), (show z111_1.toInt ≤ ((WL : Nat) : Int) by have q0 := (eq_add ez111_1 h_x_mm_32 (show rg (1 : Int32) 1 1 from rg_l (by decide)) (by decide)); have q1 := (eq_len ez8_1 (show (0 : Int) ≤ ((WL : Nat) : Int) ∧ ((WL : Nat) : Int) ≤ 400000 from ⟨Int.natCast_nonneg _, FF.out hq0⟩) (by decide)); have q2 := FF.out hq3; have q3 := FF.out t9_2; have q4 := (show (1 : Int32).toInt = 1 from by decide); omega), (show 32 * ((0 : Nat) : Int) + ((WL : Nat) : Int) ≤ ((WL : Nat) : Int) by omega), (show ((0 : Nat) : Int) = 4 * (((WL : Nat) : Int) - ((WL : Nat) : Int)) by omega), (show ((0 : Nat) : Int) ≤ 2 by omega), (show ((WL : Nat) : Int) = ((WL : Nat) : Int) ∨ ((WL : Nat) : Int) = 2 * x_mm_32.toInt by omega)⟩ (by rw [List.append_nil]; exact hP) (by rw [List.append_nil]; exact hD) hS [0, 1, 2] (by decide) rfl (Nat.le_refl _) (Nat.le_refl _) (Nat.zero_le MC) (Nat.zero_le MS)
  · have t9_2 := FF.mk (i_eq c9_1)
    have r9_3 : rg z8_1 0 200000 := rg_eqB t9_2 h_x_mm_32 r8_2 (by decide)
    refine lv_iconst (v := 2) hx hb dX16_goesTo_12 (by decide) ?_
    refine lv_aload_n hx hb dX16_goesTo_13 rfl (lv_at hl 0 rfl) ?_
    refine va_get (D := D) (ci := 16) (v := .int x_mm_32) (C := RX16) (T := TX16) (N := 78) hx hb (htX16 hn) (fun _ h => h) hown hK hP 0 rfl rfl 32 (by decide) (hn.get mw_1571 rfl) (fun _ h9 => h9) hf_mm_32 dX16_goesTo_14 ?_
    refine lv_imul hx hb dX16_goesTo_17 ?_
    refine lv_topi (fun z17_1 ez17_1 => ?_)
    have r17_2 : rg z17_1 0 400000 := rg_mul ez17_1 (show rg (2 : Int32) 2 2 from rg_l (by decide)) h_x_mm_32 (by decide)
    obtain ⟨n18_2, gn18_2⟩ : ∃ k : Nat, z17_1.toNatClampNeg = k := ⟨_, rfl⟩
    have en18_2 := FF.mk (ncn_up gn18_2 (show 0 ≤ z17_1.toInt by have q0 := (eq_mull ez17_1 (show rg (2 : Int32) 2 2 from rg_l (by decide)) h_x_mm_32 (by decide)); have q1 := (eq_len ez8_1 (show (0 : Int) ≤ ((WL : Nat) : Int) ∧ ((WL : Nat) : Int) ≤ 400000 from ⟨Int.natCast_nonneg _, FF.out hq0⟩) (by decide)); have q2 := FF.out hq4; have q3 := FF.out t9_2; omega))
    obtain ⟨c18_3, ec18_3⟩ : ∃ x9 : Nat, x9 = 0 + 1 := ⟨_, rfl⟩
    have ec18_3 := FF.mk ec18_3
    have mc18_3 : FF (c18_3 ≤ MC) := FF.mk (Int.ofNat_le.mp (show ((c18_3 : Nat) : Int) ≤ ((MC : Nat) : Int) by have q0 := FF.out hq1; have q1 := FF.out ec18_3; omega))
    obtain ⟨k18_4, ek18_4⟩ : ∃ x9 : Nat, x9 = 0 + n18_2 := ⟨_, rfl⟩
    have ek18_4 := FF.mk ek18_4
    have mk18_4 : FF (k18_4 ≤ MS) := FF.mk (Int.ofNat_le.mp (show ((k18_4 : Nat) : Int) ≤ ((MS : Nat) : Int) by have q0 := (eq_len ez8_1 (show (0 : Int) ≤ ((WL : Nat) : Int) ∧ ((WL : Nat) : Int) ≤ 400000 from ⟨Int.natCast_nonneg _, FF.out hq0⟩) (by decide)); have q1 := (eq_mull ez17_1 (show rg (2 : Int32) 2 2 from rg_l (by decide)) h_x_mm_32 (by decide)); have q2 := FF.out hq2; have q3 := FF.out hq4; have q4 := FF.out t9_2; have q5 := FF.out en18_2; have q6 := FF.out ek18_4; omega))
    have nbn18_2 : (0 : Int) ≤ ((n18_2 : Nat) : Int) ∧ ((n18_2 : Nat) : Int) ≤ 500000 := ⟨Int.natCast_nonneg _, (show ((n18_2 : Nat) : Int) ≤ 500000 by have q0 := r17_2.2; have q1 := FF.out en18_2; omega)⟩
    refine na_new (atype := .int) (k1 := c18_3) (n1 := k18_4) hx hb hn mw_72 rfl hK hP hD hS hA 1 rfl n18_2 (n18_2, .inl (fun _ => 0)) (fun _ => rfl) (nneg_of (show 0 ≤ z17_1.toInt by have q0 := (eq_mull ez17_1 (show rg (2 : Int32) 2 2 from rg_l (by decide)) h_x_mm_32 (by decide)); have q1 := (eq_len ez8_1 (show (0 : Int) ≤ ((WL : Nat) : Int) ∧ ((WL : Nat) : Int) ≤ 400000 from ⟨Int.natCast_nonneg _, FF.out hq0⟩) (by decide)); have q2 := FF.out hq4; have q3 := FF.out t9_2; omega)) gn18_2 (show n18_2 * 4 ≤ 536870912 by have h9 := (show ((n18_2 : Nat) : Int) ≤ 134217728 by have q0 := r17_2.2; have q1 := FF.out en18_2; omega); omega) (Nat.le_of_eq (FF.out ec18_3).symm) (Nat.le_of_eq (FF.out ek18_4).symm) (FF.out mc18_3) (FF.out mk18_4) dX16_goesTo_18 (fun q18_1 H hP hD hS => ?_)
    have hP : va_P D vwCl [(mm, .inr (16, fs_mm)), (uwa, .inl (ct 1, WL, .inl g_uwa)), (uww, .inl (ct 1, WL, .inl g_uww)), (q18_1, .inl (ct 1, n18_2, .inl (fun _ => 0)))] _ := hP
    have hD : va_D A [(mm, .inr (16, fs_mm)), (uwa, .inl (ct 1, WL, .inl g_uwa)), (uww, .inl (ct 1, WL, .inl g_uww)), (q18_1, .inl (ct 1, n18_2, .inl (fun _ => 0)))] := hD
    refine lv_astore_n (lv' := [(2, .ref q18_1), (0, .ref mm), (1, .int v0)]) hx hb dX16_goesTo_20 rfl hl (by decide) rfl (fun ls hl => ?_)
    refine lv_iconst (v := 2) hx hb dX16_goesTo_21 (by decide) ?_
    refine lv_aload_n hx hb dX16_goesTo_22 rfl (lv_at hl 1 rfl) ?_
    refine va_get (D := D) (ci := 16) (v := .int x_mm_32) (C := RX16) (T := TX16) (N := 78) hx hb (htX16 hn) (fun _ h => h) hown hK hP 0 rfl rfl 32 (by decide) (hn.get mw_1571 rfl) (fun _ h9 => h9) hf_mm_32 dX16_goesTo_23 ?_
    refine lv_imul hx hb dX16_goesTo_26 ?_
    refine lv_topi (fun z26_1 ez26_1 => ?_)
    obtain rfl : z17_1 = z26_1 := ez17_1.trans ez26_1.symm
    obtain ⟨n27_2, gn27_2⟩ : ∃ k : Nat, z17_1.toNatClampNeg = k := ⟨_, rfl⟩
    have en27_2 := FF.mk (ncn_up gn27_2 (show 0 ≤ z17_1.toInt by have q0 := (eq_mull ez17_1 (show rg (2 : Int32) 2 2 from rg_l (by decide)) h_x_mm_32 (by decide)); have q1 := (eq_len ez8_1 (show (0 : Int) ≤ ((WL : Nat) : Int) ∧ ((WL : Nat) : Int) ≤ 400000 from ⟨Int.natCast_nonneg _, FF.out hq0⟩) (by decide)); have q2 := FF.out hq4; have q3 := FF.out t9_2; omega))
    obtain ⟨c27_3, ec27_3⟩ : ∃ x9 : Nat, x9 = c18_3 + 1 := ⟨_, rfl⟩
    have ec27_3 := FF.mk ec27_3
    have mc27_3 : FF (c27_3 ≤ MC) := FF.mk (Int.ofNat_le.mp (show ((c27_3 : Nat) : Int) ≤ ((MC : Nat) : Int) by have q0 := FF.out hq1; have q1 := FF.out ec18_3; have q2 := FF.out ec27_3; omega))
    obtain ⟨k27_4, ek27_4⟩ : ∃ x9 : Nat, x9 = k18_4 + n18_2 := ⟨_, rfl⟩
    have ek27_4 := FF.mk ek27_4
    have mk27_4 : FF (k27_4 ≤ MS) := FF.mk (Int.ofNat_le.mp (show ((k27_4 : Nat) : Int) ≤ ((MS : Nat) : Int) by have q0 := (eq_mull ez17_1 (show rg (2 : Int32) 2 2 from rg_l (by decide)) h_x_mm_32 (by decide)); have q1 := FF.out hq2; have q2 := FF.out en18_2; have q3 := FF.out ek18_4; have q4 := FF.out ek27_4; omega))
    refine na_new (atype := .int) (k1 := c27_3) (n1 := k27_4) hx hb hn mw_72 rfl hK hP hD hS hA 1 rfl n18_2 (n18_2, .inl (fun _ => 0)) (fun _ => rfl) (nneg_of (show 0 ≤ z17_1.toInt by have q0 := (eq_mull ez17_1 (show rg (2 : Int32) 2 2 from rg_l (by decide)) h_x_mm_32 (by decide)); have q1 := (eq_len ez8_1 (show (0 : Int) ≤ ((WL : Nat) : Int) ∧ ((WL : Nat) : Int) ≤ 400000 from ⟨Int.natCast_nonneg _, FF.out hq0⟩) (by decide)); have q2 := FF.out hq4; have q3 := FF.out t9_2; omega)) (gn27_2.trans (Int.ofNat_inj.mp (show ((n27_2 : Nat) : Int) = ((n18_2 : Nat) : Int) by have q0 := FF.out en18_2; have q1 := FF.out en27_2; omega))) (show n18_2 * 4 ≤ 536870912 by have h9 := (show ((n18_2 : Nat) : Int) ≤ 134217728 by have q0 := r17_2.2; have q1 := FF.out en18_2; omega); omega) (Nat.le_of_eq (FF.out ec27_3).symm) (Nat.le_of_eq (FF.out ek27_4).symm) (FF.out mc27_3) (FF.out mk27_4) dX16_goesTo_27 (fun q27_1 H hP hD hS => ?_)
    have hP : va_P D vwCl [(mm, .inr (16, fs_mm)), (uwa, .inl (ct 1, WL, .inl g_uwa)), (uww, .inl (ct 1, WL, .inl g_uww)), (q18_1, .inl (ct 1, n18_2, .inl (fun _ => 0))), (q27_1, .inl (ct 1, n18_2, .inl (fun _ => 0)))] _ := hP
    have hD : va_D A [(mm, .inr (16, fs_mm)), (uwa, .inl (ct 1, WL, .inl g_uwa)), (uww, .inl (ct 1, WL, .inl g_uww)), (q18_1, .inl (ct 1, n18_2, .inl (fun _ => 0))), (q27_1, .inl (ct 1, n18_2, .inl (fun _ => 0)))] := hD
    refine lv_astore_n (lv' := [(3, .ref q27_1), (2, .ref q18_1), (0, .ref mm), (1, .int v0)]) hx hb dX16_goesTo_29 rfl hl (by decide) rfl (fun ls hl => ?_)
    refine lv_iconst (v := 0) hx hb dX16_goesTo_30 (by decide) ?_
    refine lv_istore (lv' := [(4, .int 0), (3, .ref q27_1), (2, .ref q18_1), (0, .ref mm), (1, .int v0)]) hx hb dX16_goesTo_31 hl (by decide) rfl (fun ls hl => ?_)
    have b33 : ∀ (n33 : Nat) (j33_l4 : Int32) (j33_cq18_1 : Nat → Int32) (j33_cq27_1 : Nat → Int32) (H : Heap) (locs : List Loc) (ls : Array Slot), (rg j33_l4 0 2147483647) → ((2147483647 : Int) - j33_l4.toInt).toNat < n33 → lv_has ls 5 [(0, .ref mm), (1, .int v0), (2, .ref q18_1), (3, .ref q27_1), (4, .int j33_l4)] → va_P D vwCl [(mm, .inr (16, fs_mm)), (uwa, .inl (ct 1, WL, .inl g_uwa)), (uww, .inl (ct 1, WL, .inl g_uww)), (q18_1, .inl (ct 1, n18_2, .inl j33_cq18_1)), (q27_1, .inl (ct 1, n18_2, .inl j33_cq27_1))] H → va_D A [(mm, .inr (16, fs_mm)), (uwa, .inl (ct 1, WL, .inl g_uwa)), (uww, .inl (ct 1, WL, .inl g_uww)), (q18_1, .inl (ct 1, n18_2, .inl j33_cq18_1)), (q27_1, .inl (ct 1, n18_2, .inl j33_cq27_1))] → va_S A s.heap H locs → W p l e ({ frames := 1, cells := MC, slots := MS, locals := 20 }) s m [.ref mm, .int v0].toArray below meth c H locs c27_3 k27_4 Q (F0 m 33 ls []) := by
      intro n33
      induction n33 with
      | zero => intros; rename_i hms _ _ _ _; exact absurd hms (Nat.not_lt_zero _)
      | succ n33 ih33 =>
        intro j33_l4 j33_cq18_1 j33_cq27_1 H locs ls r33_1001 hms33 hl hP hD hS
        refine lv_iload hx hb dX16_goesTo_33 (lv_at hl 4 rfl) ?_
        refine lv_aload_n hx hb dX16_goesTo_35 rfl (lv_at hl 0 rfl) ?_
        refine va_get (D := D) (ci := 16) (v := .int x_mm_32) (C := RX16) (T := TX16) (N := 78) hx hb (htX16 hn) (fun _ h => h) hown hK hP 0 rfl rfl 32 (by decide) (hn.get mw_1571 rfl) (fun _ h9 => h9) hf_mm_32 dX16_goesTo_36 ?_
        refine lv_icmp_ge (tgt := 70) hx hb dX16_goesTo_39 (by decide) (fun c39_1 => ?_) (fun c39_1 => ?_)
        · have t39_2 := FF.mk (i_le c39_1)
          refine lv_aload_n hx hb dX16_goesTo_70 rfl (lv_at hl 0 rfl) ?_
          refine lv_aload_n hx hb dX16_goesTo_71 rfl (lv_at hl 2 rfl) ?_
          refine va_put (D := D) (ci := 16) (v := .ref q18_1) (ty := .array .int) (C := RX16) (T := TX16) (N := 78) hx hb (htX16 hn) (fun _ h => h) tyX16 tyX16_ok nmX16 hown hK hP hD hS 0 rfl rfl 30 (by decide) (hn.get mw_1569 rfl) (fun _ h9 => h9) rfl (by decide +kernel) rfl rfl (by rw [hlen_mm]; decide) dX16_goesTo_72 (fun H locs hP hD hS => ?_)
          have hP : va_P D vwCl [(mm, .inr (16, (fs_mm.set 30 (.ref q18_1)))), (uwa, .inl (ct 1, WL, .inl g_uwa)), (uww, .inl (ct 1, WL, .inl g_uww)), (q18_1, .inl (ct 1, n18_2, .inl j33_cq18_1)), (q27_1, .inl (ct 1, n18_2, .inl j33_cq27_1))] _ := hP
          have hD : va_D A [(mm, .inr (16, (fs_mm.set 30 (.ref q18_1)))), (uwa, .inl (ct 1, WL, .inl g_uwa)), (uww, .inl (ct 1, WL, .inl g_uww)), (q18_1, .inl (ct 1, n18_2, .inl j33_cq18_1)), (q27_1, .inl (ct 1, n18_2, .inl j33_cq27_1))] := hD
          obtain ⟨m72_1, em72_1⟩ : ∃ z, z = (fs_mm.set 30 (.ref q18_1)) := ⟨_, rfl⟩
          rw [← em72_1] at hP hD
          have hsm72_1 : SB fs_mm m72_1 [30, 31, 32] := by rw [em72_1]; exact SB.set (SB.rf _ _) (by decide)
          have hfm72_1_31 : m72_1[31]? = some (.ref uww) := by rw [em72_1]; exact fs_ne (by decide) hf_mm_31
          have hfm72_1_32 : m72_1[32]? = some (.int x_mm_32) := by rw [em72_1]; exact fs_ne (by decide) hf_mm_32
          have hfm72_1_30 : m72_1[30]? = some (.ref q18_1) := by rw [em72_1]; exact fs_eq (by rw [hlen_mm]; decide)
          have hP : va_P D vwCl [(mm, .inr (16, m72_1)), (uwa, .inl (ct 1, WL, .inl g_uwa)), (uww, .inl (ct 1, WL, .inl g_uww)), (q18_1, .inl (ct 1, n18_2, .inl j33_cq18_1)), (q27_1, .inl (ct 1, n18_2, .inl j33_cq27_1))] _ := hP
          have hD : va_D A [(mm, .inr (16, m72_1)), (uwa, .inl (ct 1, WL, .inl g_uwa)), (uww, .inl (ct 1, WL, .inl g_uww)), (q18_1, .inl (ct 1, n18_2, .inl j33_cq18_1)), (q27_1, .inl (ct 1, n18_2, .inl j33_cq27_1))] := hD
          refine lv_aload_n hx hb dX16_goesTo_75 rfl (lv_at hl 0 rfl) ?_
          refine lv_aload_n hx hb dX16_goesTo_76 rfl (lv_at hl 3 rfl) ?_
          refine va_put (D := D) (ci := 16) (v := .ref q27_1) (ty := .array .int) (C := RX16) (T := TX16) (N := 78) hx hb (htX16 hn) (fun _ h => h) tyX16 tyX16_ok nmX16 hown hK hP hD hS 0 rfl rfl 31 (by decide) (hn.get mw_1570 rfl) (fun _ h9 => h9) rfl (by decide +kernel) rfl rfl (by rw [hsm72_1.1, hlen_mm]; decide) dX16_goesTo_77 (fun H locs hP hD hS => ?_)
          have hP : va_P D vwCl [(mm, .inr (16, (m72_1.set 31 (.ref q27_1)))), (uwa, .inl (ct 1, WL, .inl g_uwa)), (uww, .inl (ct 1, WL, .inl g_uww)), (q18_1, .inl (ct 1, n18_2, .inl j33_cq18_1)), (q27_1, .inl (ct 1, n18_2, .inl j33_cq27_1))] _ := hP
          have hD : va_D A [(mm, .inr (16, (m72_1.set 31 (.ref q27_1)))), (uwa, .inl (ct 1, WL, .inl g_uwa)), (uww, .inl (ct 1, WL, .inl g_uww)), (q18_1, .inl (ct 1, n18_2, .inl j33_cq18_1)), (q27_1, .inl (ct 1, n18_2, .inl j33_cq27_1))] := hD
          obtain ⟨m77_1, em77_1⟩ : ∃ z, z = (m72_1.set 31 (.ref q27_1)) := ⟨_, rfl⟩
          rw [← em77_1] at hP hD
          have hsm77_1 : SB fs_mm m77_1 [30, 31, 32] := by rw [em77_1]; exact SB.set hsm72_1 (by decide)
          have hfm77_1_32 : m77_1[32]? = some (.int x_mm_32) := by rw [em77_1]; exact fs_ne (by decide) hfm72_1_32
          have hfm77_1_30 : m77_1[30]? = some (.ref q18_1) := by rw [em77_1]; exact fs_ne (by decide) hfm72_1_30
          have hfm77_1_31 : m77_1[31]? = some (.ref q27_1) := by rw [em77_1]; exact fs_eq (by rw [hsm72_1.1, hlen_mm]; decide)
          have hP : va_P D vwCl [(mm, .inr (16, m77_1)), (uwa, .inl (ct 1, WL, .inl g_uwa)), (uww, .inl (ct 1, WL, .inl g_uww)), (q18_1, .inl (ct 1, n18_2, .inl j33_cq18_1)), (q27_1, .inl (ct 1, n18_2, .inl j33_cq27_1))] _ := hP
          have hD : va_D A [(mm, .inr (16, m77_1)), (uwa, .inl (ct 1, WL, .inl g_uwa)), (uww, .inl (ct 1, WL, .inl g_uww)), (q18_1, .inl (ct 1, n18_2, .inl j33_cq18_1)), (q27_1, .inl (ct 1, n18_2, .inl j33_cq27_1))] := hD
          refine lv_aload_n hx hb dX16_goesTo_80 rfl (lv_at hl 0 rfl) ?_
          refine va_get (D := D) (ci := 16) (v := .ref q18_1) (C := RX16) (T := TX16) (N := 78) hx hb (htX16 hn) (fun _ h => h) hown hK hP 0 rfl rfl 30 (by decide) (hn.get mw_1569 rfl) (fun _ h9 => h9) hfm77_1_30 dX16_goesTo_81 ?_
          refine lv_aload_n hx hb dX16_goesTo_84 rfl (lv_at hl 0 rfl) ?_
          refine va_get (D := D) (ci := 16) (v := .int x_mm_32) (C := RX16) (T := TX16) (N := 78) hx hb (htX16 hn) (fun _ h => h) hown hK hP 0 rfl rfl 32 (by decide) (hn.get mw_1571 rfl) (fun _ h9 => h9) hfm77_1_32 dX16_goesTo_85 ?_
          refine lv_aload_n hx hb dX16_goesTo_88 rfl (lv_at hl 0 rfl) ?_
          refine va_get (D := D) (ci := 16) (v := .int x_mm_29) (C := RX16) (T := TX16) (N := 78) hx hb (htX16 hn) (fun _ h => h) hown hK hP 0 rfl rfl 29 (by decide) (hn.get mw_1568 rfl) (fun _ h9 => h9) (SB.get hsm77_1 (by decide) hf_mm_29) dX16_goesTo_89 ?_
          refine lv_iconst (v := 1) hx hb dX16_goesTo_92 (by decide) ?_
          refine lv_isub hx hb dX16_goesTo_93 ?_
          refine lv_topi (fun z93_1 ez93_1 => ?_)
          have r93_2 : rg z93_1 (-1) 199999 := rg_sub ez93_1 h_x_mm_29 (show rg (1 : Int32) 1 1 from rg_l (by decide)) (by decide)
          have hi94_1 : vp_in x_mm_32 n18_2 := (in_of (show 0 ≤ x_mm_32.toInt ∧ x_mm_32.toInt < ((n18_2 : Nat) : Int) by have q0 := (eq_len ez8_1 (show (0 : Int) ≤ ((WL : Nat) : Int) ∧ ((WL : Nat) : Int) ≤ 400000 from ⟨Int.natCast_nonneg _, FF.out hq0⟩) (by decide)); have q1 := (eq_mull ez17_1 (show rg (2 : Int32) 2 2 from rg_l (by decide)) h_x_mm_32 (by decide)); have q2 := FF.out hq4; have q3 := FF.out t9_2; have q4 := FF.out en18_2; omega))
          refine va_iast hx hb hK hP hD hS 3 1 rfl rfl hi94_1 dX16_goesTo_94 (fun H locs hP hD hS => ?_)
          have hP : va_P D vwCl [(mm, .inr (16, m77_1)), (uwa, .inl (ct 1, WL, .inl g_uwa)), (uww, .inl (ct 1, WL, .inl g_uww)), (q18_1, .inl (ct 1, n18_2, .inl (upd j33_cq18_1 x_mm_32.toNatClampNeg z93_1))), (q27_1, .inl (ct 1, n18_2, .inl j33_cq27_1))] _ := hP
          have hD : va_D A [(mm, .inr (16, m77_1)), (uwa, .inl (ct 1, WL, .inl g_uwa)), (uww, .inl (ct 1, WL, .inl g_uww)), (q18_1, .inl (ct 1, n18_2, .inl (upd j33_cq18_1 x_mm_32.toNatClampNeg z93_1))), (q27_1, .inl (ct 1, n18_2, .inl j33_cq27_1))] := hD
          obtain ⟨f94_2, ef94_2⟩ : ∃ z, z = (upd j33_cq18_1 x_mm_32.toNatClampNeg z93_1) := ⟨_, rfl⟩
          rw [← ef94_2] at hP hD
          refine lv_aload_n hx hb dX16_goesTo_95 rfl (lv_at hl 0 rfl) ?_
          refine va_get (D := D) (ci := 16) (v := .ref q27_1) (C := RX16) (T := TX16) (N := 78) hx hb (htX16 hn) (fun _ h => h) hown hK hP 0 rfl rfl 31 (by decide) (hn.get mw_1570 rfl) (fun _ h9 => h9) hfm77_1_31 dX16_goesTo_96 ?_
          refine lv_aload_n hx hb dX16_goesTo_99 rfl (lv_at hl 0 rfl) ?_
          refine va_get (D := D) (ci := 16) (v := .int x_mm_32) (C := RX16) (T := TX16) (N := 78) hx hb (htX16 hn) (fun _ h => h) hown hK hP 0 rfl rfl 32 (by decide) (hn.get mw_1571 rfl) (fun _ h9 => h9) hfm77_1_32 dX16_goesTo_100 ?_
          refine lv_iload_n hx hb dX16_goesTo_103 rfl (lv_at hl 1 rfl) ?_
          have hi104_1 : vp_in x_mm_32 n18_2 := (in_of (show 0 ≤ x_mm_32.toInt ∧ x_mm_32.toInt < ((n18_2 : Nat) : Int) by have q0 := (eq_len ez8_1 (show (0 : Int) ≤ ((WL : Nat) : Int) ∧ ((WL : Nat) : Int) ≤ 400000 from ⟨Int.natCast_nonneg _, FF.out hq0⟩) (by decide)); have q1 := (eq_mull ez17_1 (show rg (2 : Int32) 2 2 from rg_l (by decide)) h_x_mm_32 (by decide)); have q2 := FF.out hq4; have q3 := FF.out t9_2; have q4 := FF.out en18_2; omega))
          refine va_iast hx hb hK hP hD hS 4 1 rfl rfl hi104_1 dX16_goesTo_104 (fun H locs hP hD hS => ?_)
          have hP : va_P D vwCl [(mm, .inr (16, m77_1)), (uwa, .inl (ct 1, WL, .inl g_uwa)), (uww, .inl (ct 1, WL, .inl g_uww)), (q18_1, .inl (ct 1, n18_2, .inl f94_2)), (q27_1, .inl (ct 1, n18_2, .inl (upd j33_cq27_1 x_mm_32.toNatClampNeg v0)))] _ := hP
          have hD : va_D A [(mm, .inr (16, m77_1)), (uwa, .inl (ct 1, WL, .inl g_uwa)), (uww, .inl (ct 1, WL, .inl g_uww)), (q18_1, .inl (ct 1, n18_2, .inl f94_2)), (q27_1, .inl (ct 1, n18_2, .inl (upd j33_cq27_1 x_mm_32.toNatClampNeg v0)))] := hD
          obtain ⟨f104_2, ef104_2⟩ : ∃ z, z = (upd j33_cq27_1 x_mm_32.toNatClampNeg v0) := ⟨_, rfl⟩
          rw [← ef104_2] at hP hD
          refine lv_aload_n hx hb dX16_goesTo_105 rfl (lv_at hl 0 rfl) ?_
          refine lv_dup hx hb dX16_goesTo_106 rfl ?_
          refine va_get (D := D) (ci := 16) (v := .int x_mm_32) (C := RX16) (T := TX16) (N := 78) hx hb (htX16 hn) (fun _ h => h) hown hK hP 0 rfl rfl 32 (by decide) (hn.get mw_1571 rfl) (fun _ h9 => h9) hfm77_1_32 dX16_goesTo_107 ?_
          refine lv_iconst (v := 1) hx hb dX16_goesTo_110 (by decide) ?_
          refine lv_iadd hx hb dX16_goesTo_111 ?_
          refine lv_topi (fun z111_1 ez111_1 => ?_)
          have r111_2 : rg z111_1 1 200001 := rg_add ez111_1 h_x_mm_32 (show rg (1 : Int32) 1 1 from rg_l (by decide)) (by decide)
          refine va_put (D := D) (ci := 16) (v := .int z111_1) (ty := .int) (C := RX16) (T := TX16) (N := 78) hx hb (htX16 hn) (fun _ h => h) tyX16 tyX16_ok nmX16 hown hK hP hD hS 0 rfl rfl 32 (by decide) (hn.get mw_1571 rfl) (fun _ h9 => h9) rfl (by decide +kernel) rfl rfl (by rw [hsm77_1.1, hlen_mm]; decide) dX16_goesTo_112 (fun H locs hP hD hS => ?_)
          have hP : va_P D vwCl [(mm, .inr (16, (m77_1.set 32 (.int z111_1)))), (uwa, .inl (ct 1, WL, .inl g_uwa)), (uww, .inl (ct 1, WL, .inl g_uww)), (q18_1, .inl (ct 1, n18_2, .inl f94_2)), (q27_1, .inl (ct 1, n18_2, .inl f104_2))] _ := hP
          have hD : va_D A [(mm, .inr (16, (m77_1.set 32 (.int z111_1)))), (uwa, .inl (ct 1, WL, .inl g_uwa)), (uww, .inl (ct 1, WL, .inl g_uww)), (q18_1, .inl (ct 1, n18_2, .inl f94_2)), (q27_1, .inl (ct 1, n18_2, .inl f104_2))] := hD
          obtain ⟨m112_1, em112_1⟩ : ∃ z, z = (m77_1.set 32 (.int z111_1)) := ⟨_, rfl⟩
          rw [← em112_1] at hP hD
          have hsm112_1 : SB fs_mm m112_1 [30, 31, 32] := by rw [em112_1]; exact SB.set hsm77_1 (by decide)
          have hfm112_1_30 : m112_1[30]? = some (.ref q18_1) := by rw [em112_1]; exact fs_ne (by decide) hfm77_1_30
          have hfm112_1_31 : m112_1[31]? = some (.ref q27_1) := by rw [em112_1]; exact fs_ne (by decide) hfm77_1_31
          have hfm112_1_32 : m112_1[32]? = some (.int z111_1) := by rw [em112_1]; exact fs_eq (by rw [hsm77_1.1, hlen_mm]; decide)
          have hP : va_P D vwCl [(mm, .inr (16, m112_1)), (uwa, .inl (ct 1, WL, .inl g_uwa)), (uww, .inl (ct 1, WL, .inl g_uww)), (q18_1, .inl (ct 1, n18_2, .inl f94_2)), (q27_1, .inl (ct 1, n18_2, .inl f104_2))] _ := hP
          have hD : va_D A [(mm, .inr (16, m112_1)), (uwa, .inl (ct 1, WL, .inl g_uwa)), (uww, .inl (ct 1, WL, .inl g_uww)), (q18_1, .inl (ct 1, n18_2, .inl f94_2)), (q27_1, .inl (ct 1, n18_2, .inl f104_2))] := hD
          exact et_v (SX := Unit) (pl1 := fun _ => []) hQ hx hb hr hlocks dX16_goesTo_115 (m112_1, q18_1, q27_1, z111_1, f94_2, n18_2, f104_2, c27_3, k27_4) ⟨hsm112_1, hfm112_1_30, hfm112_1_31, r111_2, hfm112_1_32, (show z111_1.toInt = x_mm_32.toInt + 1 by have q0 := (eq_add ez111_1 h_x_mm_32 (show rg (1 : Int32) 1 1 from rg_l (by decide)) (by decide)); have q1 := (show (1 : Int32).toInt = 1 from by decide); omega), (show z111_1.toInt ≤ ((n18_2 : Nat) : Int) by have q0 := (eq_add ez111_1 h_x_mm_32 (show rg (1 : Int32) 1 1 from rg_l (by decide)) (by decide)); have q1 := (eq_len ez8_1 (show (0 : Int) ≤ ((WL : Nat) : Int) ∧ ((WL : Nat) : Int) ≤ 400000 from ⟨Int.natCast_nonneg _, FF.out hq0⟩) (by decide)); have q2 := (eq_mull ez17_1 (show rg (2 : Int32) 2 2 from rg_l (by decide)) h_x_mm_32 (by decide)); have q3 := FF.out hq4; have q4 := FF.out t9_2; have q5 := FF.out en18_2; have q6 := (show (1 : Int32).toInt = 1 from by decide); omega), (show 32 * ((c27_3 : Nat) : Int) + ((WL : Nat) : Int) ≤ ((n18_2 : Nat) : Int) by have q0 := (eq_mull ez17_1 (show rg (2 : Int32) 2 2 from rg_l (by decide)) h_x_mm_32 (by decide)); have q1 := (eq_len ez8_1 (show (0 : Int) ≤ ((WL : Nat) : Int) ∧ ((WL : Nat) : Int) ≤ 400000 from ⟨Int.natCast_nonneg _, FF.out hq0⟩) (by decide)); have q2 := FF.out hq4; have q3 := FF.out t9_2; have q4 := FF.out en18_2; have q5 := FF.out ec18_3; have q6 := FF.out ec27_3; omega), (show ((k27_4 : Nat) : Int) = 4 * (((n18_2 : Nat) : Int) - ((WL : Nat) : Int)) by have q0 := (eq_mull ez17_1 (show rg (2 : Int32) 2 2 from rg_l (by decide)) h_x_mm_32 (by decide)); have q1 := (eq_len ez8_1 (show (0 : Int) ≤ ((WL : Nat) : Int) ∧ ((WL : Nat) : Int) ≤ 400000 from ⟨Int.natCast_nonneg _, FF.out hq0⟩) (by decide)); have q2 := FF.out hq3; have q3 := FF.out t9_2; have q4 := FF.out en18_2; have q5 := FF.out ek18_4; have q6 := FF.out ek27_4; omega), (show ((c27_3 : Nat) : Int) ≤ 2 by have q0 := FF.out ec18_3; have q1 := FF.out ec27_3; omega), (show ((n18_2 : Nat) : Int) = ((WL : Nat) : Int) ∨ ((n18_2 : Nat) : Int) = 2 * x_mm_32.toInt by have q0 := (eq_mull ez17_1 (show rg (2 : Int32) 2 2 from rg_l (by decide)) h_x_mm_32 (by decide)); have q1 := FF.out en18_2; omega)⟩ (by rw [List.append_nil]; exact hP) (by rw [List.append_nil]; exact hD) hS [0, 3, 4] (by decide) rfl (Nat.le_refl _) (Nat.le_refl _) (FF.out mc27_3) (FF.out mk27_4)
        · have t39_2 := FF.mk (i_nle c39_1)
          have r39_3 : rg j33_l4 0 199999 := rg_ltA t39_2 r33_1001 h_x_mm_32 (by decide)
          have r39_4 : rg x_mm_32 1 200000 := rg_ltB t39_2 r33_1001 h_x_mm_32 (by decide)
          refine lv_aload_n hx hb dX16_goesTo_42 rfl (lv_at hl 2 rfl) ?_
          refine lv_iload hx hb dX16_goesTo_43 (lv_at hl 4 rfl) ?_
          refine lv_aload_n hx hb dX16_goesTo_45 rfl (lv_at hl 0 rfl) ?_
          refine va_get (D := D) (ci := 16) (v := .ref uwa) (C := RX16) (T := TX16) (N := 78) hx hb (htX16 hn) (fun _ h => h) hown hK hP 0 rfl rfl 30 (by decide) (hn.get mw_1569 rfl) (fun _ h9 => h9) hf_mm_30 dX16_goesTo_46 ?_
          refine lv_iload hx hb dX16_goesTo_49 (lv_at hl 4 rfl) ?_
          have hi51_1 : vp_in j33_l4 WL := (in_of (show 0 ≤ j33_l4.toInt ∧ j33_l4.toInt < ((WL : Nat) : Int) by have q0 := r39_3.1; have q1 := FF.out hq3; have q2 := FF.out t39_2; omega))
          refine va_iald hx hb hK hP 1 1 rfl rfl hi51_1 dX16_goesTo_51 ?_
          refine lv_topi (fun z51_2 ez51_2 => ?_)
          have hi52_1 : vp_in j33_l4 n18_2 := (in_of (show 0 ≤ j33_l4.toInt ∧ j33_l4.toInt < ((n18_2 : Nat) : Int) by have q0 := r39_3.1; have q1 := (eq_len ez8_1 (show (0 : Int) ≤ ((WL : Nat) : Int) ∧ ((WL : Nat) : Int) ≤ 400000 from ⟨Int.natCast_nonneg _, FF.out hq0⟩) (by decide)); have q2 := (eq_mull ez17_1 (show rg (2 : Int32) 2 2 from rg_l (by decide)) h_x_mm_32 (by decide)); have q3 := FF.out hq4; have q4 := FF.out t9_2; have q5 := FF.out en18_2; have q6 := FF.out t39_2; omega))
          refine va_iast hx hb hK hP hD hS 3 1 rfl rfl hi52_1 dX16_goesTo_52 (fun H locs hP hD hS => ?_)
          have hP : va_P D vwCl [(mm, .inr (16, fs_mm)), (uwa, .inl (ct 1, WL, .inl g_uwa)), (uww, .inl (ct 1, WL, .inl g_uww)), (q18_1, .inl (ct 1, n18_2, .inl (upd j33_cq18_1 j33_l4.toNatClampNeg z51_2))), (q27_1, .inl (ct 1, n18_2, .inl j33_cq27_1))] _ := hP
          have hD : va_D A [(mm, .inr (16, fs_mm)), (uwa, .inl (ct 1, WL, .inl g_uwa)), (uww, .inl (ct 1, WL, .inl g_uww)), (q18_1, .inl (ct 1, n18_2, .inl (upd j33_cq18_1 j33_l4.toNatClampNeg z51_2))), (q27_1, .inl (ct 1, n18_2, .inl j33_cq27_1))] := hD
          obtain ⟨f52_2, ef52_2⟩ : ∃ z, z = (upd j33_cq18_1 j33_l4.toNatClampNeg z51_2) := ⟨_, rfl⟩
          rw [← ef52_2] at hP hD
          refine lv_aload_n hx hb dX16_goesTo_53 rfl (lv_at hl 3 rfl) ?_
          refine lv_iload hx hb dX16_goesTo_54 (lv_at hl 4 rfl) ?_
          refine lv_aload_n hx hb dX16_goesTo_56 rfl (lv_at hl 0 rfl) ?_
          refine va_get (D := D) (ci := 16) (v := .ref uww) (C := RX16) (T := TX16) (N := 78) hx hb (htX16 hn) (fun _ h => h) hown hK hP 0 rfl rfl 31 (by decide) (hn.get mw_1570 rfl) (fun _ h9 => h9) hf_mm_31 dX16_goesTo_57 ?_
          refine lv_iload hx hb dX16_goesTo_60 (lv_at hl 4 rfl) ?_
          have hi62_1 : vp_in j33_l4 WL := (in_of (show 0 ≤ j33_l4.toInt ∧ j33_l4.toInt < ((WL : Nat) : Int) by have q0 := r39_3.1; have q1 := FF.out hq3; have q2 := FF.out t39_2; omega))
          refine va_iald hx hb hK hP 2 1 rfl rfl hi62_1 dX16_goesTo_62 ?_
          refine lv_topi (fun z62_2 ez62_2 => ?_)
          have hi63_1 : vp_in j33_l4 n18_2 := (in_of (show 0 ≤ j33_l4.toInt ∧ j33_l4.toInt < ((n18_2 : Nat) : Int) by have q0 := r39_3.1; have q1 := (eq_len ez8_1 (show (0 : Int) ≤ ((WL : Nat) : Int) ∧ ((WL : Nat) : Int) ≤ 400000 from ⟨Int.natCast_nonneg _, FF.out hq0⟩) (by decide)); have q2 := (eq_mull ez17_1 (show rg (2 : Int32) 2 2 from rg_l (by decide)) h_x_mm_32 (by decide)); have q3 := FF.out hq4; have q4 := FF.out t9_2; have q5 := FF.out en18_2; have q6 := FF.out t39_2; omega))
          refine va_iast hx hb hK hP hD hS 4 1 rfl rfl hi63_1 dX16_goesTo_63 (fun H locs hP hD hS => ?_)
          have hP : va_P D vwCl [(mm, .inr (16, fs_mm)), (uwa, .inl (ct 1, WL, .inl g_uwa)), (uww, .inl (ct 1, WL, .inl g_uww)), (q18_1, .inl (ct 1, n18_2, .inl f52_2)), (q27_1, .inl (ct 1, n18_2, .inl (upd j33_cq27_1 j33_l4.toNatClampNeg z62_2)))] _ := hP
          have hD : va_D A [(mm, .inr (16, fs_mm)), (uwa, .inl (ct 1, WL, .inl g_uwa)), (uww, .inl (ct 1, WL, .inl g_uww)), (q18_1, .inl (ct 1, n18_2, .inl f52_2)), (q27_1, .inl (ct 1, n18_2, .inl (upd j33_cq27_1 j33_l4.toNatClampNeg z62_2)))] := hD
          obtain ⟨f63_2, ef63_2⟩ : ∃ z, z = (upd j33_cq27_1 j33_l4.toNatClampNeg z62_2) := ⟨_, rfl⟩
          rw [← ef63_2] at hP hD
          obtain ⟨x64_1, ex64_1⟩ : ∃ z : Int32, z = j33_l4 + 1 := ⟨_, rfl⟩
          have r64_2 : rg x64_1 1 200000 := rg_add ex64_1 r39_3 (show rg (1 : Int32) 1 1 from rg_l (by decide)) (by decide)
          refine lv_iinc (v := x64_1) (lv' := [(4, .int x64_1), (0, .ref mm), (1, .int v0), (2, .ref q18_1), (3, .ref q27_1)]) hx hb dX16_goesTo_64 hl (k := 4) rfl (by rw [ex64_1]; rfl) (by decide) rfl (fun ls hl => ?_)
          refine lv_goto (tgt := 33) hx hb dX16_goesTo_67 (by decide) ?_
          exact ih33 x64_1 f52_2 f63_2 H locs ls (rg_w r64_2 (by decide)) (show ((2147483647 : Int) - x64_1.toInt).toNat < n33 by have q0 := r39_3.2; have q1 := (eq_add ex64_1 r39_3 (show rg (1 : Int32) 1 1 from rg_l (by decide)) (by decide)); have q2 := (show (1 : Int32).toInt = 1 from by decide); have q3 := hms33; omega) (lv_sub hl [1, 2, 3, 4, 0] rfl) hP hD hS
    exact b33 _ (0 : Int32) (fun _ => 0) (fun _ => 0) H locs ls (rg_w (show rg (0 : Int32) 0 0 from rg_l (by decide)) (by decide)) (Nat.lt_succ_self _) (lv_sub hl [3, 4, 2, 1, 0] rfl) hP hD hS
set_option maxHeartbeats 2000000 in
theorem c_X16_slotOf (l : Launch) (D : va_G) (ct : Nat → ClassId) (v0 : Int32)  : KI (S := Unit) l yX16_slotOf cX16_slotOf 1 (some .int) 1 20 D ct [.int v0] [] 0 0 (fun (r : Int32) (_ : Unit) => True) (fun (_ : Unit) => []) := by
  refine KIq_of (by decide) (Nat.le_of_ble_eq_true rfl) (fun p e s m below meth c A Q C0 hA H locs hS hP hD hQ ls hl => ?_)
  obtain ⟨hx, hb, hr, hown, hin, hml, hlocks, hn, hK, hZ, hSK⟩ := C0
  have hl : lv_has ls 1 [(0, .int v0)] := hl
  refine lv_bipush (v := (-8)) hx hb dX16_slotOf_0 (by decide) ?_
  refine lv_bipush (v := 8) hx hb dX16_slotOf_2 (by decide) ?_
  refine lv_iload_n hx hb dX16_slotOf_4 rfl (lv_at hl 0 rfl) ?_
  refine lv_imul hx hb dX16_slotOf_5 ?_
  refine lv_topi (fun z5_1 ez5_1 => ?_)
  refine lv_isub hx hb dX16_slotOf_6 ?_
  refine lv_topi (fun z6_1 ez6_1 => ?_)
  exact endq_i hQ hx hb hr hlocks dX16_slotOf_7 rfl () trivial hP hD hS [] rfl (by decide) rfl (Nat.le_of_ble_eq_true rfl) (Nat.le_of_ble_eq_true rfl)
set_option maxHeartbeats 2000000 in
theorem c_X16_absolute (l : Launch) (D : va_G) (ct : Nat → ClassId) (v0 : Int32)  : KI (S := Unit) l yX16_absolute cX16_absolute 1 (some .int) 1 20 D ct [.int v0] [] 0 0 (fun (r : Int32) (_ : Unit) => rg r 32 48 ∧ (v0.toInt ≠ 4 → r.toInt ≠ 32) ∧ (v0.toInt ≠ 4 → r.toInt + 32 ≠ 64)) (fun (_ : Unit) => []) := by
  refine KIq_of (by decide) (Nat.le_of_ble_eq_true rfl) (fun p e s m below meth c A Q C0 hA H locs hS hP hD hQ ls hl => ?_)
  obtain ⟨hx, hb, hr, hown, hin, hml, hlocks, hn, hK, hZ, hSK⟩ := C0
  have hl : lv_has ls 1 [(0, .int v0)] := hl
  refine lv_iload_n hx hb dX16_absolute_0 rfl (lv_at hl 0 rfl) ?_
  refine lv_iconst (v := 4) hx hb dX16_absolute_1 (by decide) ?_
  refine lv_icmp_ne (tgt := 10) hx hb dX16_absolute_2 (by decide) (fun c2_1 => ?_) (fun c2_1 => ?_)
  · have t2_2 := FF.mk (i_ne c2_1)
    refine lv_iload_n hx hb dX16_absolute_10 rfl (lv_at hl 0 rfl) ?_
    refine lv_iconst (v := 2) hx hb dX16_absolute_11 (by decide) ?_
    refine lv_icmp_ne (tgt := 20) hx hb dX16_absolute_12 (by decide) (fun c12_1 => ?_) (fun c12_1 => ?_)
    · have t12_2 := FF.mk (i_ne c12_1)
      refine lv_bipush (v := 48) hx hb dX16_absolute_20 (by decide) ?_
      exact endq_i hQ hx hb hr hlocks dX16_absolute_22 rfl () ⟨(rg_w (show rg (48 : Int32) 48 48 from rg_l (by decide)) (by decide)), (show v0.toInt ≠ 4 → (48 : Int32).toInt ≠ 32 by have q0 := (show (48 : Int32).toInt = 48 from by decide); omega), (show v0.toInt ≠ 4 → (48 : Int32).toInt + 32 ≠ 64 by have q0 := (show (48 : Int32).toInt = 48 from by decide); omega)⟩ hP hD hS [] rfl (by decide) rfl (Nat.le_of_ble_eq_true rfl) (Nat.le_of_ble_eq_true rfl)
    · have t12_2 := FF.mk (i_eq c12_1)
      have r12_3 : rg v0 2 2 := rg_eqA t12_2 (rg_any v0) (show rg (2 : Int32) 2 2 from rg_l (by decide)) (by decide)
      refine lv_bipush (v := 40) hx hb dX16_absolute_15 (by decide) ?_
      refine lv_goto (tgt := 22) hx hb dX16_absolute_17 (by decide) ?_
      exact endq_i hQ hx hb hr hlocks dX16_absolute_22 rfl () ⟨(rg_w (show rg (40 : Int32) 40 40 from rg_l (by decide)) (by decide)), (show v0.toInt ≠ 4 → (40 : Int32).toInt ≠ 32 by have q0 := (show (40 : Int32).toInt = 40 from by decide); omega), (show v0.toInt ≠ 4 → (40 : Int32).toInt + 32 ≠ 64 by have q0 := (show (40 : Int32).toInt = 40 from by decide); omega)⟩ hP hD hS [] rfl (by decide) rfl (Nat.le_of_ble_eq_true rfl) (Nat.le_of_ble_eq_true rfl)
  · have t2_2 := FF.mk (i_eq c2_1)
    have r2_3 : rg v0 4 4 := rg_eqA t2_2 (rg_any v0) (show rg (4 : Int32) 4 4 from rg_l (by decide)) (by decide)
    refine lv_bipush (v := 32) hx hb dX16_absolute_5 (by decide) ?_
    refine lv_goto (tgt := 22) hx hb dX16_absolute_7 (by decide) ?_
    exact endq_i hQ hx hb hr hlocks dX16_absolute_22 rfl () ⟨(rg_w (show rg (32 : Int32) 32 32 from rg_l (by decide)) (by decide)), (show v0.toInt ≠ 4 → (32 : Int32).toInt ≠ 32 by have q0 := r2_3.1; have q1 := r2_3.2; have q2 := (show (32 : Int32).toInt = 32 from by decide); omega), (show v0.toInt ≠ 4 → (32 : Int32).toInt + 32 ≠ 64 by have q0 := r2_3.1; have q1 := r2_3.2; have q2 := (show (32 : Int32).toInt = 32 from by decide); omega)⟩ hP hD hS [] rfl (by decide) rfl (Nat.le_of_ble_eq_true rfl) (Nat.le_of_ble_eq_true rfl)
set_option maxHeartbeats 2000000 in
theorem c_X16_other (l : Launch) (D : va_G) (ct : Nat → ClassId) (v0 : Int32)  : KI (S := Unit) l yX16_other cX16_other 1 (some .int) 1 20 D ct [.int v0] [] 0 0 (fun (r : Int32) (_ : Unit) => rg r 1 11) (fun (_ : Unit) => []) := by
  refine KIq_of (by decide) (Nat.le_of_ble_eq_true rfl) (fun p e s m below meth c A Q C0 hA H locs hS hP hD hQ ls hl => ?_)
  obtain ⟨hx, hb, hr, hown, hin, hml, hlocks, hn, hK, hZ, hSK⟩ := C0
  have hl : lv_has ls 1 [(0, .int v0)] := hl
  refine lv_iload_n hx hb dX16_other_0 rfl (lv_at hl 0 rfl) ?_
  by_cases h1_101 : v0.toInt = 1
  · have r1_102 : rg v0 1 1 := rg_at h1_101
    refine lv_tableIn (off := 59) (tgt := 60) hx hb dX16_other_1 (by rw [h1_101]; decide) (by rw [h1_101]; decide) (by rw [h1_101]; rfl) (by decide) ?_
    refine lv_iconst (v := 5) hx hb dX16_other_60 (by decide) ?_
    exact endq_i hQ hx hb hr hlocks dX16_other_61 rfl () (rg_w (show rg (5 : Int32) 5 5 from rg_l (by decide)) (by decide)) hP hD hS [] rfl (by decide) rfl (Nat.le_of_ble_eq_true rfl) (Nat.le_of_ble_eq_true rfl)
  by_cases h1_111 : v0.toInt = 2
  · have r1_112 : rg v0 2 2 := rg_at h1_111
    refine lv_tableIn (off := 63) (tgt := 64) hx hb dX16_other_1 (by rw [h1_111]; decide) (by rw [h1_111]; decide) (by rw [h1_111]; rfl) (by decide) ?_
    refine lv_bipush (v := 11) hx hb dX16_other_64 (by decide) ?_
    exact endq_i hQ hx hb hr hlocks dX16_other_66 rfl () (rg_w (show rg (11 : Int32) 11 11 from rg_l (by decide)) (by decide)) hP hD hS [] rfl (by decide) rfl (Nat.le_of_ble_eq_true rfl) (Nat.le_of_ble_eq_true rfl)
  by_cases h1_121 : v0.toInt = 3
  · have r1_122 : rg v0 3 3 := rg_at h1_121
    refine lv_tableIn (off := 70) (tgt := 71) hx hb dX16_other_1 (by rw [h1_121]; decide) (by rw [h1_121]; decide) (by rw [h1_121]; rfl) (by decide) ?_
    refine lv_bipush (v := 10) hx hb dX16_other_71 (by decide) ?_
    exact endq_i hQ hx hb hr hlocks dX16_other_73 rfl () (rg_w (show rg (10 : Int32) 10 10 from rg_l (by decide)) (by decide)) hP hD hS [] rfl (by decide) rfl (Nat.le_of_ble_eq_true rfl) (Nat.le_of_ble_eq_true rfl)
  by_cases h1_131 : v0.toInt = 4
  · have r1_132 : rg v0 4 4 := rg_at h1_131
    refine lv_tableIn (off := 70) (tgt := 71) hx hb dX16_other_1 (by rw [h1_131]; decide) (by rw [h1_131]; decide) (by rw [h1_131]; rfl) (by decide) ?_
    refine lv_bipush (v := 10) hx hb dX16_other_71 (by decide) ?_
    exact endq_i hQ hx hb hr hlocks dX16_other_73 rfl () (rg_w (show rg (10 : Int32) 10 10 from rg_l (by decide)) (by decide)) hP hD hS [] rfl (by decide) rfl (Nat.le_of_ble_eq_true rfl) (Nat.le_of_ble_eq_true rfl)
  by_cases h1_141 : v0.toInt = 5
  · have r1_142 : rg v0 5 5 := rg_at h1_141
    refine lv_tableIn (off := 61) (tgt := 62) hx hb dX16_other_1 (by rw [h1_141]; decide) (by rw [h1_141]; decide) (by rw [h1_141]; rfl) (by decide) ?_
    refine lv_iconst (v := 1) hx hb dX16_other_62 (by decide) ?_
    exact endq_i hQ hx hb hr hlocks dX16_other_63 rfl () (rg_w (show rg (1 : Int32) 1 1 from rg_l (by decide)) (by decide)) hP hD hS [] rfl (by decide) rfl (Nat.le_of_ble_eq_true rfl) (Nat.le_of_ble_eq_true rfl)
  by_cases h1_151 : v0.toInt = 6
  · have r1_152 : rg v0 6 6 := rg_at h1_151
    refine lv_tableIn (off := 70) (tgt := 71) hx hb dX16_other_1 (by rw [h1_151]; decide) (by rw [h1_151]; decide) (by rw [h1_151]; rfl) (by decide) ?_
    refine lv_bipush (v := 10) hx hb dX16_other_71 (by decide) ?_
    exact endq_i hQ hx hb hr hlocks dX16_other_73 rfl () (rg_w (show rg (10 : Int32) 10 10 from rg_l (by decide)) (by decide)) hP hD hS [] rfl (by decide) rfl (Nat.le_of_ble_eq_true rfl) (Nat.le_of_ble_eq_true rfl)
  by_cases h1_161 : v0.toInt = 7
  · have r1_162 : rg v0 7 7 := rg_at h1_161
    refine lv_tableIn (off := 70) (tgt := 71) hx hb dX16_other_1 (by rw [h1_161]; decide) (by rw [h1_161]; decide) (by rw [h1_161]; rfl) (by decide) ?_
    refine lv_bipush (v := 10) hx hb dX16_other_71 (by decide) ?_
    exact endq_i hQ hx hb hr hlocks dX16_other_73 rfl () (rg_w (show rg (10 : Int32) 10 10 from rg_l (by decide)) (by decide)) hP hD hS [] rfl (by decide) rfl (Nat.le_of_ble_eq_true rfl) (Nat.le_of_ble_eq_true rfl)
  by_cases h1_171 : v0.toInt = 8
  · have r1_172 : rg v0 8 8 := rg_at h1_171
    refine lv_tableIn (off := 70) (tgt := 71) hx hb dX16_other_1 (by rw [h1_171]; decide) (by rw [h1_171]; decide) (by rw [h1_171]; rfl) (by decide) ?_
    refine lv_bipush (v := 10) hx hb dX16_other_71 (by decide) ?_
    exact endq_i hQ hx hb hr hlocks dX16_other_73 rfl () (rg_w (show rg (10 : Int32) 10 10 from rg_l (by decide)) (by decide)) hP hD hS [] rfl (by decide) rfl (Nat.le_of_ble_eq_true rfl) (Nat.le_of_ble_eq_true rfl)
  by_cases h1_181 : v0.toInt = 9
  · have r1_182 : rg v0 9 9 := rg_at h1_181
    refine lv_tableIn (off := 70) (tgt := 71) hx hb dX16_other_1 (by rw [h1_181]; decide) (by rw [h1_181]; decide) (by rw [h1_181]; rfl) (by decide) ?_
    refine lv_bipush (v := 10) hx hb dX16_other_71 (by decide) ?_
    exact endq_i hQ hx hb hr hlocks dX16_other_73 rfl () (rg_w (show rg (10 : Int32) 10 10 from rg_l (by decide)) (by decide)) hP hD hS [] rfl (by decide) rfl (Nat.le_of_ble_eq_true rfl) (Nat.le_of_ble_eq_true rfl)
  by_cases h1_191 : v0.toInt = 10
  · have r1_192 : rg v0 10 10 := rg_at h1_191
    refine lv_tableIn (off := 68) (tgt := 69) hx hb dX16_other_1 (by rw [h1_191]; decide) (by rw [h1_191]; decide) (by rw [h1_191]; rfl) (by decide) ?_
    refine lv_iconst (v := 3) hx hb dX16_other_69 (by decide) ?_
    exact endq_i hQ hx hb hr hlocks dX16_other_70 rfl () (rg_w (show rg (3 : Int32) 3 3 from rg_l (by decide)) (by decide)) hP hD hS [] rfl (by decide) rfl (Nat.le_of_ble_eq_true rfl) (Nat.le_of_ble_eq_true rfl)
  by_cases h1_201 : v0.toInt = 11
  · have r1_202 : rg v0 11 11 := rg_at h1_201
    refine lv_tableIn (off := 66) (tgt := 67) hx hb dX16_other_1 (by rw [h1_201]; decide) (by rw [h1_201]; decide) (by rw [h1_201]; rfl) (by decide) ?_
    refine lv_iconst (v := 2) hx hb dX16_other_67 (by decide) ?_
    exact endq_i hQ hx hb hr hlocks dX16_other_68 rfl () (rg_w (show rg (2 : Int32) 2 2 from rg_l (by decide)) (by decide)) hP hD hS [] rfl (by decide) rfl (Nat.le_of_ble_eq_true rfl) (Nat.le_of_ble_eq_true rfl)
  refine lv_tableOut (tgt := 71) hx hb dX16_other_1 (by have q0 := (rg_any v0); have q1 := q0.1; have q2 := q0.2; omega) (by decide) ?_
  have hl1_5001 := FF.mk h1_101
  have hl1_5002 := FF.mk h1_111
  have hl1_5003 := FF.mk h1_121
  have hl1_5004 := FF.mk h1_131
  have hl1_5005 := FF.mk h1_141
  have hl1_5006 := FF.mk h1_151
  have hl1_5007 := FF.mk h1_161
  have hl1_5008 := FF.mk h1_171
  have hl1_5009 := FF.mk h1_181
  have hl1_5010 := FF.mk h1_191
  have hl1_5011 := FF.mk h1_201
  refine lv_bipush (v := 10) hx hb dX16_other_71 (by decide) ?_
  exact endq_i hQ hx hb hr hlocks dX16_other_73 rfl () (rg_w (show rg (10 : Int32) 10 10 from rg_l (by decide)) (by decide)) hP hD hS [] rfl (by decide) rfl (Nat.le_of_ble_eq_true rfl) (Nat.le_of_ble_eq_true rfl)
set_option maxHeartbeats 2000000 in
theorem c_X16_toNo (l : Launch) (hst : l.stackTraces = false) (D : va_G) (ct : Nat → ClassId) (MC : Nat) (MS : Nat) (mm : Nat) (fs_mm : List Value) (uco : Nat) (x_mm_29 : Int32) (uwa : Nat) (uww : Nat) (x_mm_32 : Int32) (g_uco : Nat → Int64) (CL : Nat) (g_uwa : Nat → Int32) (WL : Nat) (g_uww : Nat → Int32) (hlen_mm : fs_mm.length = 78) (hf_mm_28 : fs_mm[28]? = some (.ref uco)) (h_x_mm_29 : rg x_mm_29 0 200000) (hf_mm_29 : fs_mm[29]? = some (.int x_mm_29)) (hf_mm_30 : fs_mm[30]? = some (.ref uwa)) (hf_mm_31 : fs_mm[31]? = some (.ref uww)) (h_x_mm_32 : rg x_mm_32 0 200000) (hf_mm_32 : fs_mm[32]? = some (.int x_mm_32)) (hq0 : ((CL : Nat) : Int) ≤ 400000) (hq1 : ((WL : Nat) : Int) ≤ 400000) (hq2 : x_mm_29.toInt ≤ 199999) (hq3 : 3 ≤ ((MC : Nat) : Int)) (hq4 : 4 * (x_mm_29.toInt + 1) + 8 * (x_mm_32.toInt + 1) ≤ ((MS : Nat) : Int)) (hq5 : x_mm_29.toInt ≤ ((CL : Nat) : Int)) (hq6 : 64 ≤ ((CL : Nat) : Int)) (hq7 : x_mm_32.toInt ≤ ((WL : Nat) : Int)) (hq8 : 64 ≤ ((WL : Nat) : Int)) (hq9 : x_mm_32.toInt ≤ 199999) : KT (V := Unit) (S := List Value × Nat × Int32 × Nat × Nat × Int32 × (Nat → Int64) × Nat × (Nat → Int32) × Nat × (Nat → Int32) × Nat × Nat) (SX := Unit) l yX16_toNo cX16_toNo 1 none 2 48 D ct [.ref mm] [(mm, .inr (16, fs_mm)), (uco, .inl (ct 2, CL, .inr (.inl g_uco))), (uwa, .inl (ct 1, WL, .inl g_uwa)), (uww, .inl (ct 1, WL, .inl g_uww))] MC MS (fun _ : Unit => none) (fun (_ : Unit) (u : List Value × Nat × Int32 × Nat × Nat × Int32 × (Nat → Int64) × Nat × (Nat → Int32) × Nat × (Nat → Int32) × Nat × Nat) => match u with | (fs2_mm, a_mm_28, y_mm_29, a_mm_30, a_mm_31, y_mm_32, k_uco, CL2, k_uwa, WL2, k_uww, kc, kn) => SB fs_mm fs2_mm [28, 29, 30, 31, 32] ∧ fs2_mm[28]? = some (.ref a_mm_28) ∧ rg y_mm_29 1 200001 ∧ fs2_mm[29]? = some (.int y_mm_29) ∧ fs2_mm[30]? = some (.ref a_mm_30) ∧ fs2_mm[31]? = some (.ref a_mm_31) ∧ rg y_mm_32 1 200001 ∧ fs2_mm[32]? = some (.int y_mm_32) ∧ (x_mm_29.toInt ≤ y_mm_29.toInt ∧ y_mm_29.toInt ≤ x_mm_29.toInt + 1) ∧ (y_mm_29.toInt ≤ ((CL2 : Nat) : Int)) ∧ (((CL : Nat) : Int) ≤ ((CL2 : Nat) : Int)) ∧ (((CL2 : Nat) : Int) = ((CL : Nat) : Int) ∨ ((CL2 : Nat) : Int) ≤ 2 * y_mm_29.toInt) ∧ (((kc : Nat) : Int) ≤ 3) ∧ (x_mm_32.toInt ≤ y_mm_32.toInt ∧ y_mm_32.toInt ≤ x_mm_32.toInt + 1) ∧ (y_mm_32.toInt ≤ ((WL2 : Nat) : Int)) ∧ (((WL : Nat) : Int) ≤ ((WL2 : Nat) : Int)) ∧ (((WL2 : Nat) : Int) = ((WL : Nat) : Int) ∨ ((WL2 : Nat) : Int) ≤ 2 * y_mm_32.toInt) ∧ (32 * ((kc : Nat) : Int) + ((CL : Nat) : Int) + ((WL : Nat) : Int) ≤ ((CL2 : Nat) : Int) + ((WL2 : Nat) : Int)) ∧ (((kn : Nat) : Int) ≤ 2 * (((CL2 : Nat) : Int) - ((CL : Nat) : Int)) + 4 * (((WL2 : Nat) : Int) - ((WL : Nat) : Int)))) (fun (u : List Value × Nat × Int32 × Nat × Nat × Int32 × (Nat → Int64) × Nat × (Nat → Int32) × Nat × (Nat → Int32) × Nat × Nat) => match u with | (fs2_mm, a_mm_28, y_mm_29, a_mm_30, a_mm_31, y_mm_32, k_uco, CL2, k_uwa, WL2, k_uww, kc, kn) => [(mm, .inr (16, fs2_mm)), (a_mm_28, .inl (ct 2, CL2, .inr (.inl k_uco))), (a_mm_30, .inl (ct 1, WL2, .inl k_uwa)), (a_mm_31, .inl (ct 1, WL2, .inl k_uww))] ++ []) (fun (u : List Value × Nat × Int32 × Nat × Nat × Int32 × (Nat → Int64) × Nat × (Nat → Int32) × Nat × (Nat → Int32) × Nat × Nat) => match u with | (fs2_mm, a_mm_28, y_mm_29, a_mm_30, a_mm_31, y_mm_32, k_uco, CL2, k_uwa, WL2, k_uww, kc, kn) => kc) (fun (u : List Value × Nat × Int32 × Nat × Nat × Int32 × (Nat → Int64) × Nat × (Nat → Int32) × Nat × (Nat → Int32) × Nat × Nat) => match u with | (fs2_mm, a_mm_28, y_mm_29, a_mm_30, a_mm_31, y_mm_32, k_uco, CL2, k_uwa, WL2, k_uww, kc, kn) => kn) 15 RX15 peW (fun _ => False) (fun _ => []) := by
  refine KT_of (by decide) (Nat.le_of_ble_eq_true rfl) (fun p e s m below meth c A Q C0 htab hA H locs hS hP hD hQ ls hl => ?_)
  obtain ⟨hx, hb, hr, hown, hin, hml, hlocks, hn, hK, hZ, hSK⟩ := C0
  have hl : lv_has ls 1 [(0, .ref mm)] := hl
  replace hq0 := FF.mk hq0
  replace hq1 := FF.mk hq1
  replace hq2 := FF.mk hq2
  replace hq3 := FF.mk hq3
  replace hq4 := FF.mk hq4
  replace hq5 := FF.mk hq5
  replace hq6 := FF.mk hq6
  replace hq7 := FF.mk hq7
  replace hq8 := FF.mk hq8
  replace hq9 := FF.mk hq9
  refine lv_aload_n hx hb dX16_toNo_0 rfl (lv_at hl 0 rfl) ?_
  refine lv_iconst (v := 5) hx hb dX16_toNo_1 (by decide) ?_
  refine lv_iconst (v := 0) hx hb dX16_toNo_2 (by decide) ?_
  refine lv_iconst (v := 0) hx hb dX16_toNo_3 (by decide) ?_
  refine lv_iconst (v := 0) hx hb dX16_toNo_4 (by decide) ?_
  refine lv_lconst (v := 0) hx hb dX16_toNo_5 (by decide) ?_
  obtain ⟨m6_1, gm6_1⟩ : ∃ m9 : Nat, m9 + 0 = MC := ⟨MC - 0, Nat.sub_add_cancel (Nat.zero_le MC)⟩
  have em6_1 := FF.mk gm6_1
  obtain ⟨m6_2, gm6_2⟩ : ∃ m9 : Nat, m9 + 0 = MS := ⟨MS - 0, Nat.sub_add_cancel (Nat.zero_le MS)⟩
  have em6_2 := FF.mk gm6_2
  refine gt_q (pl := []) (wr := [(uwa, .inl (ct 1, WL, .inl g_uwa)), (uww, .inl (ct 1, WL, .inl g_uww))]) [0, 1] [2, 3] (rt_V (As := [.int 5, .int 0, .int 0, .int 0, .long 0]) (rest := []) (c_X16_emit l hst D ct m6_1 m6_2 mm (5 : Int32) (0 : Int32) (0 : Int32) (0 : Int32) (0 : Int64) fs_mm uco x_mm_29 g_uco CL hlen_mm hf_mm_28 h_x_mm_29 hf_mm_29 (show ((CL : Nat) : Int) ≤ 400000 by have q0 := FF.out hq0; omega) (show 1 ≤ ((m6_1 : Nat) : Int) by have q0 := FF.out hq3; have q1 := FF.out em6_1; omega) (show 2 * x_mm_29.toInt ≤ ((m6_2 : Nat) : Int) by have q0 := h_x_mm_32.1; have q1 := FF.out hq4; have q2 := FF.out em6_2; omega) (show x_mm_29.toInt ≤ ((CL : Nat) : Int) by have q0 := FF.out hq5; omega) (show 64 ≤ ((CL : Nat) : Int) by have q0 := FF.out hq6; omega) _) (cb_of (n := 5) hn mw_2250 mw_13 mw_2247 mhX16_emit ⟨(Nat.le_of_ble_eq_true rfl), (Nat.le_of_ble_eq_true rfl)⟩) hx hb hml hown hn hK hSK hZ hS mw_2249 mw_s211 (ci := 16) (q0 := 0) rfl rfl rfl rfl hl.1 (Nat.le_of_ble_eq_true rfl) dX16_toNo_6 ⟨(Nat.le_of_eq ((Nat.add_comm _ _).trans gm6_1)), (Nat.le_of_eq ((Nat.add_comm _ _).trans gm6_2))⟩) (by rw [List.append_nil]; exact hP) (by rw [List.append_nil]; exact hD) hS hA rfl rfl (by decide) (by decide) (by decide) (fun xq6_6 ux6_7 xfs6_8 H locs hpx6_9 hpexfs6_8 hP hD hS => ?_) (fun r6_3 u6_4 H locs hp6_5 hP hD hS => ?_)
  · exact hpx6_9.elim
  obtain ⟨fs2_mm6_310, a_mm_286_311, y_mm_296_312, k_uco6_313, CL26_314, kc6_315, kn6_316⟩ := u6_4
  obtain ⟨hp6_317, hp6_318, hp6_319, hp6_320, hp6_321, hp6_322, hp6_323, hp6_324, hp6_325, hp6_326⟩ := hp6_5
  have hs6_327 : SB fs_mm fs2_mm6_310 [28, 29, 30, 31, 32] := SB.trans (SB.rf _ _) hp6_317 (by decide)
  have hf6_328 : fs2_mm6_310[30]? = some (.ref uwa) := SB.get hp6_317 (by decide) hf_mm_30
  have hf6_329 : fs2_mm6_310[31]? = some (.ref uww) := SB.get hp6_317 (by decide) hf_mm_31
  have hf6_330 : fs2_mm6_310[32]? = some (.int x_mm_32) := SB.get hp6_317 (by decide) hf_mm_32
  have hp6_319 : rg y_mm_296_312 1 200001 := hp6_319
  replace hp6_321 : FF (y_mm_296_312.toInt = x_mm_29.toInt + 1) := hp6_321
  replace hp6_322 : FF (y_mm_296_312.toInt ≤ ((CL26_314 : Nat) : Int)) := hp6_322
  replace hp6_323 : FF (64 * ((kc6_315 : Nat) : Int) + ((CL : Nat) : Int) ≤ ((CL26_314 : Nat) : Int)) := hp6_323
  replace hp6_324 : FF (((kn6_316 : Nat) : Int) = 2 * (((CL26_314 : Nat) : Int) - ((CL : Nat) : Int))) := hp6_324
  replace hp6_325 : FF (((kc6_315 : Nat) : Int) ≤ 1) := hp6_325
  replace hp6_326 : FF (((CL26_314 : Nat) : Int) = ((CL : Nat) : Int) ∨ ((CL26_314 : Nat) : Int) = 2 * x_mm_29.toInt) := hp6_326
  obtain ⟨c6_331, ec6_331⟩ : ∃ x9 : Nat, x9 = 0 + kc6_315 := ⟨_, rfl⟩
  have ec6_331 := FF.mk ec6_331
  have mc6_331 : FF (c6_331 ≤ MC) := FF.mk (Int.ofNat_le.mp (show ((c6_331 : Nat) : Int) ≤ ((MC : Nat) : Int) by have q0 := FF.out hq3; have q1 := FF.out hp6_325; have q2 := FF.out ec6_331; omega))
  obtain ⟨k6_332, ek6_332⟩ : ∃ x9 : Nat, x9 = 0 + kn6_316 := ⟨_, rfl⟩
  have ek6_332 := FF.mk ek6_332
  have mk6_332 : FF (k6_332 ≤ MS) := FF.mk (Int.ofNat_le.mp (show ((k6_332 : Nat) : Int) ≤ ((MS : Nat) : Int) by have q0 := h_x_mm_32.1; have q1 := h_x_mm_29.1; have q2 := FF.out hq4; have q3 := FF.out hq6; have q4 := FF.out hp6_324; have q5 := FF.out hp6_326; have q6 := FF.out ek6_332; omega))
  rw [List.append_nil] at hP hD
  have hP : va_P D vwCl [(uwa, .inl (ct 1, WL, .inl g_uwa)), (uww, .inl (ct 1, WL, .inl g_uww)), (mm, .inr (16, fs2_mm6_310)), (a_mm_286_311, .inl (ct 2, CL26_314, .inr (.inl k_uco6_313)))] _ := hP
  have hD : va_D A [(uwa, .inl (ct 1, WL, .inl g_uwa)), (uww, .inl (ct 1, WL, .inl g_uww)), (mm, .inr (16, fs2_mm6_310)), (a_mm_286_311, .inl (ct 2, CL26_314, .inr (.inl k_uco6_313)))] := hD
  refine W.widen (k := c6_331) (n := k6_332) (Nat.le_of_eq (FF.out ec6_331).symm) (Nat.le_of_eq (FF.out ek6_332).symm) (W.eq (g2 := F0 m 9 ls []) rfl ?_)
  refine lv_aload_n hx hb dX16_toNo_9 rfl (lv_at hl 0 rfl) ?_
  refine lv_bipush (v := (-2)) hx hb dX16_toNo_10 (by decide) ?_
  obtain ⟨m12_1, gm12_1⟩ : ∃ m9 : Nat, m9 + c6_331 = MC := ⟨MC - c6_331, Nat.sub_add_cancel (FF.out mc6_331)⟩
  have em12_1 := FF.mk gm12_1
  obtain ⟨m12_2, gm12_2⟩ : ∃ m9 : Nat, m9 + k6_332 = MS := ⟨MS - k6_332, Nat.sub_add_cancel (FF.out mk6_332)⟩
  have em12_2 := FF.mk gm12_2
  refine gt_q (pl := []) (wr := [(a_mm_286_311, .inl (ct 2, CL26_314, .inr (.inl k_uco6_313)))]) [2, 0, 1] [3] (rt_V (As := [.int (-2)]) (rest := []) (c_X16_goesTo l hst D ct m12_1 m12_2 mm ((-2) : Int32) fs2_mm6_310 y_mm_296_312 uwa uww x_mm_32 g_uwa WL g_uww (hs6_327.1.trans hlen_mm) (rg_of (show 0 ≤ y_mm_296_312.toInt ∧ y_mm_296_312.toInt ≤ 200000 by have q0 := hp6_319.1; have q1 := FF.out hq2; have q2 := FF.out hp6_321; omega)) hp6_320 hf6_328 hf6_329 h_x_mm_32 hf6_330 (show ((WL : Nat) : Int) ≤ 400000 by have q0 := FF.out hq1; omega) (show 2 ≤ ((m12_1 : Nat) : Int) by have q0 := FF.out hq3; have q1 := FF.out hp6_325; have q2 := FF.out ec6_331; have q3 := FF.out em12_1; omega) (show 4 * x_mm_32.toInt ≤ ((m12_2 : Nat) : Int) by have q0 := h_x_mm_32.1; have q1 := h_x_mm_29.1; have q2 := FF.out hq4; have q3 := FF.out hq6; have q4 := FF.out hp6_324; have q5 := FF.out hp6_326; have q6 := FF.out ek6_332; have q7 := FF.out em12_2; omega) (show x_mm_32.toInt ≤ ((WL : Nat) : Int) by have q0 := FF.out hq7; omega) (show 64 ≤ ((WL : Nat) : Int) by have q0 := FF.out hq8; omega) _) (cb_of (n := 1) hn mw_2292 mw_13 mw_2289 mhX16_goesTo ⟨(Nat.le_of_ble_eq_true rfl), (Nat.le_of_ble_eq_true rfl)⟩) hx hb hml hown hn hK hSK hZ hS mw_2291 mw_s220 (ci := 16) (q0 := 0) rfl rfl rfl rfl hl.1 (Nat.le_of_ble_eq_true rfl) dX16_toNo_12 ⟨(Nat.le_of_eq ((Nat.add_comm _ _).trans gm12_1)), (Nat.le_of_eq ((Nat.add_comm _ _).trans gm12_2))⟩) (by rw [List.append_nil]; exact hP) (by rw [List.append_nil]; exact hD) hS hA rfl rfl (by decide) (by decide) (by decide) (fun xq12_6 ux12_7 xfs12_8 H locs hpx12_9 hpexfs12_8 hP hD hS => ?_) (fun r12_3 u12_4 H locs hp12_5 hP hD hS => ?_)
  · exact hpx12_9.elim
  obtain ⟨fs2_mm12_310, a_mm_3012_311, a_mm_3112_312, y_mm_3212_313, k_uwa12_314, WL212_315, k_uww12_316, kc12_317, kn12_318⟩ := u12_4
  obtain ⟨hp12_319, hp12_320, hp12_321, hp12_322, hp12_323, hp12_324, hp12_325, hp12_326, hp12_327, hp12_328, hp12_329⟩ := hp12_5
  have hs12_330 : SB fs_mm fs2_mm12_310 [28, 29, 30, 31, 32] := SB.trans hs6_327 hp12_319 (by decide)
  have hf12_331 : fs2_mm12_310[28]? = some (.ref a_mm_286_311) := SB.get hp12_319 (by decide) hp6_318
  have hf12_332 : fs2_mm12_310[29]? = some (.int y_mm_296_312) := SB.get hp12_319 (by decide) hp6_320
  have hp12_322 : rg y_mm_3212_313 1 200001 := hp12_322
  replace hp12_324 : FF (y_mm_3212_313.toInt = x_mm_32.toInt + 1) := hp12_324
  replace hp12_325 : FF (y_mm_3212_313.toInt ≤ ((WL212_315 : Nat) : Int)) := hp12_325
  replace hp12_326 : FF (32 * ((kc12_317 : Nat) : Int) + ((WL : Nat) : Int) ≤ ((WL212_315 : Nat) : Int)) := hp12_326
  replace hp12_327 : FF (((kn12_318 : Nat) : Int) = 4 * (((WL212_315 : Nat) : Int) - ((WL : Nat) : Int))) := hp12_327
  replace hp12_328 : FF (((kc12_317 : Nat) : Int) ≤ 2) := hp12_328
  replace hp12_329 : FF (((WL212_315 : Nat) : Int) = ((WL : Nat) : Int) ∨ ((WL212_315 : Nat) : Int) = 2 * x_mm_32.toInt) := hp12_329
  obtain ⟨c12_333, ec12_333⟩ : ∃ x9 : Nat, x9 = c6_331 + kc12_317 := ⟨_, rfl⟩
  have ec12_333 := FF.mk ec12_333
  have mc12_333 : FF (c12_333 ≤ MC) := FF.mk (Int.ofNat_le.mp (show ((c12_333 : Nat) : Int) ≤ ((MC : Nat) : Int) by have q0 := FF.out hq3; have q1 := FF.out hp6_325; have q2 := FF.out ec6_331; have q3 := FF.out hp12_328; have q4 := FF.out ec12_333; omega))
  obtain ⟨k12_334, ek12_334⟩ : ∃ x9 : Nat, x9 = k6_332 + kn12_318 := ⟨_, rfl⟩
  have ek12_334 := FF.mk ek12_334
  have mk12_334 : FF (k12_334 ≤ MS) := FF.mk (Int.ofNat_le.mp (show ((k12_334 : Nat) : Int) ≤ ((MS : Nat) : Int) by have q0 := h_x_mm_29.1; have q1 := FF.out hq4; have q2 := FF.out hq6; have q3 := FF.out hq8; have q4 := FF.out hp6_324; have q5 := FF.out hp6_326; have q6 := FF.out ek6_332; have q7 := FF.out mk6_332; have q8 := FF.out hp12_327; have q9 := FF.out hp12_329; have q10 := FF.out ek12_334; omega))
  rw [List.append_nil] at hP hD
  have hP : va_P D vwCl [(a_mm_286_311, .inl (ct 2, CL26_314, .inr (.inl k_uco6_313))), (mm, .inr (16, fs2_mm12_310)), (a_mm_3012_311, .inl (ct 1, WL212_315, .inl k_uwa12_314)), (a_mm_3112_312, .inl (ct 1, WL212_315, .inl k_uww12_316))] _ := hP
  have hD : va_D A [(a_mm_286_311, .inl (ct 2, CL26_314, .inr (.inl k_uco6_313))), (mm, .inr (16, fs2_mm12_310)), (a_mm_3012_311, .inl (ct 1, WL212_315, .inl k_uwa12_314)), (a_mm_3112_312, .inl (ct 1, WL212_315, .inl k_uww12_316))] := hD
  refine W.widen (k := c12_333) (n := k12_334) (Nat.le_of_eq (FF.out ec12_333).symm) (Nat.le_of_eq (FF.out ek12_334).symm) (W.eq (g2 := F0 m 15 ls []) rfl ?_)
  exact et_v (SX := Unit) (pl1 := fun _ => []) hQ hx hb hr hlocks dX16_toNo_15 (fs2_mm12_310, a_mm_286_311, y_mm_296_312, a_mm_3012_311, a_mm_3112_312, y_mm_3212_313, k_uco6_313, CL26_314, k_uwa12_314, WL212_315, k_uww12_316, c12_333, k12_334) ⟨hs12_330, hf12_331, hp6_319, hf12_332, hp12_320, hp12_321, hp12_322, hp12_323, (show x_mm_29.toInt ≤ y_mm_296_312.toInt ∧ y_mm_296_312.toInt ≤ x_mm_29.toInt + 1 by have q0 := FF.out hp6_321; omega), (show y_mm_296_312.toInt ≤ ((CL26_314 : Nat) : Int) by have q0 := FF.out hp6_322; omega), (show ((CL : Nat) : Int) ≤ ((CL26_314 : Nat) : Int) by have q0 := FF.out hp6_324; omega), (show ((CL26_314 : Nat) : Int) = ((CL : Nat) : Int) ∨ ((CL26_314 : Nat) : Int) ≤ 2 * y_mm_296_312.toInt by have q0 := FF.out hp6_321; have q1 := FF.out hp6_324; have q2 := FF.out hp6_326; omega), (show ((c12_333 : Nat) : Int) ≤ 3 by have q0 := FF.out hp6_325; have q1 := FF.out ec6_331; have q2 := FF.out hp12_328; have q3 := FF.out ec12_333; omega), (show x_mm_32.toInt ≤ y_mm_3212_313.toInt ∧ y_mm_3212_313.toInt ≤ x_mm_32.toInt + 1 by have q0 := FF.out hp12_324; omega), (show y_mm_3212_313.toInt ≤ ((WL212_315 : Nat) : Int) by have q0 := FF.out hp12_325; omega), (show ((WL : Nat) : Int) ≤ ((WL212_315 : Nat) : Int) by have q0 := FF.out hp12_327; omega), (show ((WL212_315 : Nat) : Int) = ((WL : Nat) : Int) ∨ ((WL212_315 : Nat) : Int) ≤ 2 * y_mm_3212_313.toInt by have q0 := FF.out hp12_324; have q1 := FF.out hp12_327; have q2 := FF.out hp12_329; omega), (show 32 * ((c12_333 : Nat) : Int) + ((CL : Nat) : Int) + ((WL : Nat) : Int) ≤ ((CL26_314 : Nat) : Int) + ((WL212_315 : Nat) : Int) by have q0 := FF.out hp6_323; have q1 := FF.out hp6_324; have q2 := FF.out ec6_331; have q3 := FF.out hp12_326; have q4 := FF.out ec12_333; omega), (show ((k12_334 : Nat) : Int) ≤ 2 * (((CL26_314 : Nat) : Int) - ((CL : Nat) : Int)) + 4 * (((WL212_315 : Nat) : Int) - ((WL : Nat) : Int)) by have q0 := FF.out hp6_324; have q1 := FF.out ek6_332; have q2 := FF.out hp12_327; have q3 := FF.out ek12_334; omega)⟩ (by rw [List.append_nil]; exact hP) (by rw [List.append_nil]; exact hD) hS [1, 0, 2, 3] (by decide) rfl (Nat.le_refl _) (Nat.le_refl _) (FF.out mc12_333) (FF.out mk12_334)
set_option maxHeartbeats 2000000 in
theorem c_X16_keep (l : Launch) (hst : l.stackTraces = false) (D : va_G) (ct : Nat → ClassId) (MC : Nat) (MS : Nat) (mm : Nat) (v0 : Int32) (fs_mm : List Value) (uco : Nat) (x_mm_29 : Int32) (g_uco : Nat → Int64) (CL : Nat) (hlen_mm : fs_mm.length = 78) (hf_mm_28 : fs_mm[28]? = some (.ref uco)) (h_x_mm_29 : rg x_mm_29 0 200000) (hf_mm_29 : fs_mm[29]? = some (.int x_mm_29)) (hq0 : ((CL : Nat) : Int) ≤ 400000) (hq1 : x_mm_29.toInt ≤ 199999) (hq2 : 1 ≤ ((MC : Nat) : Int)) (hq3 : 4 * (x_mm_29.toInt + 1) ≤ ((MS : Nat) : Int)) (hq4 : x_mm_29.toInt ≤ ((CL : Nat) : Int)) (hq5 : 64 ≤ ((CL : Nat) : Int)) : KT (V := Unit) (S := List Value × Nat × Int32 × (Nat → Int64) × Nat × Nat × Nat) (SX := Unit) l yX16_keep cX16_keep 2 none 2 48 D ct [.ref mm, .int v0] [(mm, .inr (16, fs_mm)), (uco, .inl (ct 2, CL, .inr (.inl g_uco)))] MC MS (fun _ : Unit => none) (fun (_ : Unit) (u : List Value × Nat × Int32 × (Nat → Int64) × Nat × Nat × Nat) => match u with | (fs2_mm, a_mm_28, y_mm_29, k_uco, CL2, kc, kn) => SB fs_mm fs2_mm [28, 29] ∧ fs2_mm[28]? = some (.ref a_mm_28) ∧ rg y_mm_29 1 200001 ∧ fs2_mm[29]? = some (.int y_mm_29) ∧ (x_mm_29.toInt ≤ y_mm_29.toInt ∧ y_mm_29.toInt ≤ x_mm_29.toInt + 1) ∧ (y_mm_29.toInt ≤ ((CL2 : Nat) : Int)) ∧ (((CL : Nat) : Int) ≤ ((CL2 : Nat) : Int)) ∧ (((CL2 : Nat) : Int) = ((CL : Nat) : Int) ∨ ((CL2 : Nat) : Int) ≤ 2 * y_mm_29.toInt) ∧ (((kc : Nat) : Int) ≤ 1) ∧ (64 * ((kc : Nat) : Int) + ((CL : Nat) : Int) ≤ ((CL2 : Nat) : Int)) ∧ (((kn : Nat) : Int) = 2 * (((CL2 : Nat) : Int) - ((CL : Nat) : Int)))) (fun (u : List Value × Nat × Int32 × (Nat → Int64) × Nat × Nat × Nat) => match u with | (fs2_mm, a_mm_28, y_mm_29, k_uco, CL2, kc, kn) => [(mm, .inr (16, fs2_mm)), (a_mm_28, .inl (ct 2, CL2, .inr (.inl k_uco)))] ++ []) (fun (u : List Value × Nat × Int32 × (Nat → Int64) × Nat × Nat × Nat) => match u with | (fs2_mm, a_mm_28, y_mm_29, k_uco, CL2, kc, kn) => kc) (fun (u : List Value × Nat × Int32 × (Nat → Int64) × Nat × Nat × Nat) => match u with | (fs2_mm, a_mm_28, y_mm_29, k_uco, CL2, kc, kn) => kn) 15 RX15 peW (fun _ => False) (fun _ => []) := by
  refine KT_of (by decide) (Nat.le_of_ble_eq_true rfl) (fun p e s m below meth c A Q C0 htab hA H locs hS hP hD hQ ls hl => ?_)
  obtain ⟨hx, hb, hr, hown, hin, hml, hlocks, hn, hK, hZ, hSK⟩ := C0
  have hl : lv_has ls 2 [(0, .ref mm), (1, .int v0)] := hl
  replace hq0 := FF.mk hq0
  replace hq1 := FF.mk hq1
  replace hq2 := FF.mk hq2
  replace hq3 := FF.mk hq3
  replace hq4 := FF.mk hq4
  replace hq5 := FF.mk hq5
  refine lv_aload_n hx hb dX16_keep_0 rfl (lv_at hl 0 rfl) ?_
  refine lv_bipush (v := 123) hx hb dX16_keep_1 (by decide) ?_
  refine lv_bipush (v := 10) hx hb dX16_keep_3 (by decide) ?_
  refine lv_iconst (v := 0) hx hb dX16_keep_5 (by decide) ?_
  refine lv_iload_n hx hb dX16_keep_6 rfl (lv_at hl 1 rfl) ?_
  refine go_i (k1 := 0) (n1 := 0) (wr := [(mm, .inr (16, fs_mm)), (uco, .inl (ct 2, CL, .inr (.inl g_uco)))]) [] [0, 1] (rn_S (As := [.int v0]) (rest := [.int 0, .int 10, .int 123, .ref mm]) (c_X16_slotOf l D ct v0  _) (cb_of (n := 1) hn mw_2280 mw_13 mw_2278 mhX16_slotOf ⟨(Nat.le_of_ble_eq_true rfl), (Nat.le_of_ble_eq_true rfl)⟩) hx hb hml hown hn hK hSK hZ hS mw_2279 rfl hl.1 (Nat.le_of_ble_eq_true rfl) dX16_keep_7 ⟨(Nat.zero_le MC), (Nat.zero_le MS)⟩) hP hD hS hA rfl rfl (by decide) (by decide) (by decide) (Nat.le_refl _) (Nat.le_refl _) (fun r7_1 u7_2 H locs hp7_3 hP hD hS => ?_)
  have hP : va_P D vwCl [(mm, .inr (16, fs_mm)), (uco, .inl (ct 2, CL, .inr (.inl g_uco)))] _ := hP
  have hD : va_D A [(mm, .inr (16, fs_mm)), (uco, .inl (ct 2, CL, .inr (.inl g_uco)))] := hD
  refine lv_lconst (v := 0) hx hb dX16_keep_10 (by decide) ?_
  obtain ⟨m11_1, gm11_1⟩ : ∃ m9 : Nat, m9 + 0 = MC := ⟨MC - 0, Nat.sub_add_cancel (Nat.zero_le MC)⟩
  have em11_1 := FF.mk gm11_1
  obtain ⟨m11_2, gm11_2⟩ : ∃ m9 : Nat, m9 + 0 = MS := ⟨MS - 0, Nat.sub_add_cancel (Nat.zero_le MS)⟩
  have em11_2 := FF.mk gm11_2
  refine gt_q (pl := []) (wr := []) [0, 1] [] (rt_V (As := [.int 123, .int 10, .int 0, .int r7_1, .long 0]) (rest := []) (c_X16_emit l hst D ct m11_1 m11_2 mm (123 : Int32) (10 : Int32) (0 : Int32) r7_1 (0 : Int64) fs_mm uco x_mm_29 g_uco CL hlen_mm hf_mm_28 h_x_mm_29 hf_mm_29 (show ((CL : Nat) : Int) ≤ 400000 by have q0 := FF.out hq0; omega) (show 1 ≤ ((m11_1 : Nat) : Int) by have q0 := FF.out hq2; have q1 := FF.out em11_1; omega) (show 2 * x_mm_29.toInt ≤ ((m11_2 : Nat) : Int) by have q0 := FF.out hq3; have q1 := FF.out em11_2; omega) (show x_mm_29.toInt ≤ ((CL : Nat) : Int) by have q0 := FF.out hq4; omega) (show 64 ≤ ((CL : Nat) : Int) by have q0 := FF.out hq5; omega) _) (cb_of (n := 5) hn mw_2250 mw_13 mw_2247 mhX16_emit ⟨(Nat.le_of_ble_eq_true rfl), (Nat.le_of_ble_eq_true rfl)⟩) hx hb hml hown hn hK hSK hZ hS mw_2249 mw_s211 (ci := 16) (q0 := 0) rfl rfl rfl rfl hl.1 (Nat.le_of_ble_eq_true rfl) dX16_keep_11 ⟨(Nat.le_of_eq ((Nat.add_comm _ _).trans gm11_1)), (Nat.le_of_eq ((Nat.add_comm _ _).trans gm11_2))⟩) (by rw [List.append_nil]; exact hP) (by rw [List.append_nil]; exact hD) hS hA rfl rfl (by decide) (by decide) (by decide) (fun xq11_6 ux11_7 xfs11_8 H locs hpx11_9 hpexfs11_8 hP hD hS => ?_) (fun r11_3 u11_4 H locs hp11_5 hP hD hS => ?_)
  · exact hpx11_9.elim
  obtain ⟨fs2_mm11_310, a_mm_2811_311, y_mm_2911_312, k_uco11_313, CL211_314, kc11_315, kn11_316⟩ := u11_4
  obtain ⟨hp11_317, hp11_318, hp11_319, hp11_320, hp11_321, hp11_322, hp11_323, hp11_324, hp11_325, hp11_326⟩ := hp11_5
  have hs11_327 : SB fs_mm fs2_mm11_310 [28, 29] := SB.trans (SB.rf _ _) hp11_317 (by decide)
  have hp11_319 : rg y_mm_2911_312 1 200001 := hp11_319
  replace hp11_321 : FF (y_mm_2911_312.toInt = x_mm_29.toInt + 1) := hp11_321
  replace hp11_322 : FF (y_mm_2911_312.toInt ≤ ((CL211_314 : Nat) : Int)) := hp11_322
  replace hp11_323 : FF (64 * ((kc11_315 : Nat) : Int) + ((CL : Nat) : Int) ≤ ((CL211_314 : Nat) : Int)) := hp11_323
  replace hp11_324 : FF (((kn11_316 : Nat) : Int) = 2 * (((CL211_314 : Nat) : Int) - ((CL : Nat) : Int))) := hp11_324
  replace hp11_325 : FF (((kc11_315 : Nat) : Int) ≤ 1) := hp11_325
  replace hp11_326 : FF (((CL211_314 : Nat) : Int) = ((CL : Nat) : Int) ∨ ((CL211_314 : Nat) : Int) = 2 * x_mm_29.toInt) := hp11_326
  obtain ⟨c11_328, ec11_328⟩ : ∃ x9 : Nat, x9 = 0 + kc11_315 := ⟨_, rfl⟩
  have ec11_328 := FF.mk ec11_328
  have mc11_328 : FF (c11_328 ≤ MC) := FF.mk (Int.ofNat_le.mp (show ((c11_328 : Nat) : Int) ≤ ((MC : Nat) : Int) by have q0 := FF.out hq2; have q1 := FF.out hp11_325; have q2 := FF.out ec11_328; omega))
  obtain ⟨k11_329, ek11_329⟩ : ∃ x9 : Nat, x9 = 0 + kn11_316 := ⟨_, rfl⟩
  have ek11_329 := FF.mk ek11_329
  have mk11_329 : FF (k11_329 ≤ MS) := FF.mk (Int.ofNat_le.mp (show ((k11_329 : Nat) : Int) ≤ ((MS : Nat) : Int) by have q0 := h_x_mm_29.1; have q1 := FF.out hq3; have q2 := FF.out hq5; have q3 := FF.out hp11_324; have q4 := FF.out hp11_326; have q5 := FF.out ek11_329; omega))
  rw [List.append_nil] at hP hD
  have hP : va_P D vwCl [(mm, .inr (16, fs2_mm11_310)), (a_mm_2811_311, .inl (ct 2, CL211_314, .inr (.inl k_uco11_313)))] _ := hP
  have hD : va_D A [(mm, .inr (16, fs2_mm11_310)), (a_mm_2811_311, .inl (ct 2, CL211_314, .inr (.inl k_uco11_313)))] := hD
  refine W.widen (k := c11_328) (n := k11_329) (Nat.le_of_eq (FF.out ec11_328).symm) (Nat.le_of_eq (FF.out ek11_329).symm) (W.eq (g2 := F0 m 14 ls []) rfl ?_)
  exact et_v (SX := Unit) (pl1 := fun _ => []) hQ hx hb hr hlocks dX16_keep_14 (fs2_mm11_310, a_mm_2811_311, y_mm_2911_312, k_uco11_313, CL211_314, c11_328, k11_329) ⟨hs11_327, hp11_318, hp11_319, hp11_320, (show x_mm_29.toInt ≤ y_mm_2911_312.toInt ∧ y_mm_2911_312.toInt ≤ x_mm_29.toInt + 1 by have q0 := FF.out hp11_321; omega), (show y_mm_2911_312.toInt ≤ ((CL211_314 : Nat) : Int) by have q0 := FF.out hp11_322; omega), (show ((CL : Nat) : Int) ≤ ((CL211_314 : Nat) : Int) by have q0 := FF.out hp11_324; omega), (show ((CL211_314 : Nat) : Int) = ((CL : Nat) : Int) ∨ ((CL211_314 : Nat) : Int) ≤ 2 * y_mm_2911_312.toInt by have q0 := FF.out hp11_321; have q1 := FF.out hp11_324; have q2 := FF.out hp11_326; omega), (show ((c11_328 : Nat) : Int) ≤ 1 by have q0 := FF.out hp11_325; have q1 := FF.out ec11_328; omega), (show 64 * ((c11_328 : Nat) : Int) + ((CL : Nat) : Int) ≤ ((CL211_314 : Nat) : Int) by have q0 := FF.out hp11_323; have q1 := FF.out ec11_328; omega), (show ((k11_329 : Nat) : Int) = 2 * (((CL211_314 : Nat) : Int) - ((CL : Nat) : Int)) by have q0 := FF.out hp11_324; have q1 := FF.out ek11_329; omega)⟩ (by rw [List.append_nil]; exact hP) (by rw [List.append_nil]; exact hD) hS [0, 1] (by decide) rfl (Nat.le_refl _) (Nat.le_refl _) (FF.out mc11_328) (FF.out mk11_329)
set_option maxHeartbeats 2000000 in
theorem c_X16_makeHeader (l : Launch) (hst : l.stackTraces = false) (D : va_G) (ct : Nat → ClassId) (MC : Nat) (MS : Nat) (mm : Nat) (fs_mm : List Value) (uco : Nat) (x_mm_29 : Int32) (g_uco : Nat → Int64) (CL : Nat) (hlen_mm : fs_mm.length = 78) (hf_mm_28 : fs_mm[28]? = some (.ref uco)) (h_x_mm_29 : rg x_mm_29 0 200000) (hf_mm_29 : fs_mm[29]? = some (.int x_mm_29)) (hq0 : ((CL : Nat) : Int) ≤ 400000) (hq1 : x_mm_29.toInt ≤ 199997) (hq2 : 3 ≤ ((MC : Nat) : Int)) (hq3 : 4 * (x_mm_29.toInt + 3) ≤ ((MS : Nat) : Int)) (hq4 : x_mm_29.toInt ≤ ((CL : Nat) : Int)) (hq5 : 64 ≤ ((CL : Nat) : Int)) : KT (V := Unit) (S := List Value × Nat × Int32 × (Nat → Int64) × Nat × Nat × Nat) (SX := Unit) l yX16_makeHeader cX16_makeHeader 1 none 2 48 D ct [.ref mm] [(mm, .inr (16, fs_mm)), (uco, .inl (ct 2, CL, .inr (.inl g_uco)))] MC MS (fun _ : Unit => none) (fun (_ : Unit) (u : List Value × Nat × Int32 × (Nat → Int64) × Nat × Nat × Nat) => match u with | (fs2_mm, a_mm_28, y_mm_29, k_uco, CL2, kc, kn) => SB fs_mm fs2_mm [28, 29] ∧ fs2_mm[28]? = some (.ref a_mm_28) ∧ rg y_mm_29 1 200001 ∧ fs2_mm[29]? = some (.int y_mm_29) ∧ (x_mm_29.toInt ≤ y_mm_29.toInt ∧ y_mm_29.toInt ≤ x_mm_29.toInt + 3) ∧ (y_mm_29.toInt ≤ ((CL2 : Nat) : Int)) ∧ (((CL : Nat) : Int) ≤ ((CL2 : Nat) : Int)) ∧ (((CL2 : Nat) : Int) = ((CL : Nat) : Int) ∨ ((CL2 : Nat) : Int) ≤ 2 * y_mm_29.toInt) ∧ (((kc : Nat) : Int) ≤ 3) ∧ (64 * ((kc : Nat) : Int) + ((CL : Nat) : Int) ≤ ((CL2 : Nat) : Int)) ∧ (((kn : Nat) : Int) = 2 * (((CL2 : Nat) : Int) - ((CL : Nat) : Int)))) (fun (u : List Value × Nat × Int32 × (Nat → Int64) × Nat × Nat × Nat) => match u with | (fs2_mm, a_mm_28, y_mm_29, k_uco, CL2, kc, kn) => [(mm, .inr (16, fs2_mm)), (a_mm_28, .inl (ct 2, CL2, .inr (.inl k_uco)))] ++ []) (fun (u : List Value × Nat × Int32 × (Nat → Int64) × Nat × Nat × Nat) => match u with | (fs2_mm, a_mm_28, y_mm_29, k_uco, CL2, kc, kn) => kc) (fun (u : List Value × Nat × Int32 × (Nat → Int64) × Nat × Nat × Nat) => match u with | (fs2_mm, a_mm_28, y_mm_29, k_uco, CL2, kc, kn) => kn) 15 RX15 peW (fun _ => False) (fun _ => []) := by
  refine KT_of (by decide) (Nat.le_of_ble_eq_true rfl) (fun p e s m below meth c A Q C0 htab hA H locs hS hP hD hQ ls hl => ?_)
  obtain ⟨hx, hb, hr, hown, hin, hml, hlocks, hn, hK, hZ, hSK⟩ := C0
  have hl : lv_has ls 1 [(0, .ref mm)] := hl
  replace hq0 := FF.mk hq0
  replace hq1 := FF.mk hq1
  replace hq2 := FF.mk hq2
  replace hq3 := FF.mk hq3
  replace hq4 := FF.mk hq4
  replace hq5 := FF.mk hq5
  refine lv_aload_n hx hb dX16_makeHeader_0 rfl (lv_at hl 0 rfl) ?_
  refine lv_bipush (v := 48) hx hb dX16_makeHeader_1 (by decide) ?_
  refine lv_iconst (v := 0) hx hb dX16_makeHeader_3 (by decide) ?_
  refine lv_iconst (v := 0) hx hb dX16_makeHeader_4 (by decide) ?_
  refine lv_iconst (v := 0) hx hb dX16_makeHeader_5 (by decide) ?_
  refine lv_ldc2 (v := 14) hx hb hown (hn.get mw_1826 rfl) dX16_makeHeader_6 ?_
  obtain ⟨m9_1, gm9_1⟩ : ∃ m9 : Nat, m9 + 0 = MC := ⟨MC - 0, Nat.sub_add_cancel (Nat.zero_le MC)⟩
  have em9_1 := FF.mk gm9_1
  obtain ⟨m9_2, gm9_2⟩ : ∃ m9 : Nat, m9 + 0 = MS := ⟨MS - 0, Nat.sub_add_cancel (Nat.zero_le MS)⟩
  have em9_2 := FF.mk gm9_2
  refine gt_q (pl := []) (wr := []) [0, 1] [] (rt_V (As := [.int 48, .int 0, .int 0, .int 0, .long 14]) (rest := []) (c_X16_emit l hst D ct m9_1 m9_2 mm (48 : Int32) (0 : Int32) (0 : Int32) (0 : Int32) (14 : Int64) fs_mm uco x_mm_29 g_uco CL hlen_mm hf_mm_28 h_x_mm_29 hf_mm_29 (show ((CL : Nat) : Int) ≤ 400000 by have q0 := FF.out hq0; omega) (show 1 ≤ ((m9_1 : Nat) : Int) by have q0 := FF.out hq2; have q1 := FF.out em9_1; omega) (show 2 * x_mm_29.toInt ≤ ((m9_2 : Nat) : Int) by have q0 := h_x_mm_29.1; have q1 := FF.out hq3; have q2 := FF.out em9_2; omega) (show x_mm_29.toInt ≤ ((CL : Nat) : Int) by have q0 := FF.out hq4; omega) (show 64 ≤ ((CL : Nat) : Int) by have q0 := FF.out hq5; omega) _) (cb_of (n := 5) hn mw_2250 mw_13 mw_2247 mhX16_emit ⟨(Nat.le_of_ble_eq_true rfl), (Nat.le_of_ble_eq_true rfl)⟩) hx hb hml hown hn hK hSK hZ hS mw_2249 mw_s211 (ci := 16) (q0 := 0) rfl rfl rfl rfl hl.1 (Nat.le_of_ble_eq_true rfl) dX16_makeHeader_9 ⟨(Nat.le_of_eq ((Nat.add_comm _ _).trans gm9_1)), (Nat.le_of_eq ((Nat.add_comm _ _).trans gm9_2))⟩) (by rw [List.append_nil]; exact hP) (by rw [List.append_nil]; exact hD) hS hA rfl rfl (by decide) (by decide) (by decide) (fun xq9_6 ux9_7 xfs9_8 H locs hpx9_9 hpexfs9_8 hP hD hS => ?_) (fun r9_3 u9_4 H locs hp9_5 hP hD hS => ?_)
  · exact hpx9_9.elim
  obtain ⟨fs2_mm9_310, a_mm_289_311, y_mm_299_312, k_uco9_313, CL29_314, kc9_315, kn9_316⟩ := u9_4
  obtain ⟨hp9_317, hp9_318, hp9_319, hp9_320, hp9_321, hp9_322, hp9_323, hp9_324, hp9_325, hp9_326⟩ := hp9_5
  have hs9_327 : SB fs_mm fs2_mm9_310 [28, 29] := SB.trans (SB.rf _ _) hp9_317 (by decide)
  have hp9_319 : rg y_mm_299_312 1 200001 := hp9_319
  replace hp9_321 : FF (y_mm_299_312.toInt = x_mm_29.toInt + 1) := hp9_321
  replace hp9_322 : FF (y_mm_299_312.toInt ≤ ((CL29_314 : Nat) : Int)) := hp9_322
  replace hp9_323 : FF (64 * ((kc9_315 : Nat) : Int) + ((CL : Nat) : Int) ≤ ((CL29_314 : Nat) : Int)) := hp9_323
  replace hp9_324 : FF (((kn9_316 : Nat) : Int) = 2 * (((CL29_314 : Nat) : Int) - ((CL : Nat) : Int))) := hp9_324
  replace hp9_325 : FF (((kc9_315 : Nat) : Int) ≤ 1) := hp9_325
  replace hp9_326 : FF (((CL29_314 : Nat) : Int) = ((CL : Nat) : Int) ∨ ((CL29_314 : Nat) : Int) = 2 * x_mm_29.toInt) := hp9_326
  obtain ⟨c9_328, ec9_328⟩ : ∃ x9 : Nat, x9 = 0 + kc9_315 := ⟨_, rfl⟩
  have ec9_328 := FF.mk ec9_328
  have mc9_328 : FF (c9_328 ≤ MC) := FF.mk (Int.ofNat_le.mp (show ((c9_328 : Nat) : Int) ≤ ((MC : Nat) : Int) by have q0 := FF.out hq2; have q1 := FF.out hp9_325; have q2 := FF.out ec9_328; omega))
  obtain ⟨k9_329, ek9_329⟩ : ∃ x9 : Nat, x9 = 0 + kn9_316 := ⟨_, rfl⟩
  have ek9_329 := FF.mk ek9_329
  have mk9_329 : FF (k9_329 ≤ MS) := FF.mk (Int.ofNat_le.mp (show ((k9_329 : Nat) : Int) ≤ ((MS : Nat) : Int) by have q0 := h_x_mm_29.1; have q1 := FF.out hq3; have q2 := FF.out hq5; have q3 := FF.out hp9_324; have q4 := FF.out hp9_326; have q5 := FF.out ek9_329; omega))
  rw [List.append_nil] at hP hD
  have hP : va_P D vwCl [(mm, .inr (16, fs2_mm9_310)), (a_mm_289_311, .inl (ct 2, CL29_314, .inr (.inl k_uco9_313)))] _ := hP
  have hD : va_D A [(mm, .inr (16, fs2_mm9_310)), (a_mm_289_311, .inl (ct 2, CL29_314, .inr (.inl k_uco9_313)))] := hD
  refine W.widen (k := c9_328) (n := k9_329) (Nat.le_of_eq (FF.out ec9_328).symm) (Nat.le_of_eq (FF.out ek9_329).symm) (W.eq (g2 := F0 m 12 ls []) rfl ?_)
  refine lv_aload_n hx hb dX16_makeHeader_12 rfl (lv_at hl 0 rfl) ?_
  refine lv_bipush (v := 84) hx hb dX16_makeHeader_13 (by decide) ?_
  refine lv_iconst (v := 0) hx hb dX16_makeHeader_15 (by decide) ?_
  refine lv_iconst (v := 0) hx hb dX16_makeHeader_16 (by decide) ?_
  refine lv_iconst (v := 0) hx hb dX16_makeHeader_17 (by decide) ?_
  refine lv_ldc2 (v := 15) hx hb hown (hn.get mw_1896 rfl) dX16_makeHeader_18 ?_
  obtain ⟨m21_1, gm21_1⟩ : ∃ m9 : Nat, m9 + c9_328 = MC := ⟨MC - c9_328, Nat.sub_add_cancel (FF.out mc9_328)⟩
  have em21_1 := FF.mk gm21_1
  obtain ⟨m21_2, gm21_2⟩ : ∃ m9 : Nat, m9 + k9_329 = MS := ⟨MS - k9_329, Nat.sub_add_cancel (FF.out mk9_329)⟩
  have em21_2 := FF.mk gm21_2
  refine gt_q (pl := []) (wr := []) [0, 1] [] (rt_V (As := [.int 84, .int 0, .int 0, .int 0, .long 15]) (rest := []) (c_X16_emit l hst D ct m21_1 m21_2 mm (84 : Int32) (0 : Int32) (0 : Int32) (0 : Int32) (15 : Int64) fs2_mm9_310 a_mm_289_311 y_mm_299_312 k_uco9_313 CL29_314 (hs9_327.1.trans hlen_mm) hp9_318 (rg_of (show 0 ≤ y_mm_299_312.toInt ∧ y_mm_299_312.toInt ≤ 200000 by have q0 := hp9_319.1; have q1 := FF.out hq1; have q2 := FF.out hp9_321; omega)) hp9_320 (show ((CL29_314 : Nat) : Int) ≤ 400000 by have q0 := FF.out hq0; have q1 := FF.out hq1; have q2 := FF.out hp9_326; omega) (show 1 ≤ ((m21_1 : Nat) : Int) by have q0 := FF.out hq2; have q1 := FF.out hp9_325; have q2 := FF.out ec9_328; have q3 := FF.out em21_1; omega) (show 2 * y_mm_299_312.toInt ≤ ((m21_2 : Nat) : Int) by have q0 := h_x_mm_29.1; have q1 := FF.out hq3; have q2 := FF.out hq4; have q3 := FF.out hp9_321; have q4 := FF.out hp9_324; have q5 := FF.out hp9_326; have q6 := FF.out ek9_329; have q7 := FF.out em21_2; omega) (show y_mm_299_312.toInt ≤ ((CL29_314 : Nat) : Int) by have q0 := FF.out hp9_322; omega) (show 64 ≤ ((CL29_314 : Nat) : Int) by have q0 := FF.out hq5; have q1 := FF.out hp9_324; omega) _) (cb_of (n := 5) hn mw_2250 mw_13 mw_2247 mhX16_emit ⟨(Nat.le_of_ble_eq_true rfl), (Nat.le_of_ble_eq_true rfl)⟩) hx hb hml hown hn hK hSK hZ hS mw_2249 mw_s211 (ci := 16) (q0 := 0) rfl rfl rfl rfl hl.1 (Nat.le_of_ble_eq_true rfl) dX16_makeHeader_21 ⟨(Nat.le_of_eq ((Nat.add_comm _ _).trans gm21_1)), (Nat.le_of_eq ((Nat.add_comm _ _).trans gm21_2))⟩) (by rw [List.append_nil]; exact hP) (by rw [List.append_nil]; exact hD) hS hA rfl rfl (by decide) (by decide) (by decide) (fun xq21_6 ux21_7 xfs21_8 H locs hpx21_9 hpexfs21_8 hP hD hS => ?_) (fun r21_3 u21_4 H locs hp21_5 hP hD hS => ?_)
  · exact hpx21_9.elim
  obtain ⟨fs2_mm21_310, a_mm_2821_311, y_mm_2921_312, k_uco21_313, CL221_314, kc21_315, kn21_316⟩ := u21_4
  obtain ⟨hp21_317, hp21_318, hp21_319, hp21_320, hp21_321, hp21_322, hp21_323, hp21_324, hp21_325, hp21_326⟩ := hp21_5
  have hs21_327 : SB fs_mm fs2_mm21_310 [28, 29] := SB.trans hs9_327 hp21_317 (by decide)
  have hp21_319 : rg y_mm_2921_312 1 200001 := hp21_319
  replace hp21_321 : FF (y_mm_2921_312.toInt = y_mm_299_312.toInt + 1) := hp21_321
  replace hp21_322 : FF (y_mm_2921_312.toInt ≤ ((CL221_314 : Nat) : Int)) := hp21_322
  replace hp21_323 : FF (64 * ((kc21_315 : Nat) : Int) + ((CL29_314 : Nat) : Int) ≤ ((CL221_314 : Nat) : Int)) := hp21_323
  replace hp21_324 : FF (((kn21_316 : Nat) : Int) = 2 * (((CL221_314 : Nat) : Int) - ((CL29_314 : Nat) : Int))) := hp21_324
  replace hp21_325 : FF (((kc21_315 : Nat) : Int) ≤ 1) := hp21_325
  replace hp21_326 : FF (((CL221_314 : Nat) : Int) = ((CL29_314 : Nat) : Int) ∨ ((CL221_314 : Nat) : Int) = 2 * y_mm_299_312.toInt) := hp21_326
  obtain ⟨c21_328, ec21_328⟩ : ∃ x9 : Nat, x9 = c9_328 + kc21_315 := ⟨_, rfl⟩
  have ec21_328 := FF.mk ec21_328
  have mc21_328 : FF (c21_328 ≤ MC) := FF.mk (Int.ofNat_le.mp (show ((c21_328 : Nat) : Int) ≤ ((MC : Nat) : Int) by have q0 := FF.out hq2; have q1 := FF.out hp9_325; have q2 := FF.out ec9_328; have q3 := FF.out hp21_325; have q4 := FF.out ec21_328; omega))
  obtain ⟨k21_329, ek21_329⟩ : ∃ x9 : Nat, x9 = k9_329 + kn21_316 := ⟨_, rfl⟩
  have ek21_329 := FF.mk ek21_329
  have mk21_329 : FF (k21_329 ≤ MS) := FF.mk (Int.ofNat_le.mp (show ((k21_329 : Nat) : Int) ≤ ((MS : Nat) : Int) by have q0 := h_x_mm_29.1; have q1 := FF.out hq3; have q2 := FF.out hq5; have q3 := FF.out hp9_321; have q4 := FF.out hp9_324; have q5 := FF.out hp9_326; have q6 := FF.out ek9_329; have q7 := FF.out hp21_324; have q8 := FF.out hp21_326; have q9 := FF.out ek21_329; omega))
  rw [List.append_nil] at hP hD
  have hP : va_P D vwCl [(mm, .inr (16, fs2_mm21_310)), (a_mm_2821_311, .inl (ct 2, CL221_314, .inr (.inl k_uco21_313)))] _ := hP
  have hD : va_D A [(mm, .inr (16, fs2_mm21_310)), (a_mm_2821_311, .inl (ct 2, CL221_314, .inr (.inl k_uco21_313)))] := hD
  refine W.widen (k := c21_328) (n := k21_329) (Nat.le_of_eq (FF.out ec21_328).symm) (Nat.le_of_eq (FF.out ek21_329).symm) (W.eq (g2 := F0 m 24 ls []) rfl ?_)
  refine lv_aload_n hx hb dX16_makeHeader_24 rfl (lv_at hl 0 rfl) ?_
  refine lv_bipush (v := 100) hx hb dX16_makeHeader_25 (by decide) ?_
  refine lv_iconst (v := 0) hx hb dX16_makeHeader_27 (by decide) ?_
  refine lv_iconst (v := 0) hx hb dX16_makeHeader_28 (by decide) ?_
  refine lv_iconst (v := 0) hx hb dX16_makeHeader_29 (by decide) ?_
  refine lv_ldc2 (v := 2) hx hb hown (hn.get mw_2096 rfl) dX16_makeHeader_30 ?_
  obtain ⟨m33_1, gm33_1⟩ : ∃ m9 : Nat, m9 + c21_328 = MC := ⟨MC - c21_328, Nat.sub_add_cancel (FF.out mc21_328)⟩
  have em33_1 := FF.mk gm33_1
  obtain ⟨m33_2, gm33_2⟩ : ∃ m9 : Nat, m9 + k21_329 = MS := ⟨MS - k21_329, Nat.sub_add_cancel (FF.out mk21_329)⟩
  have em33_2 := FF.mk gm33_2
  refine gt_q (pl := []) (wr := []) [0, 1] [] (rt_V (As := [.int 100, .int 0, .int 0, .int 0, .long 2]) (rest := []) (c_X16_emit l hst D ct m33_1 m33_2 mm (100 : Int32) (0 : Int32) (0 : Int32) (0 : Int32) (2 : Int64) fs2_mm21_310 a_mm_2821_311 y_mm_2921_312 k_uco21_313 CL221_314 (hs21_327.1.trans hlen_mm) hp21_318 (rg_of (show 0 ≤ y_mm_2921_312.toInt ∧ y_mm_2921_312.toInt ≤ 200000 by have q0 := hp21_319.1; have q1 := FF.out hq1; have q2 := FF.out hp9_321; have q3 := FF.out hp21_321; omega)) hp21_320 (show ((CL221_314 : Nat) : Int) ≤ 400000 by have q0 := FF.out hq0; have q1 := FF.out hq1; have q2 := FF.out hp9_321; have q3 := FF.out hp9_326; have q4 := FF.out hp21_326; omega) (show 1 ≤ ((m33_1 : Nat) : Int) by have q0 := FF.out hq2; have q1 := FF.out hp9_325; have q2 := FF.out ec9_328; have q3 := FF.out hp21_325; have q4 := FF.out ec21_328; have q5 := FF.out em33_1; omega) (show 2 * y_mm_2921_312.toInt ≤ ((m33_2 : Nat) : Int) by have q0 := h_x_mm_29.1; have q1 := FF.out hq3; have q2 := FF.out hq4; have q3 := FF.out hp9_321; have q4 := FF.out hp9_322; have q5 := FF.out hp9_324; have q6 := FF.out hp9_326; have q7 := FF.out ek9_329; have q8 := FF.out hp21_321; have q9 := FF.out hp21_324; have q10 := FF.out hp21_326; have q11 := FF.out ek21_329; have q12 := FF.out em33_2; omega) (show y_mm_2921_312.toInt ≤ ((CL221_314 : Nat) : Int) by have q0 := FF.out hp21_322; omega) (show 64 ≤ ((CL221_314 : Nat) : Int) by have q0 := FF.out hq5; have q1 := FF.out hp9_324; have q2 := FF.out hp21_324; omega) _) (cb_of (n := 5) hn mw_2250 mw_13 mw_2247 mhX16_emit ⟨(Nat.le_of_ble_eq_true rfl), (Nat.le_of_ble_eq_true rfl)⟩) hx hb hml hown hn hK hSK hZ hS mw_2249 mw_s211 (ci := 16) (q0 := 0) rfl rfl rfl rfl hl.1 (Nat.le_of_ble_eq_true rfl) dX16_makeHeader_33 ⟨(Nat.le_of_eq ((Nat.add_comm _ _).trans gm33_1)), (Nat.le_of_eq ((Nat.add_comm _ _).trans gm33_2))⟩) (by rw [List.append_nil]; exact hP) (by rw [List.append_nil]; exact hD) hS hA rfl rfl (by decide) (by decide) (by decide) (fun xq33_6 ux33_7 xfs33_8 H locs hpx33_9 hpexfs33_8 hP hD hS => ?_) (fun r33_3 u33_4 H locs hp33_5 hP hD hS => ?_)
  · exact hpx33_9.elim
  obtain ⟨fs2_mm33_310, a_mm_2833_311, y_mm_2933_312, k_uco33_313, CL233_314, kc33_315, kn33_316⟩ := u33_4
  obtain ⟨hp33_317, hp33_318, hp33_319, hp33_320, hp33_321, hp33_322, hp33_323, hp33_324, hp33_325, hp33_326⟩ := hp33_5
  have hs33_327 : SB fs_mm fs2_mm33_310 [28, 29] := SB.trans hs21_327 hp33_317 (by decide)
  have hp33_319 : rg y_mm_2933_312 1 200001 := hp33_319
  replace hp33_321 : FF (y_mm_2933_312.toInt = y_mm_2921_312.toInt + 1) := hp33_321
  replace hp33_322 : FF (y_mm_2933_312.toInt ≤ ((CL233_314 : Nat) : Int)) := hp33_322
  replace hp33_323 : FF (64 * ((kc33_315 : Nat) : Int) + ((CL221_314 : Nat) : Int) ≤ ((CL233_314 : Nat) : Int)) := hp33_323
  replace hp33_324 : FF (((kn33_316 : Nat) : Int) = 2 * (((CL233_314 : Nat) : Int) - ((CL221_314 : Nat) : Int))) := hp33_324
  replace hp33_325 : FF (((kc33_315 : Nat) : Int) ≤ 1) := hp33_325
  replace hp33_326 : FF (((CL233_314 : Nat) : Int) = ((CL221_314 : Nat) : Int) ∨ ((CL233_314 : Nat) : Int) = 2 * y_mm_2921_312.toInt) := hp33_326
  obtain ⟨c33_328, ec33_328⟩ : ∃ x9 : Nat, x9 = c21_328 + kc33_315 := ⟨_, rfl⟩
  have ec33_328 := FF.mk ec33_328
  have mc33_328 : FF (c33_328 ≤ MC) := FF.mk (Int.ofNat_le.mp (show ((c33_328 : Nat) : Int) ≤ ((MC : Nat) : Int) by have q0 := FF.out hq2; have q1 := FF.out hp9_325; have q2 := FF.out ec9_328; have q3 := FF.out hp21_325; have q4 := FF.out ec21_328; have q5 := FF.out hp33_325; have q6 := FF.out ec33_328; omega))
  obtain ⟨k33_329, ek33_329⟩ : ∃ x9 : Nat, x9 = k21_329 + kn33_316 := ⟨_, rfl⟩
  have ek33_329 := FF.mk ek33_329
  have mk33_329 : FF (k33_329 ≤ MS) := FF.mk (Int.ofNat_le.mp (show ((k33_329 : Nat) : Int) ≤ ((MS : Nat) : Int) by have q0 := h_x_mm_29.1; have q1 := FF.out hq3; have q2 := FF.out hq5; have q3 := FF.out hp9_321; have q4 := FF.out hp9_324; have q5 := FF.out hp9_326; have q6 := FF.out ek9_329; have q7 := FF.out hp21_321; have q8 := FF.out hp21_324; have q9 := FF.out hp21_326; have q10 := FF.out ek21_329; have q11 := FF.out hp33_324; have q12 := FF.out hp33_326; have q13 := FF.out ek33_329; omega))
  rw [List.append_nil] at hP hD
  have hP : va_P D vwCl [(mm, .inr (16, fs2_mm33_310)), (a_mm_2833_311, .inl (ct 2, CL233_314, .inr (.inl k_uco33_313)))] _ := hP
  have hD : va_D A [(mm, .inr (16, fs2_mm33_310)), (a_mm_2833_311, .inl (ct 2, CL233_314, .inr (.inl k_uco33_313)))] := hD
  refine W.widen (k := c33_328) (n := k33_329) (Nat.le_of_eq (FF.out ec33_328).symm) (Nat.le_of_eq (FF.out ek33_329).symm) (W.eq (g2 := F0 m 36 ls []) rfl ?_)
  exact et_v (SX := Unit) (pl1 := fun _ => []) hQ hx hb hr hlocks dX16_makeHeader_36 (fs2_mm33_310, a_mm_2833_311, y_mm_2933_312, k_uco33_313, CL233_314, c33_328, k33_329) ⟨hs33_327, hp33_318, hp33_319, hp33_320, (show x_mm_29.toInt ≤ y_mm_2933_312.toInt ∧ y_mm_2933_312.toInt ≤ x_mm_29.toInt + 3 by have q0 := FF.out hp9_321; have q1 := FF.out hp21_321; have q2 := FF.out hp33_321; omega), (show y_mm_2933_312.toInt ≤ ((CL233_314 : Nat) : Int) by have q0 := FF.out hp33_322; omega), (show ((CL : Nat) : Int) ≤ ((CL233_314 : Nat) : Int) by have q0 := FF.out hp9_324; have q1 := FF.out hp21_324; have q2 := FF.out hp33_324; omega), (show ((CL233_314 : Nat) : Int) = ((CL : Nat) : Int) ∨ ((CL233_314 : Nat) : Int) ≤ 2 * y_mm_2933_312.toInt by have q0 := FF.out hp9_321; have q1 := FF.out hp9_324; have q2 := FF.out hp9_326; have q3 := FF.out hp21_321; have q4 := FF.out hp21_324; have q5 := FF.out hp21_326; have q6 := FF.out hp33_321; have q7 := FF.out hp33_324; have q8 := FF.out hp33_326; omega), (show ((c33_328 : Nat) : Int) ≤ 3 by have q0 := FF.out hp9_325; have q1 := FF.out ec9_328; have q2 := FF.out hp21_325; have q3 := FF.out ec21_328; have q4 := FF.out hp33_325; have q5 := FF.out ec33_328; omega), (show 64 * ((c33_328 : Nat) : Int) + ((CL : Nat) : Int) ≤ ((CL233_314 : Nat) : Int) by have q0 := FF.out hp9_323; have q1 := FF.out ec9_328; have q2 := FF.out hp21_323; have q3 := FF.out ec21_328; have q4 := FF.out hp33_323; have q5 := FF.out ec33_328; omega), (show ((k33_329 : Nat) : Int) = 2 * (((CL233_314 : Nat) : Int) - ((CL : Nat) : Int)) by have q0 := FF.out hp9_324; have q1 := FF.out ek9_329; have q2 := FF.out hp21_324; have q3 := FF.out ek21_329; have q4 := FF.out hp33_324; have q5 := FF.out ek33_329; omega)⟩ (by rw [List.append_nil]; exact hP) (by rw [List.append_nil]; exact hD) hS [0, 1] (by decide) rfl (Nat.le_refl _) (Nat.le_refl _) (FF.out mc33_328) (FF.out mk33_329)
