set_option maxHeartbeats 2000000 in
theorem c_X16_feedOne (l : Launch) (D : va_G) (ct : Nat → ClassId) (mm : Nat) (v0 : Int32) (fs_mm : List Value) (utape : Nat) (x_mm_1 : Int32) (g_utape : Nat → Int32) (hlen_mm : fs_mm.length = 78) (hf_mm_0 : fs_mm[0]? = some (.ref utape)) (h_x_mm_1 : rg x_mm_1 0 1996) (hf_mm_1 : fs_mm[1]? = some (.int x_mm_1)) (h_g_utape : Rg g_utape 2000 0 255) : KV (S := List Value × Int32 × (Nat → Int32)) l yX16_feedOne cX16_feedOne 3 none 1 20 D ct [.ref mm, .int v0] [(mm, .inr (16, fs_mm)), (utape, .inl (ct 1, 2000, .inl g_utape))] 0 0 (fun (u : List Value × Int32 × (Nat → Int32)) => match u with | (fs2_mm, y_mm_1, k_utape) => SB fs_mm fs2_mm [1] ∧ rg y_mm_1 0 2000 ∧ fs2_mm[1]? = some (.int y_mm_1) ∧ Rg k_utape 2000 0 255 ∧ (y_mm_1.toInt = x_mm_1.toInt + 4)) (fun (u : List Value × Int32 × (Nat → Int32)) => match u with | (fs2_mm, y_mm_1, k_utape) => [(mm, .inr (16, fs2_mm)), (utape, .inl (ct 1, 2000, .inl k_utape))]) := by
  refine KVq_of (by decide) (Nat.le_of_ble_eq_true rfl) (fun p e s m below meth c A Q C0 hA H locs hS hP hD hQ ls hl => ?_)
  obtain ⟨hx, hb, hr, hown, hin, hml, hlocks, hn, hK, hZ, hSK⟩ := C0
  have hl : lv_has ls 3 [(0, .ref mm), (1, .int v0)] := hl
  refine lv_bipush (v := 24) hx hb dX16_feedOne_0 (by decide) ?_
  refine lv_istore_n (lv' := [(2, .int 24), (0, .ref mm), (1, .int v0)]) hx hb dX16_feedOne_2 rfl hl (by decide) rfl (fun ls hl => ?_)
  have b3 : ∀ (n : Nat) (j3_l2 : Int32) (j3_amm : List Value) (j3_fmm_1 : Int32) (j3_cutape : Nat → Int32) (H : Heap) (locs : List Loc) (ls : Array Slot), (rg j3_l2 (-8) 24) → (SB fs_mm j3_amm [1]) → (rg j3_fmm_1 0 2000) → (j3_amm[1]? = some (.int j3_fmm_1)) → (Rg j3_cutape 2000 0 255) → (FF (8 * j3_fmm_1.toInt + j3_l2.toInt = 8 * x_mm_1.toInt + 24)) → (j3_l2.toInt + 8).toNat < n → lv_has ls 3 [(0, .ref mm), (1, .int v0), (2, .int j3_l2)] → va_P D vwCl [(mm, .inr (16, j3_amm)), (utape, .inl (ct 1, 2000, .inl j3_cutape))] H → va_D A [(mm, .inr (16, j3_amm)), (utape, .inl (ct 1, 2000, .inl j3_cutape))] → va_S A s.heap H locs → W p l e ({ frames := 1, cells := 0, slots := 0, locals := 20 }) s m [.ref mm, .int v0].toArray below meth c H locs 0 0 Q (F0 m 3 ls []) := by
    intro n
    induction n with
    | zero => intros; rename_i hms _ _ _ _; exact absurd hms (Nat.not_lt_zero _)
    | succ n ih =>
      intro j3_l2 j3_amm j3_fmm_1 j3_cutape H locs ls r3_1001 hs3_1002 r3_1003 hf3_1004 hc3_1005 hi3_1006 hms hl hP hD hS
      refine lv_iload_n hx hb dX16_feedOne_3 rfl (lv_at hl 2 rfl) ?_
      refine lv_if_lt (tgt := 39) hx hb dX16_feedOne_4 (by decide) (fun c4_1 => ?_) (fun c4_1 => ?_)
      · have t4_2 := FF.mk (i_lt c4_1)
        have r4_3 : rg j3_l2 (-8) (-1) := rg_ltA t4_2 r3_1001 (show rg (0 : Int32) 0 0 from rg_l (by decide)) (by decide)
        exact endq_v hQ hx hb hr hlocks dX16_feedOne_39 (j3_amm, j3_fmm_1, j3_cutape) ⟨hs3_1002, r3_1003, hf3_1004, hc3_1005, (show j3_fmm_1.toInt = x_mm_1.toInt + 4 by have q0 := r4_3.1; have q1 := r4_3.2; have q2 := FF.out hi3_1006; omega)⟩ hP hD hS [0, 1] rfl (by decide) rfl (Nat.le_of_ble_eq_true rfl) (Nat.le_of_ble_eq_true rfl)
      · have t4_2 := FF.mk (i_nlt c4_1)
        have r4_3 : rg j3_l2 0 24 := rg_leB t4_2 (show rg (0 : Int32) 0 0 from rg_l (by decide)) r3_1001 (by decide)
        refine lv_aload_n hx hb dX16_feedOne_7 rfl (lv_at hl 0 rfl) ?_
        refine va_get (D := D) (ci := 16) (v := .ref utape) (C := RX16) (T := TX16) (N := 78) hx hb (htX16 hn) (fun _ h => h) hown hK hP 0 rfl rfl 0 (by decide) (hn.get mw_1539 rfl) (fun _ h9 => h9) (SB.get hs3_1002 (by decide) hf_mm_0) dX16_feedOne_8 ?_
        refine lv_aload_n hx hb dX16_feedOne_11 rfl (lv_at hl 0 rfl) ?_
        refine va_get (D := D) (ci := 16) (v := .int j3_fmm_1) (C := RX16) (T := TX16) (N := 78) hx hb (htX16 hn) (fun _ h => h) hown hK hP 0 rfl rfl 1 (by decide) (hn.get mw_1540 rfl) (fun _ h9 => h9) hf3_1004 dX16_feedOne_12 ?_
        refine lv_iload_n hx hb dX16_feedOne_15 rfl (lv_at hl 1 rfl) ?_
        refine lv_iload_n hx hb dX16_feedOne_16 rfl (lv_at hl 2 rfl) ?_
        refine lv_ishr hx hb dX16_feedOne_17 ?_
        refine lv_topi (fun z17_1 ez17_1 => ?_)
        refine lv_sipush (v := 255) hx hb dX16_feedOne_18 (by decide) ?_
        refine lv_iand hx hb dX16_feedOne_21 ?_
        refine lv_topi (fun z21_1 ez21_1 => ?_)
        have r21_2 : rg z21_1 0 255 := rg_andr ez21_1 (show rg (255 : Int32) 255 255 from rg_l (by decide)) (by decide)
        have hi22_1 : vp_in j3_fmm_1 2000 := (in_of (show 0 ≤ j3_fmm_1.toInt ∧ j3_fmm_1.toInt < 2000 by have q0 := r3_1003.1; have q1 := h_x_mm_1.2; have q2 := r4_3.1; have q3 := FF.out hi3_1006; omega))
        refine va_iast hx hb hK hP hD hS 1 1 rfl rfl hi22_1 dX16_feedOne_22 (fun H locs hP hD hS => ?_)
        have hP : va_P D vwCl [(mm, .inr (16, j3_amm)), (utape, .inl (ct 1, 2000, .inl (upd j3_cutape j3_fmm_1.toNatClampNeg z21_1)))] _ := hP
        have hD : va_D A [(mm, .inr (16, j3_amm)), (utape, .inl (ct 1, 2000, .inl (upd j3_cutape j3_fmm_1.toNatClampNeg z21_1)))] := hD
        obtain ⟨f22_2, ef22_2⟩ : ∃ z, z = (upd j3_cutape j3_fmm_1.toNatClampNeg z21_1) := ⟨_, rfl⟩
        rw [← ef22_2] at hP hD
        have hc22_3 : Rg f22_2 2000 0 255 := Rg_upd ef22_2 hc3_1005 r21_2
        refine lv_aload_n hx hb dX16_feedOne_23 rfl (lv_at hl 0 rfl) ?_
        refine lv_dup hx hb dX16_feedOne_24 rfl ?_
        refine va_get (D := D) (ci := 16) (v := .int j3_fmm_1) (C := RX16) (T := TX16) (N := 78) hx hb (htX16 hn) (fun _ h => h) hown hK hP 0 rfl rfl 1 (by decide) (hn.get mw_1540 rfl) (fun _ h9 => h9) hf3_1004 dX16_feedOne_25 ?_
        refine lv_iconst (v := 1) hx hb dX16_feedOne_28 (by decide) ?_
        refine lv_iadd hx hb dX16_feedOne_29 ?_
        refine lv_topi (fun z29_1 ez29_1 => ?_)
        have r29_2 : rg z29_1 1 2001 := rg_add ez29_1 r3_1003 (show rg (1 : Int32) 1 1 from rg_l (by decide)) (by decide)
        refine va_put (D := D) (ci := 16) (v := .int z29_1) (ty := .int) (C := RX16) (T := TX16) (N := 78) hx hb (htX16 hn) (fun _ h => h) tyX16 tyX16_ok nmX16 hown hK hP hD hS 0 rfl rfl 1 (by decide) (hn.get mw_1540 rfl) (fun _ h9 => h9) rfl (by decide +kernel) rfl rfl (by rw [hs3_1002.1, hlen_mm]; decide) dX16_feedOne_30 (fun H locs hP hD hS => ?_)
        have hP : va_P D vwCl [(mm, .inr (16, (j3_amm.set 1 (.int z29_1)))), (utape, .inl (ct 1, 2000, .inl f22_2))] _ := hP
        have hD : va_D A [(mm, .inr (16, (j3_amm.set 1 (.int z29_1)))), (utape, .inl (ct 1, 2000, .inl f22_2))] := hD
        obtain ⟨m30_1, em30_1⟩ : ∃ z, z = (j3_amm.set 1 (.int z29_1)) := ⟨_, rfl⟩
        rw [← em30_1] at hP hD
        have hsm30_1 : SB fs_mm m30_1 [1] := by rw [em30_1]; exact SB.set hs3_1002 (by decide)
        have hfm30_1_1 : m30_1[1]? = some (.int z29_1) := by rw [em30_1]; exact fs_eq (by rw [hs3_1002.1, hlen_mm]; decide)
        have hP : va_P D vwCl [(mm, .inr (16, m30_1)), (utape, .inl (ct 1, 2000, .inl f22_2))] _ := hP
        have hD : va_D A [(mm, .inr (16, m30_1)), (utape, .inl (ct 1, 2000, .inl f22_2))] := hD
        obtain ⟨x33_1, ex33_1⟩ : ∃ z : Int32, z = j3_l2 + (-8) := ⟨_, rfl⟩
        have r33_2 : rg x33_1 (-8) 16 := rg_add ex33_1 r4_3 (show rg ((-8) : Int32) (-8) (-8) from rg_l (by decide)) (by decide)
        refine lv_iinc (v := x33_1) (lv' := [(2, .int x33_1), (0, .ref mm), (1, .int v0)]) hx hb dX16_feedOne_33 hl (k := 2) rfl (by rw [ex33_1]; rfl) (by decide) rfl (fun ls hl => ?_)
        refine lv_goto (tgt := 3) hx hb dX16_feedOne_36 (by decide) ?_
        exact ih x33_1 m30_1 z29_1 f22_2 H locs ls (rg_w r33_2 (by decide)) hsm30_1 (rg_of (show 0 ≤ z29_1.toInt ∧ z29_1.toInt ≤ 2000 by have q0 := r29_2.1; have q1 := (eq_add ez29_1 r3_1003 (show rg (1 : Int32) 1 1 from rg_l (by decide)) (by decide)); have q2 := h_x_mm_1.2; have q3 := r4_3.1; have q4 := FF.out hi3_1006; have q5 := (show (1 : Int32).toInt = 1 from by decide); omega)) hfm30_1_1 hc22_3 (show 8 * z29_1.toInt + x33_1.toInt = 8 * x_mm_1.toInt + 24 by have q0 := (eq_add ex33_1 r4_3 (show rg ((-8) : Int32) (-8) (-8) from rg_l (by decide)) (by decide)); have q1 := (eq_add ez29_1 r3_1003 (show rg (1 : Int32) 1 1 from rg_l (by decide)) (by decide)); have q2 := FF.out hi3_1006; have q3 := (show (-8 : Int32).toInt = -8 from by decide); have q4 := (show (1 : Int32).toInt = 1 from by decide); omega) (show (x33_1.toInt + 8).toNat < n by have q0 := r4_3.1; have q1 := (eq_add ex33_1 r4_3 (show rg ((-8) : Int32) (-8) (-8) from rg_l (by decide)) (by decide)); have q2 := (show (-8 : Int32).toInt = -8 from by decide); have q3 := hms; omega) (lv_sub hl [1, 2, 0] rfl) hP hD hS
  exact b3 _ (24 : Int32) fs_mm x_mm_1 g_utape H locs ls (rg_w (show rg (24 : Int32) 24 24 from rg_l (by decide)) (by decide)) (SB.rf _ _) (rg_w h_x_mm_1 (by decide)) hf_mm_1 h_g_utape (show 8 * x_mm_1.toInt + (24 : Int32).toInt = 8 * x_mm_1.toInt + 24 by have q0 := (show (24 : Int32).toInt = 24 from by decide); omega) (Nat.lt_succ_self _) (lv_sub hl [1, 2, 0] rfl) hP hD hS
set_option maxHeartbeats 2000000 in
theorem c_X16_feed (l : Launch) (D : va_G) (ct : Nat → ClassId) (mm : Nat) (v0 : Int32) (v1 : Int32) (v2 : Int32) (v3 : Int32) (v4 : Int32) (fs_mm : List Value) (utape : Nat) (x_mm_1 : Int32) (g_utape : Nat → Int32) (hlen_mm : fs_mm.length = 78) (hf_mm_0 : fs_mm[0]? = some (.ref utape)) (h_x_mm_1 : rg x_mm_1 0 2000) (hf_mm_1 : fs_mm[1]? = some (.int x_mm_1)) (h_g_utape : Rg g_utape 2000 0 255) : KI (S := List Value × Int32 × (Nat → Int32)) l yX16_feed cX16_feed 6 (some .int) 2 42 D ct [.ref mm, .int v0, .int v1, .int v2, .int v3, .int v4] [(mm, .inr (16, fs_mm)), (utape, .inl (ct 1, 2000, .inl g_utape))] 0 0 (fun (r : Int32) (u : List Value × Int32 × (Nat → Int32)) => match u with | (fs2_mm, y_mm_1, k_utape) => rg r (-1) 2000 ∧ SB fs_mm fs2_mm [1] ∧ rg y_mm_1 0 2000 ∧ fs2_mm[1]? = some (.int y_mm_1) ∧ Rg k_utape 2000 0 255 ∧ (x_mm_1.toInt ≤ 1980 → r.toInt = x_mm_1.toInt + 20 ∧ y_mm_1.toInt = x_mm_1.toInt + 20) ∧ (1980 < x_mm_1.toInt → r.toInt = -1 ∧ y_mm_1.toInt = x_mm_1.toInt)) (fun (u : List Value × Int32 × (Nat → Int32)) => match u with | (fs2_mm, y_mm_1, k_utape) => [(mm, .inr (16, fs2_mm)), (utape, .inl (ct 1, 2000, .inl k_utape))]) := by
  refine KIq_of (by decide) (Nat.le_of_ble_eq_true rfl) (fun p e s m below meth c A Q C0 hA H locs hS hP hD hQ ls hl => ?_)
  obtain ⟨hx, hb, hr, hown, hin, hml, hlocks, hn, hK, hZ, hSK⟩ := C0
  have hl : lv_has ls 6 [(0, .ref mm), (1, .int v0), (2, .int v1), (3, .int v2), (4, .int v3), (5, .int v4)] := hl
  refine lv_aload_n hx hb dX16_feed_0 rfl (lv_at hl 0 rfl) ?_
  refine va_get (D := D) (ci := 16) (v := .int x_mm_1) (C := RX16) (T := TX16) (N := 78) hx hb (htX16 hn) (fun _ h => h) hown hK hP 0 rfl rfl 1 (by decide) (hn.get mw_1540 rfl) (fun _ h9 => h9) hf_mm_1 dX16_feed_1 ?_
  refine lv_bipush (v := 20) hx hb dX16_feed_4 (by decide) ?_
  refine lv_iadd hx hb dX16_feed_6 ?_
  refine lv_topi (fun z6_1 ez6_1 => ?_)
  have r6_2 : rg z6_1 20 2020 := rg_add ez6_1 h_x_mm_1 (show rg (20 : Int32) 20 20 from rg_l (by decide)) (by decide)
  refine lv_sipush (v := 2000) hx hb dX16_feed_7 (by decide) ?_
  refine lv_icmp_le (tgt := 15) hx hb dX16_feed_10 (by decide) (fun c10_1 => ?_) (fun c10_1 => ?_)
  · have t10_2 := FF.mk (i_le c10_1)
    have r10_3 : rg z6_1 20 2000 := rg_leA t10_2 r6_2 (show rg (2000 : Int32) 2000 2000 from rg_l (by decide)) (by decide)
    refine lv_aload_n hx hb dX16_feed_15 rfl (lv_at hl 0 rfl) ?_
    refine lv_iload_n hx hb dX16_feed_16 rfl (lv_at hl 1 rfl) ?_
    refine go_v (k1 := 0) (n1 := 0) (wr := []) [0, 1] [] (rn_V (As := [.int v0]) (rest := []) (c_X16_feedOne l D ct mm v0 fs_mm utape x_mm_1 g_utape hlen_mm hf_mm_0 (rg_of (show 0 ≤ x_mm_1.toInt ∧ x_mm_1.toInt ≤ 1996 by have q0 := h_x_mm_1.1; have q1 := r10_3.2; have q2 := (eq_add ez6_1 h_x_mm_1 (show rg (20 : Int32) 20 20 from rg_l (by decide)) (by decide)); have q3 := (show (20 : Int32).toInt = 20 from by decide); omega)) hf_mm_1 h_g_utape _) (cb_of (n := 1) hn mw_1781 mw_13 mw_1778 mhX16_feedOne ⟨(Nat.le_of_ble_eq_true rfl), (Nat.le_of_ble_eq_true rfl)⟩) hx hb hml hown hn hK hSK hZ hS mw_1780 mw_s169 (ci := 16) (q0 := 0) rfl rfl rfl rfl hl.1 (Nat.le_of_ble_eq_true rfl) dX16_feed_17 ⟨(Nat.le_of_ble_eq_true rfl), (Nat.le_of_ble_eq_true rfl)⟩) hP hD hS hA rfl rfl (by decide) (by decide) (by decide) (Nat.le_of_ble_eq_true rfl) (Nat.le_of_ble_eq_true rfl) (fun u17_2 H locs hp17_3 hP hD hS => ?_)
    obtain ⟨fs2_mm17_4, y_mm_117_5, k_utape17_6⟩ := u17_2
    obtain ⟨hp17_7, hp17_8, hp17_9, hp17_10, hp17_11⟩ := hp17_3
    have hs17_12 : SB fs_mm fs2_mm17_4 [1] := SB.trans (SB.rf _ _) hp17_7 (by decide)
    have hp17_8 : rg y_mm_117_5 0 2000 := hp17_8
    replace hp17_11 : FF (y_mm_117_5.toInt = x_mm_1.toInt + 4) := hp17_11
    have hP : va_P D vwCl [(mm, .inr (16, fs2_mm17_4)), (utape, .inl (ct 1, 2000, .inl k_utape17_6))] _ := hP
    have hD : va_D A [(mm, .inr (16, fs2_mm17_4)), (utape, .inl (ct 1, 2000, .inl k_utape17_6))] := hD
    refine lv_aload_n hx hb dX16_feed_20 rfl (lv_at hl 0 rfl) ?_
    refine lv_iload_n hx hb dX16_feed_21 rfl (lv_at hl 2 rfl) ?_
    refine go_v (k1 := 0) (n1 := 0) (wr := []) [0, 1] [] (rn_V (As := [.int v1]) (rest := []) (c_X16_feedOne l D ct mm v1 fs2_mm17_4 utape y_mm_117_5 k_utape17_6 (hs17_12.1.trans hlen_mm) (SB.get hs17_12 (by decide) hf_mm_0) (rg_of (show 0 ≤ y_mm_117_5.toInt ∧ y_mm_117_5.toInt ≤ 1996 by have q0 := h_x_mm_1.1; have q1 := r10_3.2; have q2 := (eq_add ez6_1 h_x_mm_1 (show rg (20 : Int32) 20 20 from rg_l (by decide)) (by decide)); have q3 := FF.out hp17_11; have q4 := (show (20 : Int32).toInt = 20 from by decide); omega)) hp17_9 hp17_10 _) (cb_of (n := 1) hn mw_1781 mw_13 mw_1778 mhX16_feedOne ⟨(Nat.le_of_ble_eq_true rfl), (Nat.le_of_ble_eq_true rfl)⟩) hx hb hml hown hn hK hSK hZ hS mw_1780 mw_s169 (ci := 16) (q0 := 0) rfl rfl rfl rfl hl.1 (Nat.le_of_ble_eq_true rfl) dX16_feed_22 ⟨(Nat.le_of_ble_eq_true rfl), (Nat.le_of_ble_eq_true rfl)⟩) hP hD hS hA rfl rfl (by decide) (by decide) (by decide) (Nat.le_of_ble_eq_true rfl) (Nat.le_of_ble_eq_true rfl) (fun u22_2 H locs hp22_3 hP hD hS => ?_)
    obtain ⟨fs2_mm22_4, y_mm_122_5, k_utape22_6⟩ := u22_2
    obtain ⟨hp22_7, hp22_8, hp22_9, hp22_10, hp22_11⟩ := hp22_3
    have hs22_12 : SB fs_mm fs2_mm22_4 [1] := SB.trans hs17_12 hp22_7 (by decide)
    have hp22_8 : rg y_mm_122_5 0 2000 := hp22_8
    replace hp22_11 : FF (y_mm_122_5.toInt = y_mm_117_5.toInt + 4) := hp22_11
    have hP : va_P D vwCl [(mm, .inr (16, fs2_mm22_4)), (utape, .inl (ct 1, 2000, .inl k_utape22_6))] _ := hP
    have hD : va_D A [(mm, .inr (16, fs2_mm22_4)), (utape, .inl (ct 1, 2000, .inl k_utape22_6))] := hD
    refine lv_aload_n hx hb dX16_feed_25 rfl (lv_at hl 0 rfl) ?_
    refine lv_iload_n hx hb dX16_feed_26 rfl (lv_at hl 3 rfl) ?_
    refine go_v (k1 := 0) (n1 := 0) (wr := []) [0, 1] [] (rn_V (As := [.int v2]) (rest := []) (c_X16_feedOne l D ct mm v2 fs2_mm22_4 utape y_mm_122_5 k_utape22_6 (hs22_12.1.trans hlen_mm) (SB.get hs22_12 (by decide) hf_mm_0) (rg_of (show 0 ≤ y_mm_122_5.toInt ∧ y_mm_122_5.toInt ≤ 1996 by have q0 := h_x_mm_1.1; have q1 := r10_3.2; have q2 := (eq_add ez6_1 h_x_mm_1 (show rg (20 : Int32) 20 20 from rg_l (by decide)) (by decide)); have q3 := FF.out hp17_11; have q4 := FF.out hp22_11; have q5 := (show (20 : Int32).toInt = 20 from by decide); omega)) hp22_9 hp22_10 _) (cb_of (n := 1) hn mw_1781 mw_13 mw_1778 mhX16_feedOne ⟨(Nat.le_of_ble_eq_true rfl), (Nat.le_of_ble_eq_true rfl)⟩) hx hb hml hown hn hK hSK hZ hS mw_1780 mw_s169 (ci := 16) (q0 := 0) rfl rfl rfl rfl hl.1 (Nat.le_of_ble_eq_true rfl) dX16_feed_27 ⟨(Nat.le_of_ble_eq_true rfl), (Nat.le_of_ble_eq_true rfl)⟩) hP hD hS hA rfl rfl (by decide) (by decide) (by decide) (Nat.le_of_ble_eq_true rfl) (Nat.le_of_ble_eq_true rfl) (fun u27_2 H locs hp27_3 hP hD hS => ?_)
    obtain ⟨fs2_mm27_4, y_mm_127_5, k_utape27_6⟩ := u27_2
    obtain ⟨hp27_7, hp27_8, hp27_9, hp27_10, hp27_11⟩ := hp27_3
    have hs27_12 : SB fs_mm fs2_mm27_4 [1] := SB.trans hs22_12 hp27_7 (by decide)
    have hp27_8 : rg y_mm_127_5 0 2000 := hp27_8
    replace hp27_11 : FF (y_mm_127_5.toInt = y_mm_122_5.toInt + 4) := hp27_11
    have hP : va_P D vwCl [(mm, .inr (16, fs2_mm27_4)), (utape, .inl (ct 1, 2000, .inl k_utape27_6))] _ := hP
    have hD : va_D A [(mm, .inr (16, fs2_mm27_4)), (utape, .inl (ct 1, 2000, .inl k_utape27_6))] := hD
    refine lv_aload_n hx hb dX16_feed_30 rfl (lv_at hl 0 rfl) ?_
    refine lv_iload hx hb dX16_feed_31 (lv_at hl 4 rfl) ?_
    refine go_v (k1 := 0) (n1 := 0) (wr := []) [0, 1] [] (rn_V (As := [.int v3]) (rest := []) (c_X16_feedOne l D ct mm v3 fs2_mm27_4 utape y_mm_127_5 k_utape27_6 (hs27_12.1.trans hlen_mm) (SB.get hs27_12 (by decide) hf_mm_0) (rg_of (show 0 ≤ y_mm_127_5.toInt ∧ y_mm_127_5.toInt ≤ 1996 by have q0 := h_x_mm_1.1; have q1 := r10_3.2; have q2 := (eq_add ez6_1 h_x_mm_1 (show rg (20 : Int32) 20 20 from rg_l (by decide)) (by decide)); have q3 := FF.out hp17_11; have q4 := FF.out hp22_11; have q5 := FF.out hp27_11; have q6 := (show (20 : Int32).toInt = 20 from by decide); omega)) hp27_9 hp27_10 _) (cb_of (n := 1) hn mw_1781 mw_13 mw_1778 mhX16_feedOne ⟨(Nat.le_of_ble_eq_true rfl), (Nat.le_of_ble_eq_true rfl)⟩) hx hb hml hown hn hK hSK hZ hS mw_1780 mw_s169 (ci := 16) (q0 := 0) rfl rfl rfl rfl hl.1 (Nat.le_of_ble_eq_true rfl) dX16_feed_33 ⟨(Nat.le_of_ble_eq_true rfl), (Nat.le_of_ble_eq_true rfl)⟩) hP hD hS hA rfl rfl (by decide) (by decide) (by decide) (Nat.le_of_ble_eq_true rfl) (Nat.le_of_ble_eq_true rfl) (fun u33_2 H locs hp33_3 hP hD hS => ?_)
    obtain ⟨fs2_mm33_4, y_mm_133_5, k_utape33_6⟩ := u33_2
    obtain ⟨hp33_7, hp33_8, hp33_9, hp33_10, hp33_11⟩ := hp33_3
    have hs33_12 : SB fs_mm fs2_mm33_4 [1] := SB.trans hs27_12 hp33_7 (by decide)
    have hp33_8 : rg y_mm_133_5 0 2000 := hp33_8
    replace hp33_11 : FF (y_mm_133_5.toInt = y_mm_127_5.toInt + 4) := hp33_11
    have hP : va_P D vwCl [(mm, .inr (16, fs2_mm33_4)), (utape, .inl (ct 1, 2000, .inl k_utape33_6))] _ := hP
    have hD : va_D A [(mm, .inr (16, fs2_mm33_4)), (utape, .inl (ct 1, 2000, .inl k_utape33_6))] := hD
    refine lv_aload_n hx hb dX16_feed_36 rfl (lv_at hl 0 rfl) ?_
    refine lv_iload hx hb dX16_feed_37 (lv_at hl 5 rfl) ?_
    refine go_v (k1 := 0) (n1 := 0) (wr := []) [0, 1] [] (rn_V (As := [.int v4]) (rest := []) (c_X16_feedOne l D ct mm v4 fs2_mm33_4 utape y_mm_133_5 k_utape33_6 (hs33_12.1.trans hlen_mm) (SB.get hs33_12 (by decide) hf_mm_0) (rg_of (show 0 ≤ y_mm_133_5.toInt ∧ y_mm_133_5.toInt ≤ 1996 by have q0 := h_x_mm_1.1; have q1 := r10_3.2; have q2 := (eq_add ez6_1 h_x_mm_1 (show rg (20 : Int32) 20 20 from rg_l (by decide)) (by decide)); have q3 := FF.out hp17_11; have q4 := FF.out hp22_11; have q5 := FF.out hp27_11; have q6 := FF.out hp33_11; have q7 := (show (20 : Int32).toInt = 20 from by decide); omega)) hp33_9 hp33_10 _) (cb_of (n := 1) hn mw_1781 mw_13 mw_1778 mhX16_feedOne ⟨(Nat.le_of_ble_eq_true rfl), (Nat.le_of_ble_eq_true rfl)⟩) hx hb hml hown hn hK hSK hZ hS mw_1780 mw_s169 (ci := 16) (q0 := 0) rfl rfl rfl rfl hl.1 (Nat.le_of_ble_eq_true rfl) dX16_feed_39 ⟨(Nat.le_of_ble_eq_true rfl), (Nat.le_of_ble_eq_true rfl)⟩) hP hD hS hA rfl rfl (by decide) (by decide) (by decide) (Nat.le_of_ble_eq_true rfl) (Nat.le_of_ble_eq_true rfl) (fun u39_2 H locs hp39_3 hP hD hS => ?_)
    obtain ⟨fs2_mm39_4, y_mm_139_5, k_utape39_6⟩ := u39_2
    obtain ⟨hp39_7, hp39_8, hp39_9, hp39_10, hp39_11⟩ := hp39_3
    have hs39_12 : SB fs_mm fs2_mm39_4 [1] := SB.trans hs33_12 hp39_7 (by decide)
    have hp39_8 : rg y_mm_139_5 0 2000 := hp39_8
    replace hp39_11 : FF (y_mm_139_5.toInt = y_mm_133_5.toInt + 4) := hp39_11
    have hP : va_P D vwCl [(mm, .inr (16, fs2_mm39_4)), (utape, .inl (ct 1, 2000, .inl k_utape39_6))] _ := hP
    have hD : va_D A [(mm, .inr (16, fs2_mm39_4)), (utape, .inl (ct 1, 2000, .inl k_utape39_6))] := hD
    refine lv_aload_n hx hb dX16_feed_42 rfl (lv_at hl 0 rfl) ?_
    refine va_get (D := D) (ci := 16) (v := .int y_mm_139_5) (C := RX16) (T := TX16) (N := 78) hx hb (htX16 hn) (fun _ h => h) hown hK hP 0 rfl rfl 1 (by decide) (hn.get mw_1540 rfl) (fun _ h9 => h9) hp39_9 dX16_feed_43 ?_
    exact endq_i hQ hx hb hr hlocks dX16_feed_46 rfl (fs2_mm39_4, y_mm_139_5, k_utape39_6) ⟨(rg_w hp39_8 (by decide)), hs39_12, hp39_8, hp39_9, hp39_10, (show x_mm_1.toInt ≤ 1980 → y_mm_139_5.toInt = x_mm_1.toInt + 20 ∧ y_mm_139_5.toInt = x_mm_1.toInt + 20 by have q0 := FF.out hp17_11; have q1 := FF.out hp22_11; have q2 := FF.out hp27_11; have q3 := FF.out hp33_11; have q4 := FF.out hp39_11; omega), (show 1980 < x_mm_1.toInt → y_mm_139_5.toInt = -1 ∧ y_mm_139_5.toInt = x_mm_1.toInt by have q0 := r10_3.2; have q1 := (eq_add ez6_1 h_x_mm_1 (show rg (20 : Int32) 20 20 from rg_l (by decide)) (by decide)); have q2 := (show (20 : Int32).toInt = 20 from by decide); omega)⟩ hP hD hS [0, 1] rfl (by decide) rfl (Nat.le_of_ble_eq_true rfl) (Nat.le_of_ble_eq_true rfl)
  · have t10_2 := FF.mk (i_nle c10_1)
    have r10_3 : rg z6_1 2001 2020 := rg_ltB t10_2 (show rg (2000 : Int32) 2000 2000 from rg_l (by decide)) r6_2 (by decide)
    refine lv_iconst (v := (-1)) hx hb dX16_feed_13 (by decide) ?_
    exact endq_i hQ hx hb hr hlocks dX16_feed_14 rfl (fs_mm, x_mm_1, g_utape) ⟨(rg_w (show rg ((-1) : Int32) (-1) (-1) from rg_l (by decide)) (by decide)), (SB.rf _ _), h_x_mm_1, hf_mm_1, h_g_utape, (show x_mm_1.toInt ≤ 1980 → (-1 : Int32).toInt = x_mm_1.toInt + 20 ∧ x_mm_1.toInt = x_mm_1.toInt + 20 by have q0 := r10_3.1; have q1 := (eq_add ez6_1 h_x_mm_1 (show rg (20 : Int32) 20 20 from rg_l (by decide)) (by decide)); have q2 := (show (-1 : Int32).toInt = -1 from by decide); have q3 := (show (20 : Int32).toInt = 20 from by decide); omega), (show 1980 < x_mm_1.toInt → (-1 : Int32).toInt = -1 ∧ x_mm_1.toInt = x_mm_1.toInt by have q0 := (show (-1 : Int32).toInt = -1 from by decide); omega)⟩ hP hD hS [0, 1] rfl (by decide) rfl (Nat.le_of_ble_eq_true rfl) (Nat.le_of_ble_eq_true rfl)
set_option maxHeartbeats 2000000 in
theorem c_X16_end (l : Launch) (D : va_G) (ct : Nat → ClassId) (mm : Nat) (v0 : Int32) (fs_mm : List Value) (x_mm_1 : Int32) (hlen_mm : fs_mm.length = 78) (h_x_mm_1 : rg x_mm_1 0 2000) (hf_mm_1 : fs_mm[1]? = some (.int x_mm_1)) : KI (S := List Value × Int32) l yX16_end cX16_end 2 (some .int) 1 20 D ct [.ref mm, .int v0] [(mm, .inr (16, fs_mm))] 0 0 (fun (r : Int32) (u : List Value × Int32) => match u with | (fs2_mm, y_mm_1) => rg r (-1) 2000 ∧ SB fs_mm fs2_mm [1] ∧ rg y_mm_1 0 2000 ∧ fs2_mm[1]? = some (.int y_mm_1) ∧ (0 ≤ v0.toInt ∧ v0.toInt ≤ x_mm_1.toInt → r.toInt = v0.toInt ∧ y_mm_1.toInt = v0.toInt) ∧ (v0.toInt < 0 ∨ x_mm_1.toInt < v0.toInt → r.toInt = -1 ∧ y_mm_1.toInt = x_mm_1.toInt)) (fun (u : List Value × Int32) => match u with | (fs2_mm, y_mm_1) => [(mm, .inr (16, fs2_mm))]) := by
  refine KIq_of (by decide) (Nat.le_of_ble_eq_true rfl) (fun p e s m below meth c A Q C0 hA H locs hS hP hD hQ ls hl => ?_)
  obtain ⟨hx, hb, hr, hown, hin, hml, hlocks, hn, hK, hZ, hSK⟩ := C0
  have hl : lv_has ls 2 [(0, .ref mm), (1, .int v0)] := hl
  refine lv_iload_n hx hb dX16_end_0 rfl (lv_at hl 1 rfl) ?_
  refine lv_if_lt (tgt := 12) hx hb dX16_end_1 (by decide) (fun c1_1 => ?_) (fun c1_1 => ?_)
  · have t1_2 := FF.mk (i_lt c1_1)
    have r1_3 : rg v0 (-2147483648) (-1) := rg_ltA t1_2 (rg_any v0) (show rg (0 : Int32) 0 0 from rg_l (by decide)) (by decide)
    refine lv_iconst (v := (-1)) hx hb dX16_end_12 (by decide) ?_
    exact endq_i hQ hx hb hr hlocks dX16_end_13 rfl (fs_mm, x_mm_1) ⟨(rg_w (show rg ((-1) : Int32) (-1) (-1) from rg_l (by decide)) (by decide)), (SB.rf _ _), h_x_mm_1, hf_mm_1, (show 0 ≤ v0.toInt ∧ v0.toInt ≤ x_mm_1.toInt → (-1 : Int32).toInt = v0.toInt ∧ x_mm_1.toInt = v0.toInt by have q0 := FF.out t1_2; have q1 := (show (-1 : Int32).toInt = -1 from by decide); have q2 := (show (0 : Int32).toInt = 0 from by decide); omega), (show v0.toInt < 0 ∨ x_mm_1.toInt < v0.toInt → (-1 : Int32).toInt = -1 ∧ x_mm_1.toInt = x_mm_1.toInt by have q0 := (show (-1 : Int32).toInt = -1 from by decide); omega)⟩ hP hD hS [0] rfl (by decide) rfl (Nat.le_of_ble_eq_true rfl) (Nat.le_of_ble_eq_true rfl)
  · have t1_2 := FF.mk (i_nlt c1_1)
    have r1_3 : rg v0 0 2147483647 := rg_leB t1_2 (show rg (0 : Int32) 0 0 from rg_l (by decide)) (rg_any v0) (by decide)
    refine lv_iload_n hx hb dX16_end_4 rfl (lv_at hl 1 rfl) ?_
    refine lv_aload_n hx hb dX16_end_5 rfl (lv_at hl 0 rfl) ?_
    refine va_get (D := D) (ci := 16) (v := .int x_mm_1) (C := RX16) (T := TX16) (N := 78) hx hb (htX16 hn) (fun _ h => h) hown hK hP 0 rfl rfl 1 (by decide) (hn.get mw_1540 rfl) (fun _ h9 => h9) hf_mm_1 dX16_end_6 ?_
    refine lv_icmp_le (tgt := 14) hx hb dX16_end_9 (by decide) (fun c9_1 => ?_) (fun c9_1 => ?_)
    · have t9_2 := FF.mk (i_le c9_1)
      have r9_3 : rg v0 0 2000 := rg_leA t9_2 r1_3 h_x_mm_1 (by decide)
      refine lv_aload_n hx hb dX16_end_14 rfl (lv_at hl 0 rfl) ?_
      refine lv_iload_n hx hb dX16_end_15 rfl (lv_at hl 1 rfl) ?_
      refine va_put (D := D) (ci := 16) (v := .int v0) (ty := .int) (C := RX16) (T := TX16) (N := 78) hx hb (htX16 hn) (fun _ h => h) tyX16 tyX16_ok nmX16 hown hK hP hD hS 0 rfl rfl 1 (by decide) (hn.get mw_1540 rfl) (fun _ h9 => h9) rfl (by decide +kernel) rfl rfl (by rw [hlen_mm]; decide) dX16_end_16 (fun H locs hP hD hS => ?_)
      have hP : va_P D vwCl [(mm, .inr (16, (fs_mm.set 1 (.int v0))))] _ := hP
      have hD : va_D A [(mm, .inr (16, (fs_mm.set 1 (.int v0))))] := hD
      obtain ⟨m16_1, em16_1⟩ : ∃ z, z = (fs_mm.set 1 (.int v0)) := ⟨_, rfl⟩
      rw [← em16_1] at hP hD
      have hsm16_1 : SB fs_mm m16_1 [1] := by rw [em16_1]; exact SB.set (SB.rf _ _) (by decide)
      have hfm16_1_1 : m16_1[1]? = some (.int v0) := by rw [em16_1]; exact fs_eq (by rw [hlen_mm]; decide)
      have hP : va_P D vwCl [(mm, .inr (16, m16_1))] _ := hP
      have hD : va_D A [(mm, .inr (16, m16_1))] := hD
      refine lv_iload_n hx hb dX16_end_19 rfl (lv_at hl 1 rfl) ?_
      exact endq_i hQ hx hb hr hlocks dX16_end_20 rfl (m16_1, v0) ⟨(rg_w r9_3 (by decide)), hsm16_1, r9_3, hfm16_1_1, (show 0 ≤ v0.toInt ∧ v0.toInt ≤ x_mm_1.toInt → v0.toInt = v0.toInt ∧ v0.toInt = v0.toInt by omega), (show v0.toInt < 0 ∨ x_mm_1.toInt < v0.toInt → v0.toInt = -1 ∧ v0.toInt = x_mm_1.toInt by have q0 := r9_3.1; have q1 := FF.out t9_2; omega)⟩ hP hD hS [0] rfl (by decide) rfl (Nat.le_of_ble_eq_true rfl) (Nat.le_of_ble_eq_true rfl)
    · have t9_2 := FF.mk (i_nle c9_1)
      have r9_3 : rg v0 1 2147483647 := rg_ltB t9_2 h_x_mm_1 r1_3 (by decide)
      refine lv_iconst (v := (-1)) hx hb dX16_end_12 (by decide) ?_
      exact endq_i hQ hx hb hr hlocks dX16_end_13 rfl (fs_mm, x_mm_1) ⟨(rg_w (show rg ((-1) : Int32) (-1) (-1) from rg_l (by decide)) (by decide)), (SB.rf _ _), h_x_mm_1, hf_mm_1, (show 0 ≤ v0.toInt ∧ v0.toInt ≤ x_mm_1.toInt → (-1 : Int32).toInt = v0.toInt ∧ x_mm_1.toInt = v0.toInt by have q0 := FF.out t9_2; have q1 := (show (-1 : Int32).toInt = -1 from by decide); omega), (show v0.toInt < 0 ∨ x_mm_1.toInt < v0.toInt → (-1 : Int32).toInt = -1 ∧ x_mm_1.toInt = x_mm_1.toInt by have q0 := (show (-1 : Int32).toInt = -1 from by decide); omega)⟩ hP hD hS [0] rfl (by decide) rfl (Nat.le_of_ble_eq_true rfl) (Nat.le_of_ble_eq_true rfl)
set_option maxHeartbeats 2000000 in
theorem c_X16_isPacket (l : Launch) (D : va_G) (ct : Nat → ClassId) (mm : Nat) (v0 : Int32) (fs_mm : List Value) (x_mm_4 : Int32) (hlen_mm : fs_mm.length = 78) (h_x_mm_4 : rg x_mm_4 0 16) (hf_mm_4 : fs_mm[4]? = some (.int x_mm_4)) : KI (S := Unit) l yX16_isPacket cX16_isPacket 2 (some .boolean) 1 20 D ct [.ref mm, .int v0] [(mm, .inr (16, fs_mm))] 0 0 (fun (r : Int32) (_ : Unit) => rg r 0 1 ∧ (r.toInt = 1 → 0 ≤ v0.toInt ∧ v0.toInt < x_mm_4.toInt) ∧ (r.toInt = 0 → v0.toInt < 0 ∨ x_mm_4.toInt ≤ v0.toInt)) (fun (_ : Unit) => [(mm, .inr (16, fs_mm))]) := by
  refine KIq_of (by decide) (Nat.le_of_ble_eq_true rfl) (fun p e s m below meth c A Q C0 hA H locs hS hP hD hQ ls hl => ?_)
  obtain ⟨hx, hb, hr, hown, hin, hml, hlocks, hn, hK, hZ, hSK⟩ := C0
  have hl : lv_has ls 2 [(0, .ref mm), (1, .int v0)] := hl
  refine lv_iload_n hx hb dX16_isPacket_0 rfl (lv_at hl 1 rfl) ?_
  refine lv_if_lt (tgt := 16) hx hb dX16_isPacket_1 (by decide) (fun c1_1 => ?_) (fun c1_1 => ?_)
  · have t1_2 := FF.mk (i_lt c1_1)
    have r1_3 : rg v0 (-2147483648) (-1) := rg_ltA t1_2 (rg_any v0) (show rg (0 : Int32) 0 0 from rg_l (by decide)) (by decide)
    refine lv_iconst (v := 0) hx hb dX16_isPacket_16 (by decide) ?_
    exact endq_i hQ hx hb hr hlocks dX16_isPacket_17 (by decide) () ⟨(rg_w (show rg (0 : Int32) 0 0 from rg_l (by decide)) (by decide)), (show (0 : Int32).toInt = 1 → 0 ≤ v0.toInt ∧ v0.toInt < x_mm_4.toInt by have q0 := (show (0 : Int32).toInt = 0 from by decide); omega), (show (0 : Int32).toInt = 0 → v0.toInt < 0 ∨ x_mm_4.toInt ≤ v0.toInt by have q0 := FF.out t1_2; have q1 := (show (0 : Int32).toInt = 0 from by decide); omega)⟩ hP hD hS [0] rfl (by decide) rfl (Nat.le_of_ble_eq_true rfl) (Nat.le_of_ble_eq_true rfl)
  · have t1_2 := FF.mk (i_nlt c1_1)
    have r1_3 : rg v0 0 2147483647 := rg_leB t1_2 (show rg (0 : Int32) 0 0 from rg_l (by decide)) (rg_any v0) (by decide)
    refine lv_iload_n hx hb dX16_isPacket_4 rfl (lv_at hl 1 rfl) ?_
    refine lv_aload_n hx hb dX16_isPacket_5 rfl (lv_at hl 0 rfl) ?_
    refine va_get (D := D) (ci := 16) (v := .int x_mm_4) (C := RX16) (T := TX16) (N := 78) hx hb (htX16 hn) (fun _ h => h) hown hK hP 0 rfl rfl 4 (by decide) (hn.get mw_1543 rfl) (fun _ h9 => h9) hf_mm_4 dX16_isPacket_6 ?_
    refine lv_icmp_ge (tgt := 16) hx hb dX16_isPacket_9 (by decide) (fun c9_1 => ?_) (fun c9_1 => ?_)
    · have t9_2 := FF.mk (i_le c9_1)
      refine lv_iconst (v := 0) hx hb dX16_isPacket_16 (by decide) ?_
      exact endq_i hQ hx hb hr hlocks dX16_isPacket_17 (by decide) () ⟨(rg_w (show rg (0 : Int32) 0 0 from rg_l (by decide)) (by decide)), (show (0 : Int32).toInt = 1 → 0 ≤ v0.toInt ∧ v0.toInt < x_mm_4.toInt by have q0 := (show (0 : Int32).toInt = 0 from by decide); omega), (show (0 : Int32).toInt = 0 → v0.toInt < 0 ∨ x_mm_4.toInt ≤ v0.toInt by have q0 := FF.out t9_2; have q1 := (show (0 : Int32).toInt = 0 from by decide); omega)⟩ hP hD hS [0] rfl (by decide) rfl (Nat.le_of_ble_eq_true rfl) (Nat.le_of_ble_eq_true rfl)
    · have t9_2 := FF.mk (i_nle c9_1)
      have r9_3 : rg v0 0 15 := rg_ltA t9_2 r1_3 h_x_mm_4 (by decide)
      have r9_4 : rg x_mm_4 1 16 := rg_ltB t9_2 r1_3 h_x_mm_4 (by decide)
      refine lv_iconst (v := 1) hx hb dX16_isPacket_12 (by decide) ?_
      refine lv_goto (tgt := 17) hx hb dX16_isPacket_13 (by decide) ?_
      exact endq_i hQ hx hb hr hlocks dX16_isPacket_17 (by decide) () ⟨(rg_w (show rg (1 : Int32) 1 1 from rg_l (by decide)) (by decide)), (show (1 : Int32).toInt = 1 → 0 ≤ v0.toInt ∧ v0.toInt < x_mm_4.toInt by have q0 := r9_3.1; have q1 := FF.out t9_2; have q2 := (show (1 : Int32).toInt = 1 from by decide); omega), (show (1 : Int32).toInt = 0 → v0.toInt < 0 ∨ x_mm_4.toInt ≤ v0.toInt by have q0 := (show (1 : Int32).toInt = 1 from by decide); omega)⟩ hP hD hS [0] rfl (by decide) rfl (Nat.le_of_ble_eq_true rfl) (Nat.le_of_ble_eq_true rfl)
set_option maxHeartbeats 2000000 in
theorem c_X16_packet (l : Launch) (D : va_G) (ct : Nat → ClassId) (mm : Nat) (fs_mm : List Value) (utape : Nat) (x_mm_1 : Int32) (upb : Nat) (upl_ : Nat) (x_mm_4 : Int32) (g_upl_ : Nat → Int32) (g_utape : Nat → Int32) (g_upb : Nat → Int32) (hlen_mm : fs_mm.length = 78) (hf_mm_0 : fs_mm[0]? = some (.ref utape)) (h_x_mm_1 : rg x_mm_1 0 2000) (hf_mm_1 : fs_mm[1]? = some (.int x_mm_1)) (hf_mm_2 : fs_mm[2]? = some (.ref upb)) (hf_mm_3 : fs_mm[3]? = some (.ref upl_)) (h_x_mm_4 : rg x_mm_4 0 16) (hf_mm_4 : fs_mm[4]? = some (.int x_mm_4)) (h_g_upl_ : Rg g_upl_ 16 0 256) (h_g_utape : Rg g_utape 2000 0 255) (h_g_upb : Rg g_upb 4096 0 255) : KI (S := List Value × Int32 × (Nat → Int32) × (Nat → Int32)) l yX16_packet cX16_packet 3 (some .int) 1 20 D ct [.ref mm] [(mm, .inr (16, fs_mm)), (upl_, .inl (ct 1, 16, .inl g_upl_)), (utape, .inl (ct 1, 2000, .inl g_utape)), (upb, .inl (ct 1, 4096, .inl g_upb))] 0 0 (fun (r : Int32) (u : List Value × Int32 × (Nat → Int32) × (Nat → Int32)) => match u with | (fs2_mm, y_mm_4, k_upl_, k_upb) => rg r (-2) 15 ∧ SB fs_mm fs2_mm [1, 4] ∧ fs2_mm[1]? = some (.int 0) ∧ rg y_mm_4 0 16 ∧ fs2_mm[4]? = some (.int y_mm_4) ∧ Rg k_upl_ 16 0 256 ∧ Rg k_upb 4096 0 255) (fun (u : List Value × Int32 × (Nat → Int32) × (Nat → Int32)) => match u with | (fs2_mm, y_mm_4, k_upl_, k_upb) => [(mm, .inr (16, fs2_mm)), (upl_, .inl (ct 1, 16, .inl k_upl_)), (utape, .inl (ct 1, 2000, .inl g_utape)), (upb, .inl (ct 1, 4096, .inl k_upb))]) := by
  refine KIq_of (by decide) (Nat.le_of_ble_eq_true rfl) (fun p e s m below meth c A Q C0 hA H locs hS hP hD hQ ls hl => ?_)
  obtain ⟨hx, hb, hr, hown, hin, hml, hlocks, hn, hK, hZ, hSK⟩ := C0
  have hl : lv_has ls 3 [(0, .ref mm)] := hl
  refine lv_aload_n hx hb dX16_packet_0 rfl (lv_at hl 0 rfl) ?_
  refine va_get (D := D) (ci := 16) (v := .int x_mm_1) (C := RX16) (T := TX16) (N := 78) hx hb (htX16 hn) (fun _ h => h) hown hK hP 0 rfl rfl 1 (by decide) (hn.get mw_1540 rfl) (fun _ h9 => h9) hf_mm_1 dX16_packet_1 ?_
  refine lv_istore_n (lv' := [(1, .int x_mm_1), (0, .ref mm)]) hx hb dX16_packet_4 rfl hl (by decide) rfl (fun ls hl => ?_)
  refine lv_aload_n hx hb dX16_packet_5 rfl (lv_at hl 1 rfl) ?_
  refine lv_iconst (v := 0) hx hb dX16_packet_6 (by decide) ?_
  refine va_put (D := D) (ci := 16) (v := .int 0) (ty := .int) (C := RX16) (T := TX16) (N := 78) hx hb (htX16 hn) (fun _ h => h) tyX16 tyX16_ok nmX16 hown hK hP hD hS 0 rfl rfl 1 (by decide) (hn.get mw_1540 rfl) (fun _ h9 => h9) rfl (by decide +kernel) rfl rfl (by rw [hlen_mm]; decide) dX16_packet_7 (fun H locs hP hD hS => ?_)
  have hP : va_P D vwCl [(mm, .inr (16, (fs_mm.set 1 (.int 0)))), (upl_, .inl (ct 1, 16, .inl g_upl_)), (utape, .inl (ct 1, 2000, .inl g_utape)), (upb, .inl (ct 1, 4096, .inl g_upb))] _ := hP
  have hD : va_D A [(mm, .inr (16, (fs_mm.set 1 (.int 0)))), (upl_, .inl (ct 1, 16, .inl g_upl_)), (utape, .inl (ct 1, 2000, .inl g_utape)), (upb, .inl (ct 1, 4096, .inl g_upb))] := hD
  obtain ⟨m7_1, em7_1⟩ : ∃ z, z = (fs_mm.set 1 (.int 0)) := ⟨_, rfl⟩
  rw [← em7_1] at hP hD
  have hsm7_1 : SB fs_mm m7_1 [1, 4] := by rw [em7_1]; exact SB.set (SB.rf _ _) (by decide)
  have hfm7_1_4 : m7_1[4]? = some (.int x_mm_4) := by rw [em7_1]; exact fs_ne (by decide) hf_mm_4
  have hfm7_1_1 : m7_1[1]? = some (.int 0) := by rw [em7_1]; exact fs_eq (by rw [hlen_mm]; decide)
  have hP : va_P D vwCl [(mm, .inr (16, m7_1)), (upl_, .inl (ct 1, 16, .inl g_upl_)), (utape, .inl (ct 1, 2000, .inl g_utape)), (upb, .inl (ct 1, 4096, .inl g_upb))] _ := hP
  have hD : va_D A [(mm, .inr (16, m7_1)), (upl_, .inl (ct 1, 16, .inl g_upl_)), (utape, .inl (ct 1, 2000, .inl g_utape)), (upb, .inl (ct 1, 4096, .inl g_upb))] := hD
  refine lv_aload_n hx hb dX16_packet_10 rfl (lv_at hl 1 rfl) ?_
  refine va_get (D := D) (ci := 16) (v := .int x_mm_4) (C := RX16) (T := TX16) (N := 78) hx hb (htX16 hn) (fun _ h => h) hown hK hP 0 rfl rfl 4 (by decide) (hn.get mw_1543 rfl) (fun _ h9 => h9) hfm7_1_4 dX16_packet_11 ?_
  refine lv_bipush (v := 16) hx hb dX16_packet_14 (by decide) ?_
  refine lv_icmp_ne (tgt := 21) hx hb dX16_packet_16 (by decide) (fun c16_1 => ?_) (fun c16_1 => ?_)
  · have t16_2 := FF.mk (i_ne c16_1)
    have r16_3 : rg x_mm_4 0 15 := rg_neAh t16_2 h_x_mm_4 (show rg (16 : Int32) 16 16 from rg_l (by decide)) (by decide)
    refine lv_iload_n hx hb dX16_packet_21 rfl (lv_at hl 0 rfl) ?_
    refine lv_sipush (v := 256) hx hb dX16_packet_22 (by decide) ?_
    refine lv_icmp_le (tgt := 31) hx hb dX16_packet_25 (by decide) (fun c25_1 => ?_) (fun c25_1 => ?_)
    · have t25_2 := FF.mk (i_le c25_1)
      have r25_3 : rg x_mm_1 0 256 := rg_leA t25_2 h_x_mm_1 (show rg (256 : Int32) 256 256 from rg_l (by decide)) (by decide)
      refine lv_iconst (v := 0) hx hb dX16_packet_31 (by decide) ?_
      refine lv_istore_n (lv' := [(2, .int 0), (1, .int x_mm_1), (0, .ref mm)]) hx hb dX16_packet_32 rfl hl (by decide) rfl (fun ls hl => ?_)
      have b33 : ∀ (n : Nat) (j33_l2 : Int32) (j33_cupb : Nat → Int32) (H : Heap) (locs : List Loc) (ls : Array Slot), (rg j33_l2 0 256) → (Rg j33_cupb 4096 0 255) → ((2147483647 : Int) - j33_l2.toInt).toNat < n → lv_has ls 3 [(0, .ref mm), (1, .int x_mm_1), (2, .int j33_l2)] → va_P D vwCl [(mm, .inr (16, m7_1)), (upl_, .inl (ct 1, 16, .inl g_upl_)), (utape, .inl (ct 1, 2000, .inl g_utape)), (upb, .inl (ct 1, 4096, .inl j33_cupb))] H → va_D A [(mm, .inr (16, m7_1)), (upl_, .inl (ct 1, 16, .inl g_upl_)), (utape, .inl (ct 1, 2000, .inl g_utape)), (upb, .inl (ct 1, 4096, .inl j33_cupb))] → va_S A s.heap H locs → W p l e ({ frames := 1, cells := 0, slots := 0, locals := 20 }) s m [.ref mm].toArray below meth c H locs 0 0 Q (F0 m 33 ls []) := by
        intro n
        induction n with
        | zero => intros; rename_i hms _ _ _ _; exact absurd hms (Nat.not_lt_zero _)
        | succ n ih =>
          intro j33_l2 j33_cupb H locs ls r33_1001 hc33_1002 hms hl hP hD hS
          refine lv_iload_n hx hb dX16_packet_33 rfl (lv_at hl 2 rfl) ?_
          refine lv_iload_n hx hb dX16_packet_34 rfl (lv_at hl 1 rfl) ?_
          refine lv_icmp_ge (tgt := 65) hx hb dX16_packet_35 (by decide) (fun c35_1 => ?_) (fun c35_1 => ?_)
          · have t35_2 := FF.mk (i_le c35_1)
            refine lv_aload_n hx hb dX16_packet_65 rfl (lv_at hl 0 rfl) ?_
            refine va_get (D := D) (ci := 16) (v := .ref upl_) (C := RX16) (T := TX16) (N := 78) hx hb (htX16 hn) (fun _ h => h) hown hK hP 0 rfl rfl 3 (by decide) (hn.get mw_1542 rfl) (fun _ h9 => h9) (SB.get hsm7_1 (by decide) hf_mm_3) dX16_packet_66 ?_
            refine lv_aload_n hx hb dX16_packet_69 rfl (lv_at hl 0 rfl) ?_
            refine va_get (D := D) (ci := 16) (v := .int x_mm_4) (C := RX16) (T := TX16) (N := 78) hx hb (htX16 hn) (fun _ h => h) hown hK hP 0 rfl rfl 4 (by decide) (hn.get mw_1543 rfl) (fun _ h9 => h9) hfm7_1_4 dX16_packet_70 ?_
            refine lv_iload_n hx hb dX16_packet_73 rfl (lv_at hl 1 rfl) ?_
            have hi74_1 : vp_in x_mm_4 16 := (in_rg r16_3 (by decide))
            refine va_iast hx hb hK hP hD hS 1 1 rfl rfl hi74_1 dX16_packet_74 (fun H locs hP hD hS => ?_)
            have hP : va_P D vwCl [(mm, .inr (16, m7_1)), (upl_, .inl (ct 1, 16, .inl (upd g_upl_ x_mm_4.toNatClampNeg x_mm_1))), (utape, .inl (ct 1, 2000, .inl g_utape)), (upb, .inl (ct 1, 4096, .inl j33_cupb))] _ := hP
            have hD : va_D A [(mm, .inr (16, m7_1)), (upl_, .inl (ct 1, 16, .inl (upd g_upl_ x_mm_4.toNatClampNeg x_mm_1))), (utape, .inl (ct 1, 2000, .inl g_utape)), (upb, .inl (ct 1, 4096, .inl j33_cupb))] := hD
            obtain ⟨f74_2, ef74_2⟩ : ∃ z, z = (upd g_upl_ x_mm_4.toNatClampNeg x_mm_1) := ⟨_, rfl⟩
            rw [← ef74_2] at hP hD
            have hc74_3 : Rg f74_2 16 0 256 := Rg_upd ef74_2 h_g_upl_ r25_3
            refine lv_aload_n hx hb dX16_packet_75 rfl (lv_at hl 0 rfl) ?_
            refine lv_dup hx hb dX16_packet_76 rfl ?_
            refine va_get (D := D) (ci := 16) (v := .int x_mm_4) (C := RX16) (T := TX16) (N := 78) hx hb (htX16 hn) (fun _ h => h) hown hK hP 0 rfl rfl 4 (by decide) (hn.get mw_1543 rfl) (fun _ h9 => h9) hfm7_1_4 dX16_packet_77 ?_
            refine lv_iconst (v := 1) hx hb dX16_packet_80 (by decide) ?_
            refine lv_iadd hx hb dX16_packet_81 ?_
            refine lv_topi (fun z81_1 ez81_1 => ?_)
            have r81_2 : rg z81_1 1 16 := rg_add ez81_1 r16_3 (show rg (1 : Int32) 1 1 from rg_l (by decide)) (by decide)
            refine va_put (D := D) (ci := 16) (v := .int z81_1) (ty := .int) (C := RX16) (T := TX16) (N := 78) hx hb (htX16 hn) (fun _ h => h) tyX16 tyX16_ok nmX16 hown hK hP hD hS 0 rfl rfl 4 (by decide) (hn.get mw_1543 rfl) (fun _ h9 => h9) rfl (by decide +kernel) rfl rfl (by rw [hsm7_1.1, hlen_mm]; decide) dX16_packet_82 (fun H locs hP hD hS => ?_)
            have hP : va_P D vwCl [(mm, .inr (16, (m7_1.set 4 (.int z81_1)))), (upl_, .inl (ct 1, 16, .inl f74_2)), (utape, .inl (ct 1, 2000, .inl g_utape)), (upb, .inl (ct 1, 4096, .inl j33_cupb))] _ := hP
            have hD : va_D A [(mm, .inr (16, (m7_1.set 4 (.int z81_1)))), (upl_, .inl (ct 1, 16, .inl f74_2)), (utape, .inl (ct 1, 2000, .inl g_utape)), (upb, .inl (ct 1, 4096, .inl j33_cupb))] := hD
            obtain ⟨m82_1, em82_1⟩ : ∃ z, z = (m7_1.set 4 (.int z81_1)) := ⟨_, rfl⟩
            rw [← em82_1] at hP hD
            have hsm82_1 : SB fs_mm m82_1 [1, 4] := by rw [em82_1]; exact SB.set hsm7_1 (by decide)
            have hfm82_1_1 : m82_1[1]? = some (.int 0) := by rw [em82_1]; exact fs_ne (by decide) hfm7_1_1
            have hfm82_1_4 : m82_1[4]? = some (.int z81_1) := by rw [em82_1]; exact fs_eq (by rw [hsm7_1.1, hlen_mm]; decide)
            have hP : va_P D vwCl [(mm, .inr (16, m82_1)), (upl_, .inl (ct 1, 16, .inl f74_2)), (utape, .inl (ct 1, 2000, .inl g_utape)), (upb, .inl (ct 1, 4096, .inl j33_cupb))] _ := hP
            have hD : va_D A [(mm, .inr (16, m82_1)), (upl_, .inl (ct 1, 16, .inl f74_2)), (utape, .inl (ct 1, 2000, .inl g_utape)), (upb, .inl (ct 1, 4096, .inl j33_cupb))] := hD
            refine lv_aload_n hx hb dX16_packet_85 rfl (lv_at hl 0 rfl) ?_
            refine va_get (D := D) (ci := 16) (v := .int z81_1) (C := RX16) (T := TX16) (N := 78) hx hb (htX16 hn) (fun _ h => h) hown hK hP 0 rfl rfl 4 (by decide) (hn.get mw_1543 rfl) (fun _ h9 => h9) hfm82_1_4 dX16_packet_86 ?_
            refine lv_iconst (v := 1) hx hb dX16_packet_89 (by decide) ?_
            refine lv_isub hx hb dX16_packet_90 ?_
            refine lv_topi (fun z90_1 ez90_1 => ?_)
            have r90_2 : rg z90_1 0 15 := rg_sub ez90_1 r81_2 (show rg (1 : Int32) 1 1 from rg_l (by decide)) (by decide)
            exact endq_i hQ hx hb hr hlocks dX16_packet_91 rfl (m82_1, z81_1, f74_2, j33_cupb) ⟨(rg_w r90_2 (by decide)), hsm82_1, hfm82_1_1, (rg_w r81_2 (by decide)), hfm82_1_4, hc74_3, hc33_1002⟩ hP hD hS [0, 1, 2, 3] rfl (by decide) rfl (Nat.le_of_ble_eq_true rfl) (Nat.le_of_ble_eq_true rfl)
          · have t35_2 := FF.mk (i_nle c35_1)
            have r35_3 : rg j33_l2 0 255 := rg_ltA t35_2 r33_1001 r25_3 (by decide)
            have r35_4 : rg x_mm_1 1 256 := rg_ltB t35_2 r33_1001 r25_3 (by decide)
            refine lv_aload_n hx hb dX16_packet_38 rfl (lv_at hl 0 rfl) ?_
            refine va_get (D := D) (ci := 16) (v := .ref upb) (C := RX16) (T := TX16) (N := 78) hx hb (htX16 hn) (fun _ h => h) hown hK hP 0 rfl rfl 2 (by decide) (hn.get mw_1541 rfl) (fun _ h9 => h9) (SB.get hsm7_1 (by decide) hf_mm_2) dX16_packet_39 ?_
            refine lv_sipush (v := 256) hx hb dX16_packet_42 (by decide) ?_
            refine lv_aload_n hx hb dX16_packet_45 rfl (lv_at hl 0 rfl) ?_
            refine va_get (D := D) (ci := 16) (v := .int x_mm_4) (C := RX16) (T := TX16) (N := 78) hx hb (htX16 hn) (fun _ h => h) hown hK hP 0 rfl rfl 4 (by decide) (hn.get mw_1543 rfl) (fun _ h9 => h9) hfm7_1_4 dX16_packet_46 ?_
            refine lv_imul hx hb dX16_packet_49 ?_
            refine lv_topi (fun z49_1 ez49_1 => ?_)
            have r49_2 : rg z49_1 0 3840 := rg_mul ez49_1 (show rg (256 : Int32) 256 256 from rg_l (by decide)) r16_3 (by decide)
            refine lv_iload_n hx hb dX16_packet_50 rfl (lv_at hl 2 rfl) ?_
            refine lv_iadd hx hb dX16_packet_51 ?_
            refine lv_topi (fun z51_1 ez51_1 => ?_)
            have r51_2 : rg z51_1 0 4095 := rg_add ez51_1 r49_2 r35_3 (by decide)
            refine lv_aload_n hx hb dX16_packet_52 rfl (lv_at hl 0 rfl) ?_
            refine va_get (D := D) (ci := 16) (v := .ref utape) (C := RX16) (T := TX16) (N := 78) hx hb (htX16 hn) (fun _ h => h) hown hK hP 0 rfl rfl 0 (by decide) (hn.get mw_1539 rfl) (fun _ h9 => h9) (SB.get hsm7_1 (by decide) hf_mm_0) dX16_packet_53 ?_
            refine lv_iload_n hx hb dX16_packet_56 rfl (lv_at hl 2 rfl) ?_
            have hi57_1 : vp_in j33_l2 2000 := (in_rg r35_3 (by decide))
            refine va_iald hx hb hK hP 2 1 rfl rfl hi57_1 dX16_packet_57 ?_
            refine lv_topi (fun z57_2 ez57_2 => ?_)
            have r57_3 : rg z57_2 0 255 := Rg_at h_g_utape hi57_1 ez57_2
            have hi58_1 : vp_in z51_1 4096 := (in_rg r51_2 (by decide))
            refine va_iast hx hb hK hP hD hS 3 1 rfl rfl hi58_1 dX16_packet_58 (fun H locs hP hD hS => ?_)
            have hP : va_P D vwCl [(mm, .inr (16, m7_1)), (upl_, .inl (ct 1, 16, .inl g_upl_)), (utape, .inl (ct 1, 2000, .inl g_utape)), (upb, .inl (ct 1, 4096, .inl (upd j33_cupb z51_1.toNatClampNeg z57_2)))] _ := hP
            have hD : va_D A [(mm, .inr (16, m7_1)), (upl_, .inl (ct 1, 16, .inl g_upl_)), (utape, .inl (ct 1, 2000, .inl g_utape)), (upb, .inl (ct 1, 4096, .inl (upd j33_cupb z51_1.toNatClampNeg z57_2)))] := hD
            obtain ⟨f58_2, ef58_2⟩ : ∃ z, z = (upd j33_cupb z51_1.toNatClampNeg z57_2) := ⟨_, rfl⟩
            rw [← ef58_2] at hP hD
            have hc58_3 : Rg f58_2 4096 0 255 := Rg_upd ef58_2 hc33_1002 r57_3
            obtain ⟨x59_1, ex59_1⟩ : ∃ z : Int32, z = j33_l2 + 1 := ⟨_, rfl⟩
            have r59_2 : rg x59_1 1 256 := rg_add ex59_1 r35_3 (show rg (1 : Int32) 1 1 from rg_l (by decide)) (by decide)
            refine lv_iinc (v := x59_1) (lv' := [(2, .int x59_1), (0, .ref mm), (1, .int x_mm_1)]) hx hb dX16_packet_59 hl (k := 2) rfl (by rw [ex59_1]; rfl) (by decide) rfl (fun ls hl => ?_)
            refine lv_goto (tgt := 33) hx hb dX16_packet_62 (by decide) ?_
            exact ih x59_1 f58_2 H locs ls (rg_w r59_2 (by decide)) hc58_3 (show ((2147483647 : Int) - x59_1.toInt).toNat < n by have q0 := r35_3.2; have q1 := (eq_add ex59_1 r35_3 (show rg (1 : Int32) 1 1 from rg_l (by decide)) (by decide)); have q2 := (show (1 : Int32).toInt = 1 from by decide); have q3 := hms; omega) (lv_sub hl [1, 2, 0] rfl) hP hD hS
      exact b33 _ (0 : Int32) g_upb H locs ls (rg_w (show rg (0 : Int32) 0 0 from rg_l (by decide)) (by decide)) h_g_upb (Nat.lt_succ_self _) (lv_sub hl [2, 1, 0] rfl) hP hD hS
    · have t25_2 := FF.mk (i_nle c25_1)
      have r25_3 : rg x_mm_1 257 2000 := rg_ltB t25_2 (show rg (256 : Int32) 256 256 from rg_l (by decide)) h_x_mm_1 (by decide)
      refine lv_bipush (v := (-2)) hx hb dX16_packet_28 (by decide) ?_
      exact endq_i hQ hx hb hr hlocks dX16_packet_30 rfl (m7_1, x_mm_4, g_upl_, g_upb) ⟨(rg_w (show rg ((-2) : Int32) (-2) (-2) from rg_l (by decide)) (by decide)), hsm7_1, hfm7_1_1, (rg_w r16_3 (by decide)), hfm7_1_4, h_g_upl_, h_g_upb⟩ hP hD hS [0, 1, 2, 3] rfl (by decide) rfl (Nat.le_of_ble_eq_true rfl) (Nat.le_of_ble_eq_true rfl)
  · have t16_2 := FF.mk (i_eq c16_1)
    have r16_3 : rg x_mm_4 16 16 := rg_eqA t16_2 h_x_mm_4 (show rg (16 : Int32) 16 16 from rg_l (by decide)) (by decide)
    refine lv_iconst (v := (-1)) hx hb dX16_packet_19 (by decide) ?_
    exact endq_i hQ hx hb hr hlocks dX16_packet_20 rfl (m7_1, x_mm_4, g_upl_, g_upb) ⟨(rg_w (show rg ((-1) : Int32) (-1) (-1) from rg_l (by decide)) (by decide)), hsm7_1, hfm7_1_1, (rg_w r16_3 (by decide)), hfm7_1_4, h_g_upl_, h_g_upb⟩ hP hD hS [0, 1, 2, 3] rfl (by decide) rfl (Nat.le_of_ble_eq_true rfl) (Nat.le_of_ble_eq_true rfl)
set_option maxHeartbeats 2000000 in
theorem c_X16_bytes (l : Launch) (D : va_G) (ct : Nat → ClassId) (mm : Nat) (v0 : Int32) (v1 : Int32) (fs_mm : List Value) (upb : Nat) (upl_ : Nat) (x_mm_4 : Int32) (g_upl_ : Nat → Int32) (g_upb : Nat → Int32) (hlen_mm : fs_mm.length = 78) (hf_mm_2 : fs_mm[2]? = some (.ref upb)) (hf_mm_3 : fs_mm[3]? = some (.ref upl_)) (h_x_mm_4 : rg x_mm_4 0 16) (hf_mm_4 : fs_mm[4]? = some (.int x_mm_4)) (h_g_upl_ : Rg g_upl_ 16 0 256) (h_g_upb : Rg g_upb 4096 0 255) : KL (S := Unit) l yX16_bytes cX16_bytes 6 (some .long) 2 41 D ct [.ref mm, .int v0, .int v1] [(mm, .inr (16, fs_mm)), (upl_, .inl (ct 1, 16, .inl g_upl_)), (upb, .inl (ct 1, 4096, .inl g_upb))] 0 0 (fun (r : Int64) (_ : Unit) => True) (fun (_ : Unit) => [(mm, .inr (16, fs_mm)), (upl_, .inl (ct 1, 16, .inl g_upl_)), (upb, .inl (ct 1, 4096, .inl g_upb))]) := by
  refine KLq_of (by decide) (Nat.le_of_ble_eq_true rfl) (fun p e s m below meth c A Q C0 hA H locs hS hP hD hQ ls hl => ?_)
  obtain ⟨hx, hb, hr, hown, hin, hml, hlocks, hn, hK, hZ, hSK⟩ := C0
  have hl : lv_has ls 6 [(0, .ref mm), (1, .int v0), (2, .int v1)] := hl
  refine lv_aload_n hx hb dX16_bytes_0 rfl (lv_at hl 0 rfl) ?_
  refine lv_iload_n hx hb dX16_bytes_1 rfl (lv_at hl 1 rfl) ?_
  refine go_i (k1 := 0) (n1 := 0) (wr := [(upl_, .inl (ct 1, 16, .inl g_upl_)), (upb, .inl (ct 1, 4096, .inl g_upb))]) [0] [1, 2] (rn_V (As := [.int v0]) (rest := []) (c_X16_isPacket l D ct mm v0 fs_mm x_mm_4 hlen_mm h_x_mm_4 hf_mm_4 _) (cb_of (n := 1) hn mw_1797 mw_13 mw_1794 mhX16_isPacket ⟨(Nat.le_of_ble_eq_true rfl), (Nat.le_of_ble_eq_true rfl)⟩) hx hb hml hown hn hK hSK hZ hS mw_1796 mw_s170 (ci := 16) (q0 := 0) rfl rfl rfl rfl hl.1 (Nat.le_of_ble_eq_true rfl) dX16_bytes_2 ⟨(Nat.le_of_ble_eq_true rfl), (Nat.le_of_ble_eq_true rfl)⟩) hP hD hS hA rfl rfl (by decide) (by decide) (by decide) (Nat.le_of_ble_eq_true rfl) (Nat.le_of_ble_eq_true rfl) (fun r2_1 u2_2 H locs hp2_3 hP hD hS => ?_)
  obtain ⟨hp2_4, hp2_5, hp2_6⟩ := hp2_3
  have hp2_4 : rg r2_1 0 1 := hp2_4
  replace hp2_5 : FF (r2_1.toInt = 1 → 0 ≤ v0.toInt ∧ v0.toInt < x_mm_4.toInt) := hp2_5
  replace hp2_6 : FF (r2_1.toInt = 0 → v0.toInt < 0 ∨ x_mm_4.toInt ≤ v0.toInt) := hp2_6
  have hP : va_P D vwCl [(upl_, .inl (ct 1, 16, .inl g_upl_)), (upb, .inl (ct 1, 4096, .inl g_upb)), (mm, .inr (16, fs_mm))] _ := hP
  have hD : va_D A [(upl_, .inl (ct 1, 16, .inl g_upl_)), (upb, .inl (ct 1, 4096, .inl g_upb)), (mm, .inr (16, fs_mm))] := hD
  refine lv_if_eq (tgt := 22) hx hb dX16_bytes_5 (by decide) (fun c5_1 => ?_) (fun c5_1 => ?_)
  · have t5_2 := FF.mk (i_eq c5_1)
    have r5_3 : rg r2_1 0 0 := rg_eqA t5_2 hp2_4 (show rg (0 : Int32) 0 0 from rg_l (by decide)) (by decide)
    refine lv_ldc2 (v := (-1)) hx hb hown (hn.get mw_1798 rfl) dX16_bytes_22 ?_
    exact endq_l hQ hx hb hr hlocks dX16_bytes_25 () trivial hP hD hS [2, 0, 1] rfl (by decide) rfl (Nat.le_of_ble_eq_true rfl) (Nat.le_of_ble_eq_true rfl)
  · have t5_2 := FF.mk (i_ne c5_1)
    have r5_3 : rg r2_1 1 1 := rg_neAl t5_2 hp2_4 (show rg (0 : Int32) 0 0 from rg_l (by decide)) (by decide)
    refine lv_iload_n hx hb dX16_bytes_8 rfl (lv_at hl 2 rfl) ?_
    refine lv_if_lt (tgt := 22) hx hb dX16_bytes_9 (by decide) (fun c9_1 => ?_) (fun c9_1 => ?_)
    · have t9_2 := FF.mk (i_lt c9_1)
      have r9_3 : rg v1 (-2147483648) (-1) := rg_ltA t9_2 (rg_any v1) (show rg (0 : Int32) 0 0 from rg_l (by decide)) (by decide)
      refine lv_ldc2 (v := (-1)) hx hb hown (hn.get mw_1798 rfl) dX16_bytes_22 ?_
      exact endq_l hQ hx hb hr hlocks dX16_bytes_25 () trivial hP hD hS [2, 0, 1] rfl (by decide) rfl (Nat.le_of_ble_eq_true rfl) (Nat.le_of_ble_eq_true rfl)
    · have t9_2 := FF.mk (i_nlt c9_1)
      have r9_3 : rg v1 0 2147483647 := rg_leB t9_2 (show rg (0 : Int32) 0 0 from rg_l (by decide)) (rg_any v1) (by decide)
      refine lv_iload_n hx hb dX16_bytes_12 rfl (lv_at hl 2 rfl) ?_
      refine lv_aload_n hx hb dX16_bytes_13 rfl (lv_at hl 0 rfl) ?_
      refine va_get (D := D) (ci := 16) (v := .ref upl_) (C := RX16) (T := TX16) (N := 78) hx hb (htX16 hn) (fun _ h => h) hown hK hP 2 rfl rfl 3 (by decide) (hn.get mw_1542 rfl) (fun _ h9 => h9) hf_mm_3 dX16_bytes_14 ?_
      refine lv_iload_n hx hb dX16_bytes_17 rfl (lv_at hl 1 rfl) ?_
      have hi18_1 : vp_in v0 16 := (in_of (show 0 ≤ v0.toInt ∧ v0.toInt < 16 by have q0 := h_x_mm_4.2; have q1 := r5_3.1; have q2 := r5_3.2; have q3 := FF.out hp2_5; omega))
      refine va_iald hx hb hK hP 0 1 rfl rfl hi18_1 dX16_bytes_18 ?_
      refine lv_topi (fun z18_2 ez18_2 => ?_)
      have r18_3 : rg z18_2 0 256 := Rg_at h_g_upl_ hi18_1 ez18_2
      refine lv_icmp_lt (tgt := 26) hx hb dX16_bytes_19 (by decide) (fun c19_1 => ?_) (fun c19_1 => ?_)
      · have t19_2 := FF.mk (i_lt c19_1)
        have r19_3 : rg v1 0 255 := rg_ltA t19_2 r9_3 r18_3 (by decide)
        have r19_4 : rg z18_2 1 256 := rg_ltB t19_2 r9_3 r18_3 (by decide)
        have r26_1 : rg v0 0 15 := (rg_of (show 0 ≤ v0.toInt ∧ v0.toInt ≤ 15 by have q0 := h_x_mm_4.2; have q1 := r5_3.1; have q2 := r5_3.2; have q3 := FF.out hp2_5; omega))
        refine lv_lconst (v := 0) hx hb dX16_bytes_26 (by decide) ?_
        refine lv_lstore_n (lv' := [(3, .long 0), (0, .ref mm), (1, .int v0), (2, .int v1)]) hx hb dX16_bytes_27 rfl hl (by decide) rfl (fun ls hl => ?_)
        refine lv_iload_n hx hb dX16_bytes_28 rfl (lv_at hl 3 rfl) ?_
        refine lv_istore (lv' := [(5, .int v1), (3, .long 0), (0, .ref mm), (1, .int v0), (2, .int v1)]) hx hb dX16_bytes_29 hl (by decide) rfl (fun ls hl => ?_)
        have b31 : ∀ (n : Nat) (j31_l3 : Int64) (j31_l5 : Int32) (H : Heap) (locs : List Loc) (ls : Array Slot), (rg j31_l5 0 2147483647) → ((2147483647 : Int) - j31_l5.toInt).toNat < n → lv_has ls 6 [(0, .ref mm), (1, .int v0), (2, .int v1), (3, .long j31_l3), (5, .int j31_l5)] → va_P D vwCl [(upl_, .inl (ct 1, 16, .inl g_upl_)), (upb, .inl (ct 1, 4096, .inl g_upb)), (mm, .inr (16, fs_mm))] H → va_D A [(upl_, .inl (ct 1, 16, .inl g_upl_)), (upb, .inl (ct 1, 4096, .inl g_upb)), (mm, .inr (16, fs_mm))] → va_S A s.heap H locs → W p l e ({ frames := 2, cells := 0, slots := 0, locals := 41 }) s m [.ref mm, .int v0, .int v1].toArray below meth c H locs 0 0 Q (F0 m 31 ls []) := by
          intro n
          induction n with
          | zero => intros; rename_i hms _ _ _ _; exact absurd hms (Nat.not_lt_zero _)
          | succ n ih =>
            intro j31_l3 j31_l5 H locs ls r31_1001 hms hl hP hD hS
            refine lv_iload hx hb dX16_bytes_31 (lv_at hl 4 rfl) ?_
            refine lv_iload_n hx hb dX16_bytes_33 rfl (lv_at hl 2 rfl) ?_
            refine lv_bipush (v := 8) hx hb dX16_bytes_34 (by decide) ?_
            refine lv_iadd hx hb dX16_bytes_36 ?_
            refine lv_topi (fun z36_1 ez36_1 => ?_)
            have r36_2 : rg z36_1 8 263 := rg_add ez36_1 r19_3 (show rg (8 : Int32) 8 8 from rg_l (by decide)) (by decide)
            refine lv_icmp_ge (tgt := 81) hx hb dX16_bytes_37 (by decide) (fun c37_1 => ?_) (fun c37_1 => ?_)
            · have t37_2 := FF.mk (i_le c37_1)
              have r37_3 : rg j31_l5 8 2147483647 := rg_leB t37_2 r36_2 r31_1001 (by decide)
              refine lv_lload_n hx hb dX16_bytes_81 rfl (lv_at hl 3 rfl) ?_
              exact endq_l hQ hx hb hr hlocks dX16_bytes_82 () trivial hP hD hS [2, 0, 1] rfl (by decide) rfl (Nat.le_of_ble_eq_true rfl) (Nat.le_of_ble_eq_true rfl)
            · have t37_2 := FF.mk (i_nle c37_1)
              have r37_3 : rg j31_l5 0 262 := rg_ltA t37_2 r31_1001 r36_2 (by decide)
              refine lv_lload_n hx hb dX16_bytes_40 rfl (lv_at hl 3 rfl) ?_
              refine lv_bipush (v := 8) hx hb dX16_bytes_41 (by decide) ?_
              refine lv_lshl hx hb dX16_bytes_43 rfl ?_
              refine lv_topl (fun z43_1 ez43_1 => ?_)
              refine lv_iload hx hb dX16_bytes_44 (lv_at hl 4 rfl) ?_
              refine lv_aload_n hx hb dX16_bytes_46 rfl (lv_at hl 0 rfl) ?_
              refine va_get (D := D) (ci := 16) (v := .ref upl_) (C := RX16) (T := TX16) (N := 78) hx hb (htX16 hn) (fun _ h => h) hown hK hP 2 rfl rfl 3 (by decide) (hn.get mw_1542 rfl) (fun _ h9 => h9) hf_mm_3 dX16_bytes_47 ?_
              refine lv_iload_n hx hb dX16_bytes_50 rfl (lv_at hl 1 rfl) ?_
              have hi51_1 : vp_in v0 16 := (in_rg r26_1 (by decide))
              refine va_iald hx hb hK hP 0 1 rfl rfl hi51_1 dX16_bytes_51 ?_
              refine lv_topi (fun z51_2 ez51_2 => ?_)
              obtain rfl : z18_2 = z51_2 := ez18_2.trans ez51_2.symm
              have b72 : ∀ (j72_s0 : Int32) (H : Heap) (locs : List Loc) (ls : Array Slot), (rg j72_s0 0 255) → lv_has ls 6 [(0, .ref mm), (1, .int v0), (2, .int v1), (5, .int j31_l5)] → va_P D vwCl [(upl_, .inl (ct 1, 16, .inl g_upl_)), (upb, .inl (ct 1, 4096, .inl g_upb)), (mm, .inr (16, fs_mm))] H → va_D A [(upl_, .inl (ct 1, 16, .inl g_upl_)), (upb, .inl (ct 1, 4096, .inl g_upb)), (mm, .inr (16, fs_mm))] → va_S A s.heap H locs → W p l e ({ frames := 2, cells := 0, slots := 0, locals := 41 }) s m [.ref mm, .int v0, .int v1].toArray below meth c H locs 0 0 Q (F0 m 72 ls [.int j72_s0, .long z43_1]) := by
                intro j72_s0 H locs ls r72_1001 hl hP hD hS
                refine lv_i2l hx hb dX16_bytes_72 rfl ?_
                refine lv_topl (fun z72_1 ez72_1 => ?_)
                have r72_2 : rl z72_1 0 255 := rl_i2l ez72_1 r72_1001
                refine lv_lor hx hb dX16_bytes_73 ?_
                refine lv_topl (fun z73_1 ez73_1 => ?_)
                refine lv_lstore_n (lv' := [(3, .long z73_1), (0, .ref mm), (1, .int v0), (2, .int v1), (5, .int j31_l5)]) hx hb dX16_bytes_74 rfl hl (by decide) rfl (fun ls hl => ?_)
                obtain ⟨x75_1, ex75_1⟩ : ∃ z : Int32, z = j31_l5 + 1 := ⟨_, rfl⟩
                have r75_2 : rg x75_1 1 263 := rg_add ex75_1 r37_3 (show rg (1 : Int32) 1 1 from rg_l (by decide)) (by decide)
                refine lv_iinc (v := x75_1) (lv' := [(5, .int x75_1), (3, .long z73_1), (0, .ref mm), (1, .int v0), (2, .int v1)]) hx hb dX16_bytes_75 hl (k := 4) rfl (by rw [ex75_1]; rfl) (by decide) rfl (fun ls hl => ?_)
                refine lv_goto (tgt := 31) hx hb dX16_bytes_78 (by decide) ?_
                exact ih z73_1 x75_1 H locs ls (rg_w r75_2 (by decide)) (show ((2147483647 : Int) - x75_1.toInt).toNat < n by have q0 := r37_3.2; have q1 := (eq_add ex75_1 r37_3 (show rg (1 : Int32) 1 1 from rg_l (by decide)) (by decide)); have q2 := (show (1 : Int32).toInt = 1 from by decide); have q3 := hms; omega) (lv_sub hl [2, 3, 4, 1, 0] rfl) hP hD hS
              refine lv_icmp_ge (tgt := 71) hx hb dX16_bytes_52 (by decide) (fun c52_1 => ?_) (fun c52_1 => ?_)
              · have t52_2 := FF.mk (i_le c52_1)
                have r52_3 : rg j31_l5 1 262 := rg_leB t52_2 r19_4 r37_3 (by decide)
                refine lv_iconst (v := 0) hx hb dX16_bytes_71 (by decide) ?_
                exact b72 (0 : Int32) H locs ls (rg_w (show rg (0 : Int32) 0 0 from rg_l (by decide)) (by decide)) (lv_sub hl [0, 1, 2, 4] rfl) hP hD hS
              · have t52_2 := FF.mk (i_nle c52_1)
                have r52_3 : rg j31_l5 0 255 := rg_ltA t52_2 r37_3 r19_4 (by decide)
                refine lv_aload_n hx hb dX16_bytes_55 rfl (lv_at hl 0 rfl) ?_
                refine va_get (D := D) (ci := 16) (v := .ref upb) (C := RX16) (T := TX16) (N := 78) hx hb (htX16 hn) (fun _ h => h) hown hK hP 2 rfl rfl 2 (by decide) (hn.get mw_1541 rfl) (fun _ h9 => h9) hf_mm_2 dX16_bytes_56 ?_
                refine lv_sipush (v := 256) hx hb dX16_bytes_59 (by decide) ?_
                refine lv_iload_n hx hb dX16_bytes_62 rfl (lv_at hl 1 rfl) ?_
                refine lv_imul hx hb dX16_bytes_63 ?_
                refine lv_topi (fun z63_1 ez63_1 => ?_)
                have r63_2 : rg z63_1 0 3840 := rg_mul ez63_1 (show rg (256 : Int32) 256 256 from rg_l (by decide)) r26_1 (by decide)
                refine lv_iload hx hb dX16_bytes_64 (lv_at hl 4 rfl) ?_
                refine lv_iadd hx hb dX16_bytes_66 ?_
                refine lv_topi (fun z66_1 ez66_1 => ?_)
                have r66_2 : rg z66_1 0 4095 := rg_add ez66_1 r63_2 r52_3 (by decide)
                have hi67_1 : vp_in z66_1 4096 := (in_rg r66_2 (by decide))
                refine va_iald hx hb hK hP 1 1 rfl rfl hi67_1 dX16_bytes_67 ?_
                refine lv_topi (fun z67_2 ez67_2 => ?_)
                have r67_3 : rg z67_2 0 255 := Rg_at h_g_upb hi67_1 ez67_2
                refine lv_goto (tgt := 72) hx hb dX16_bytes_68 (by decide) ?_
                exact b72 z67_2 H locs ls r67_3 (lv_sub hl [0, 1, 2, 4] rfl) hP hD hS
        exact b31 _ (0 : Int64) v1 H locs ls (rg_w r19_3 (by decide)) (Nat.lt_succ_self _) (lv_sub hl [2, 3, 4, 1, 0] rfl) hP hD hS
      · have t19_2 := FF.mk (i_nlt c19_1)
        refine lv_ldc2 (v := (-1)) hx hb hown (hn.get mw_1798 rfl) dX16_bytes_22 ?_
        exact endq_l hQ hx hb hr hlocks dX16_bytes_25 () trivial hP hD hS [2, 0, 1] rfl (by decide) rfl (Nat.le_of_ble_eq_true rfl) (Nat.le_of_ble_eq_true rfl)
set_option maxHeartbeats 2000000 in
theorem c_X16_readAt (l : Launch) (D : va_G) (ct : Nat → ClassId) (mm : Nat) (v0 : Int32) (v1 : Int64) (v2 : Int32) (fs_mm : List Value) (upb : Nat) (upl_ : Nat) (g_upl_ : Nat → Int32) (g_upb : Nat → Int32) (h_v0 : rg v0 0 15) (h_v1 : rl v1 0 8589934592) (h_v2 : rg v2 0 8) (hlen_mm : fs_mm.length = 78) (hf_mm_2 : fs_mm[2]? = some (.ref upb)) (hf_mm_3 : fs_mm[3]? = some (.ref upl_)) (h_g_upl_ : Rg g_upl_ 16 0 256) (h_g_upb : Rg g_upb 4096 0 255) : KL (S := Unit) l yX16_readAt cX16_readAt 8 (some .long) 1 20 D ct [.ref mm, .int v0, .long v1, .int v2] [(mm, .inr (16, fs_mm)), (upl_, .inl (ct 1, 16, .inl g_upl_)), (upb, .inl (ct 1, 4096, .inl g_upb))] 0 0 (fun (r : Int64) (_ : Unit) => True) (fun (_ : Unit) => [(mm, .inr (16, fs_mm)), (upl_, .inl (ct 1, 16, .inl g_upl_)), (upb, .inl (ct 1, 4096, .inl g_upb))]) := by
  refine KLq_of (by decide) (Nat.le_of_ble_eq_true rfl) (fun p e s m below meth c A Q C0 hA H locs hS hP hD hQ ls hl => ?_)
  obtain ⟨hx, hb, hr, hown, hin, hml, hlocks, hn, hK, hZ, hSK⟩ := C0
  have hl : lv_has ls 8 [(0, .ref mm), (1, .int v0), (2, .long v1), (4, .int v2)] := hl
  refine lv_lload_n hx hb dX16_readAt_0 rfl (lv_at hl 2 rfl) ?_
  refine lv_iload hx hb dX16_readAt_1 (lv_at hl 3 rfl) ?_
  refine lv_i2l hx hb dX16_readAt_3 rfl ?_
  refine lv_topl (fun z3_1 ez3_1 => ?_)
  have r3_2 : rl z3_1 0 8 := rl_i2l ez3_1 h_v2
  refine lv_ladd hx hb dX16_readAt_4 ?_
  refine lv_topl (fun z4_1 ez4_1 => ?_)
  have r4_2 : rl z4_1 0 8589934600 := rgL_add ez4_1 h_v1 r3_2 (by decide)
  refine lv_aload_n hx hb dX16_readAt_5 rfl (lv_at hl 0 rfl) ?_
  refine va_get (D := D) (ci := 16) (v := .ref upl_) (C := RX16) (T := TX16) (N := 78) hx hb (htX16 hn) (fun _ h => h) hown hK hP 0 rfl rfl 3 (by decide) (hn.get mw_1542 rfl) (fun _ h9 => h9) hf_mm_3 dX16_readAt_6 ?_
  refine lv_iload_n hx hb dX16_readAt_9 rfl (lv_at hl 1 rfl) ?_
  have hi10_1 : vp_in v0 16 := (in_rg h_v0 (by decide))
  refine va_iald hx hb hK hP 1 1 rfl rfl hi10_1 dX16_readAt_10 ?_
  refine lv_topi (fun z10_2 ez10_2 => ?_)
  have r10_3 : rg z10_2 0 256 := Rg_at h_g_upl_ hi10_1 ez10_2
  refine lv_i2l hx hb dX16_readAt_11 rfl ?_
  refine lv_topl (fun z11_1 ez11_1 => ?_)
  have r11_2 : rl z11_1 0 256 := rl_i2l ez11_1 r10_3
  refine W.lcmp hx hb dX16_readAt_12 ?_
  refine lv_topi (fun z12_1 ez12_1 => ?_)
  refine lv_if_le (tgt := 20) hx hb dX16_readAt_13 (by decide) (fun c13_1 => ?_) (fun c13_1 => ?_)
  · have t13_2 := FF.mk (l_le ez12_1 c13_1)
    have r13_3 : rl z4_1 0 256 := rl_leA t13_2 r4_2 r11_2 (by decide)
    have r20_1 : rl v1 0 256 := (rl_of (show 0 ≤ v1.toInt ∧ v1.toInt ≤ 256 by have q0 := h_v1.1; have q1 := r13_3.2; have q2 := (eqL_add ez4_1 h_v1 r3_2 (by decide)); have q3 := r3_2.1; omega))
    refine lv_lconst (v := 0) hx hb dX16_readAt_20 (by decide) ?_
    refine lv_lstore (lv' := [(5, .long 0), (0, .ref mm), (1, .int v0), (2, .long v1), (4, .int v2)]) hx hb dX16_readAt_21 hl (by decide) rfl (fun ls hl => ?_)
    refine lv_iconst (v := 0) hx hb dX16_readAt_23 (by decide) ?_
    refine lv_istore (lv' := [(7, .int 0), (5, .long 0), (0, .ref mm), (1, .int v0), (2, .long v1), (4, .int v2)]) hx hb dX16_readAt_24 hl (by decide) rfl (fun ls hl => ?_)
    have b26 : ∀ (n : Nat) (j26_l5 : Int64) (j26_l7 : Int32) (H : Heap) (locs : List Loc) (ls : Array Slot), (rg j26_l7 0 8) → ((2147483647 : Int) - j26_l7.toInt).toNat < n → lv_has ls 8 [(0, .ref mm), (1, .int v0), (2, .long v1), (4, .int v2), (5, .long j26_l5), (7, .int j26_l7)] → va_P D vwCl [(mm, .inr (16, fs_mm)), (upl_, .inl (ct 1, 16, .inl g_upl_)), (upb, .inl (ct 1, 4096, .inl g_upb))] H → va_D A [(mm, .inr (16, fs_mm)), (upl_, .inl (ct 1, 16, .inl g_upl_)), (upb, .inl (ct 1, 4096, .inl g_upb))] → va_S A s.heap H locs → W p l e ({ frames := 1, cells := 0, slots := 0, locals := 20 }) s m [.ref mm, .int v0, .long v1, .int v2].toArray below meth c H locs 0 0 Q (F0 m 26 ls []) := by
      intro n
      induction n with
      | zero => intros; rename_i hms _ _ _ _; exact absurd hms (Nat.not_lt_zero _)
      | succ n ih =>
        intro j26_l5 j26_l7 H locs ls r26_1001 hms hl hP hD hS
        refine lv_iload hx hb dX16_readAt_26 (lv_at hl 5 rfl) ?_
        refine lv_iload hx hb dX16_readAt_28 (lv_at hl 3 rfl) ?_
        refine lv_icmp_ge (tgt := 64) hx hb dX16_readAt_30 (by decide) (fun c30_1 => ?_) (fun c30_1 => ?_)
        · have t30_2 := FF.mk (i_le c30_1)
          refine lv_lload hx hb dX16_readAt_64 (lv_at hl 4 rfl) ?_
          exact endq_l hQ hx hb hr hlocks dX16_readAt_66 () trivial hP hD hS [0, 1, 2] rfl (by decide) rfl (Nat.le_of_ble_eq_true rfl) (Nat.le_of_ble_eq_true rfl)
        · have t30_2 := FF.mk (i_nle c30_1)
          have r30_3 : rg j26_l7 0 7 := rg_ltA t30_2 r26_1001 h_v2 (by decide)
          have r30_4 : rg v2 1 8 := rg_ltB t30_2 r26_1001 h_v2 (by decide)
          refine lv_lload hx hb dX16_readAt_33 (lv_at hl 4 rfl) ?_
          refine lv_bipush (v := 8) hx hb dX16_readAt_35 (by decide) ?_
          refine lv_lshl hx hb dX16_readAt_37 rfl ?_
          refine lv_topl (fun z37_1 ez37_1 => ?_)
          refine lv_aload_n hx hb dX16_readAt_38 rfl (lv_at hl 0 rfl) ?_
          refine va_get (D := D) (ci := 16) (v := .ref upb) (C := RX16) (T := TX16) (N := 78) hx hb (htX16 hn) (fun _ h => h) hown hK hP 0 rfl rfl 2 (by decide) (hn.get mw_1541 rfl) (fun _ h9 => h9) hf_mm_2 dX16_readAt_39 ?_
          refine lv_sipush (v := 256) hx hb dX16_readAt_42 (by decide) ?_
          refine lv_iload_n hx hb dX16_readAt_45 rfl (lv_at hl 1 rfl) ?_
          refine lv_imul hx hb dX16_readAt_46 ?_
          refine lv_topi (fun z46_1 ez46_1 => ?_)
          have r46_2 : rg z46_1 0 3840 := rg_mul ez46_1 (show rg (256 : Int32) 256 256 from rg_l (by decide)) h_v0 (by decide)
          refine lv_lload_n hx hb dX16_readAt_47 rfl (lv_at hl 2 rfl) ?_
          refine lv_l2i hx hb dX16_readAt_48 rfl ?_
          refine lv_topi (fun z48_1 ez48_1 => ?_)
          have r48_2 : rg z48_1 0 256 := rg_l2i ez48_1 r20_1 (by decide)
          refine lv_iadd hx hb dX16_readAt_49 ?_
          refine lv_topi (fun z49_1 ez49_1 => ?_)
          have r49_2 : rg z49_1 0 4096 := rg_add ez49_1 r46_2 r48_2 (by decide)
          refine lv_iload hx hb dX16_readAt_50 (lv_at hl 5 rfl) ?_
          refine lv_iadd hx hb dX16_readAt_52 ?_
          refine lv_topi (fun z52_1 ez52_1 => ?_)
          have r52_2 : rg z52_1 0 4103 := rg_add ez52_1 r49_2 r30_3 (by decide)
          have hi53_1 : vp_in z52_1 4096 := (in_of (show 0 ≤ z52_1.toInt ∧ z52_1.toInt < 4096 by have q0 := (eq_add ez52_1 r49_2 r30_3 (by decide)); have q1 := r30_3.1; have q2 := (eq_add ez49_1 r46_2 r48_2 (by decide)); have q3 := (eq_l2i ez48_1 r20_1 (by decide)); have q4 := r20_1.1; have q5 := (eq_mull ez46_1 (show rg (256 : Int32) 256 256 from rg_l (by decide)) h_v0 (by decide)); have q6 := h_v0.1; have q7 := h_v0.2; have q8 := r13_3.2; have q9 := (eqL_add ez4_1 h_v1 r3_2 (by decide)); have q10 := (eq_i2l ez3_1); have q11 := FF.out t30_2; omega))
          refine va_iald hx hb hK hP 2 1 rfl rfl hi53_1 dX16_readAt_53 ?_
          refine lv_topi (fun z53_2 ez53_2 => ?_)
          have r53_3 : rg z53_2 0 255 := Rg_at h_g_upb hi53_1 ez53_2
          refine lv_i2l hx hb dX16_readAt_54 rfl ?_
          refine lv_topl (fun z54_1 ez54_1 => ?_)
          have r54_2 : rl z54_1 0 255 := rl_i2l ez54_1 r53_3
          refine lv_lor hx hb dX16_readAt_55 ?_
          refine lv_topl (fun z55_1 ez55_1 => ?_)
          refine lv_lstore (lv' := [(5, .long z55_1), (0, .ref mm), (1, .int v0), (2, .long v1), (4, .int v2), (7, .int j26_l7)]) hx hb dX16_readAt_56 hl (by decide) rfl (fun ls hl => ?_)
          obtain ⟨x58_1, ex58_1⟩ : ∃ z : Int32, z = j26_l7 + 1 := ⟨_, rfl⟩
          have r58_2 : rg x58_1 1 8 := rg_add ex58_1 r30_3 (show rg (1 : Int32) 1 1 from rg_l (by decide)) (by decide)
          refine lv_iinc (v := x58_1) (lv' := [(7, .int x58_1), (5, .long z55_1), (0, .ref mm), (1, .int v0), (2, .long v1), (4, .int v2)]) hx hb dX16_readAt_58 hl (k := 5) rfl (by rw [ex58_1]; rfl) (by decide) rfl (fun ls hl => ?_)
          refine lv_goto (tgt := 26) hx hb dX16_readAt_61 (by decide) ?_
          exact ih z55_1 x58_1 H locs ls (rg_w r58_2 (by decide)) (show ((2147483647 : Int) - x58_1.toInt).toNat < n by have q0 := r30_3.2; have q1 := (eq_add ex58_1 r30_3 (show rg (1 : Int32) 1 1 from rg_l (by decide)) (by decide)); have q2 := (show (1 : Int32).toInt = 1 from by decide); have q3 := hms; omega) (lv_sub hl [2, 3, 4, 5, 1, 0] rfl) hP hD hS
    exact b26 _ (0 : Int64) (0 : Int32) H locs ls (rg_w (show rg (0 : Int32) 0 0 from rg_l (by decide)) (by decide)) (Nat.lt_succ_self _) (lv_sub hl [2, 3, 4, 5, 1, 0] rfl) hP hD hS
  · have t13_2 := FF.mk (l_nle ez12_1 c13_1)
    have r13_3 : rl z4_1 1 8589934600 := rl_ltB t13_2 r11_2 r4_2 (by decide)
    refine lv_ldc2 (v := (-1)) hx hb hown (hn.get mw_1798 rfl) dX16_readAt_16 ?_
    exact endq_l hQ hx hb hr hlocks dX16_readAt_19 () trivial hP hD hS [0, 1, 2] rfl (by decide) rfl (Nat.le_of_ble_eq_true rfl) (Nat.le_of_ble_eq_true rfl)
set_option maxHeartbeats 2000000 in
theorem c_X16_isDigit (l : Launch) (D : va_G) (ct : Nat → ClassId) (v0 : Int32)  : KI (S := Unit) l yX16_isDigit cX16_isDigit 1 (some .boolean) 1 20 D ct [.int v0] [] 0 0 (fun (r : Int32) (_ : Unit) => rg r 0 1) (fun (_ : Unit) => []) := by
  refine KIq_of (by decide) (Nat.le_of_ble_eq_true rfl) (fun p e s m below meth c A Q C0 hA H locs hS hP hD hQ ls hl => ?_)
  obtain ⟨hx, hb, hr, hown, hin, hml, hlocks, hn, hK, hZ, hSK⟩ := C0
  have hl : lv_has ls 1 [(0, .int v0)] := hl
  refine lv_iload_n hx hb dX16_isDigit_0 rfl (lv_at hl 0 rfl) ?_
  refine lv_bipush (v := 48) hx hb dX16_isDigit_1 (by decide) ?_
  refine lv_icmp_lt (tgt := 16) hx hb dX16_isDigit_3 (by decide) (fun c3_1 => ?_) (fun c3_1 => ?_)
  · have t3_2 := FF.mk (i_lt c3_1)
    have r3_3 : rg v0 (-2147483648) 47 := rg_ltA t3_2 (rg_any v0) (show rg (48 : Int32) 48 48 from rg_l (by decide)) (by decide)
    refine lv_iconst (v := 0) hx hb dX16_isDigit_16 (by decide) ?_
    exact endq_i hQ hx hb hr hlocks dX16_isDigit_17 (by decide) () (rg_w (show rg (0 : Int32) 0 0 from rg_l (by decide)) (by decide)) hP hD hS [] rfl (by decide) rfl (Nat.le_of_ble_eq_true rfl) (Nat.le_of_ble_eq_true rfl)
  · have t3_2 := FF.mk (i_nlt c3_1)
    have r3_3 : rg v0 48 2147483647 := rg_leB t3_2 (show rg (48 : Int32) 48 48 from rg_l (by decide)) (rg_any v0) (by decide)
    refine lv_iload_n hx hb dX16_isDigit_6 rfl (lv_at hl 0 rfl) ?_
    refine lv_bipush (v := 57) hx hb dX16_isDigit_7 (by decide) ?_
    refine lv_icmp_gt (tgt := 16) hx hb dX16_isDigit_9 (by decide) (fun c9_1 => ?_) (fun c9_1 => ?_)
    · have t9_2 := FF.mk (i_lt c9_1)
      have r9_3 : rg v0 58 2147483647 := rg_ltB t9_2 (show rg (57 : Int32) 57 57 from rg_l (by decide)) r3_3 (by decide)
      refine lv_iconst (v := 0) hx hb dX16_isDigit_16 (by decide) ?_
      exact endq_i hQ hx hb hr hlocks dX16_isDigit_17 (by decide) () (rg_w (show rg (0 : Int32) 0 0 from rg_l (by decide)) (by decide)) hP hD hS [] rfl (by decide) rfl (Nat.le_of_ble_eq_true rfl) (Nat.le_of_ble_eq_true rfl)
    · have t9_2 := FF.mk (i_nlt c9_1)
      have r9_3 : rg v0 48 57 := rg_leA t9_2 r3_3 (show rg (57 : Int32) 57 57 from rg_l (by decide)) (by decide)
      refine lv_iconst (v := 1) hx hb dX16_isDigit_12 (by decide) ?_
      refine lv_goto (tgt := 17) hx hb dX16_isDigit_13 (by decide) ?_
      exact endq_i hQ hx hb hr hlocks dX16_isDigit_17 (by decide) () (rg_w (show rg (1 : Int32) 1 1 from rg_l (by decide)) (by decide)) hP hD hS [] rfl (by decide) rfl (Nat.le_of_ble_eq_true rfl) (Nat.le_of_ble_eq_true rfl)
set_option maxHeartbeats 2000000 in
theorem c_X16_dOf (l : Launch) (D : va_G) (ct : Nat → ClassId) (v0 : Int64)  : KI (S := Unit) l yX16_dOf cX16_dOf 2 (some .int) 1 20 D ct [.long v0] [] 0 0 (fun (r : Int32) (_ : Unit) => rg r 0 15 ∧ (r.toInt = (v0.toInt / 256) % 16)) (fun (_ : Unit) => []) := by
  refine KIq_of (by decide) (Nat.le_of_ble_eq_true rfl) (fun p e s m below meth c A Q C0 hA H locs hS hP hD hQ ls hl => ?_)
  obtain ⟨hx, hb, hr, hown, hin, hml, hlocks, hn, hK, hZ, hSK⟩ := C0
  have hl : lv_has ls 2 [(0, .long v0)] := hl
  refine lv_lload_n hx hb dX16_dOf_0 rfl (lv_at hl 0 rfl) ?_
  refine lv_bipush (v := 8) hx hb dX16_dOf_1 (by decide) ?_
  refine lv_lshr hx hb dX16_dOf_3 rfl ?_
  refine lv_topl (fun z3_1 ez3_1 => ?_)
  have r3_2 : rl z3_1 (-36028797018963968) 36028797018963967 := (rl_of (show (-36028797018963968) ≤ z3_1.toInt ∧ z3_1.toInt ≤ 36028797018963967 by have q0 := (rl_any z3_1).1; have q1 := (rl_any z3_1).2; have q2 := (eqL_shr (c := 256) (k := 8) ez3_1 (by decide) (by decide)); have q3 := (rl_any v0).1; have q4 := (rl_any v0).2; omega))
  refine lv_l2i hx hb dX16_dOf_4 rfl ?_
  refine lv_topi (fun z4_1 ez4_1 => ?_)
  refine lv_bipush (v := 15) hx hb dX16_dOf_5 (by decide) ?_
  refine lv_iand hx hb dX16_dOf_7 ?_
  refine lv_topi (fun z7_1 ez7_1 => ?_)
  have r7_2 : rg z7_1 0 15 := rg_andr ez7_1 (show rg (15 : Int32) 15 15 from rg_l (by decide)) (by decide)
  exact endq_i hQ hx hb hr hlocks dX16_dOf_8 rfl () ⟨r7_2, (show z7_1.toInt = (v0.toInt / 256) % 16 by have q0 := (rl_any v0).1; have q1 := (rl_any v0).2; have q2 := r7_2.1; have q3 := r7_2.2; have q4 := (eq_and (c := 16) (k := 4) ez7_1 (by decide) (by decide)); have q5 := (rg_any z4_1).1; have q6 := (rg_any z4_1).2; have q7 := (em_l2i ez4_1); have q8 := r3_2.1; have q9 := r3_2.2; have q10 := (eqL_shr (c := 256) (k := 8) ez3_1 (by decide) (by decide)); omega)⟩ hP hD hS [] rfl (by decide) rfl (Nat.le_of_ble_eq_true rfl) (Nat.le_of_ble_eq_true rfl)
set_option maxHeartbeats 2000000 in
theorem c_X16_sOf (l : Launch) (D : va_G) (ct : Nat → ClassId) (v0 : Int64)  : KI (S := Unit) l yX16_sOf cX16_sOf 2 (some .int) 1 20 D ct [.long v0] [] 0 0 (fun (r : Int32) (_ : Unit) => rg r 0 15 ∧ (r.toInt = (v0.toInt / 4096) % 16)) (fun (_ : Unit) => []) := by
  refine KIq_of (by decide) (Nat.le_of_ble_eq_true rfl) (fun p e s m below meth c A Q C0 hA H locs hS hP hD hQ ls hl => ?_)
  obtain ⟨hx, hb, hr, hown, hin, hml, hlocks, hn, hK, hZ, hSK⟩ := C0
  have hl : lv_has ls 2 [(0, .long v0)] := hl
  refine lv_lload_n hx hb dX16_sOf_0 rfl (lv_at hl 0 rfl) ?_
  refine lv_bipush (v := 12) hx hb dX16_sOf_1 (by decide) ?_
  refine lv_lshr hx hb dX16_sOf_3 rfl ?_
  refine lv_topl (fun z3_1 ez3_1 => ?_)
  have r3_2 : rl z3_1 (-2251799813685248) 2251799813685247 := (rl_of (show (-2251799813685248) ≤ z3_1.toInt ∧ z3_1.toInt ≤ 2251799813685247 by have q0 := (rl_any z3_1).1; have q1 := (rl_any z3_1).2; have q2 := (eqL_shr (c := 4096) (k := 12) ez3_1 (by decide) (by decide)); have q3 := (rl_any v0).1; have q4 := (rl_any v0).2; omega))
  refine lv_l2i hx hb dX16_sOf_4 rfl ?_
  refine lv_topi (fun z4_1 ez4_1 => ?_)
  refine lv_bipush (v := 15) hx hb dX16_sOf_5 (by decide) ?_
  refine lv_iand hx hb dX16_sOf_7 ?_
  refine lv_topi (fun z7_1 ez7_1 => ?_)
  have r7_2 : rg z7_1 0 15 := rg_andr ez7_1 (show rg (15 : Int32) 15 15 from rg_l (by decide)) (by decide)
  exact endq_i hQ hx hb hr hlocks dX16_sOf_8 rfl () ⟨r7_2, (show z7_1.toInt = (v0.toInt / 4096) % 16 by have q0 := (rl_any v0).1; have q1 := (rl_any v0).2; have q2 := r7_2.1; have q3 := r7_2.2; have q4 := (eq_and (c := 16) (k := 4) ez7_1 (by decide) (by decide)); have q5 := (rg_any z4_1).1; have q6 := (rg_any z4_1).2; have q7 := (em_l2i ez4_1); have q8 := r3_2.1; have q9 := r3_2.2; have q10 := (eqL_shr (c := 4096) (k := 12) ez3_1 (by decide) (by decide)); omega)⟩ hP hD hS [] rfl (by decide) rfl (Nat.le_of_ble_eq_true rfl) (Nat.le_of_ble_eq_true rfl)
set_option maxHeartbeats 2000000 in
theorem c_X16_codeOf (l : Launch) (D : va_G) (ct : Nat → ClassId) (v0 : Int64)  : KI (S := Unit) l yX16_codeOf cX16_codeOf 2 (some .int) 1 20 D ct [.long v0] [] 0 0 (fun (r : Int32) (_ : Unit) => rg r 0 255 ∧ (r.toInt = v0.toInt % 256)) (fun (_ : Unit) => []) := by
  refine KIq_of (by decide) (Nat.le_of_ble_eq_true rfl) (fun p e s m below meth c A Q C0 hA H locs hS hP hD hQ ls hl => ?_)
  obtain ⟨hx, hb, hr, hown, hin, hml, hlocks, hn, hK, hZ, hSK⟩ := C0
  have hl : lv_has ls 2 [(0, .long v0)] := hl
  refine lv_lload_n hx hb dX16_codeOf_0 rfl (lv_at hl 0 rfl) ?_
  refine lv_ldc2 (v := 255) hx hb hown (hn.get mw_2157 rfl) dX16_codeOf_1 ?_
  refine lv_land hx hb dX16_codeOf_4 ?_
  refine lv_topl (fun z4_1 ez4_1 => ?_)
  have r4_2 : rl z4_1 0 255 := rgL_andr ez4_1 (show rl (255 : Int64) 255 255 from rl_l (by decide)) (by decide)
  refine lv_l2i hx hb dX16_codeOf_5 rfl ?_
  refine lv_topi (fun z5_1 ez5_1 => ?_)
  have r5_2 : rg z5_1 0 255 := rg_l2i ez5_1 r4_2 (by decide)
  exact endq_i hQ hx hb hr hlocks dX16_codeOf_6 rfl () ⟨r5_2, (show z5_1.toInt = v0.toInt % 256 by have q0 := (eq_l2i ez5_1 r4_2 (by decide)); have q1 := (eqL_and (c := 256) (k := 8) ez4_1 (by decide) (by decide)); omega)⟩ hP hD hS [] rfl (by decide) rfl (Nat.le_of_ble_eq_true rfl) (Nat.le_of_ble_eq_true rfl)
set_option maxHeartbeats 2000000 in
theorem c_X16_offOf (l : Launch) (D : va_G) (ct : Nat → ClassId) (v0 : Int64)  : KI (S := Unit) l yX16_offOf cX16_offOf 2 (some .int) 1 20 D ct [.long v0] [] 0 0 (fun (r : Int32) (_ : Unit) => rg r (-32768) 32767 ∧ (r.toInt = (v0.toInt / 65536 + 32768) % 65536 - 32768)) (fun (_ : Unit) => []) := by
  refine KIq_of (by decide) (Nat.le_of_ble_eq_true rfl) (fun p e s m below meth c A Q C0 hA H locs hS hP hD hQ ls hl => ?_)
  obtain ⟨hx, hb, hr, hown, hin, hml, hlocks, hn, hK, hZ, hSK⟩ := C0
  have hl : lv_has ls 2 [(0, .long v0)] := hl
  refine lv_lload_n hx hb dX16_offOf_0 rfl (lv_at hl 0 rfl) ?_
  refine lv_bipush (v := 16) hx hb dX16_offOf_1 (by decide) ?_
  refine lv_lshr hx hb dX16_offOf_3 rfl ?_
  refine lv_topl (fun z3_1 ez3_1 => ?_)
  have r3_2 : rl z3_1 (-140737488355328) 140737488355327 := (rl_of (show (-140737488355328) ≤ z3_1.toInt ∧ z3_1.toInt ≤ 140737488355327 by have q0 := (rl_any z3_1).1; have q1 := (rl_any z3_1).2; have q2 := (eqL_shr (c := 65536) (k := 16) ez3_1 (by decide) (by decide)); have q3 := (rl_any v0).1; have q4 := (rl_any v0).2; omega))
  refine lv_l2i hx hb dX16_offOf_4 rfl ?_
  refine lv_topi (fun z4_1 ez4_1 => ?_)
  refine lv_i2s hx hb dX16_offOf_5 rfl ?_
  refine lv_topi (fun z5_1 ez5_1 => ?_)
  have r5_2 : rg z5_1 (-32768) 32767 := rg_i2s ez5_1
  exact endq_i hQ hx hb hr hlocks dX16_offOf_6 rfl () ⟨r5_2, (show z5_1.toInt = (v0.toInt / 65536 + 32768) % 65536 - 32768 by have q0 := (rl_any v0).1; have q1 := (rl_any v0).2; have q2 := r5_2.1; have q3 := r5_2.2; have q4 := (eq_i2s ez5_1); have q5 := (rg_any z4_1).1; have q6 := (rg_any z4_1).2; have q7 := (em_l2i ez4_1); have q8 := r3_2.1; have q9 := r3_2.2; have q10 := (eqL_shr (c := 65536) (k := 16) ez3_1 (by decide) (by decide)); omega)⟩ hP hD hS [] rfl (by decide) rfl (Nat.le_of_ble_eq_true rfl) (Nat.le_of_ble_eq_true rfl)
set_option maxHeartbeats 2000000 in
theorem c_X16_isEnd (l : Launch) (D : va_G) (ct : Nat → ClassId) (v0 : Int32)  : KI (S := Unit) l yX16_isEnd cX16_isEnd 1 (some .boolean) 1 20 D ct [.int v0] [] 0 0 (fun (r : Int32) (_ : Unit) => rg r 0 1 ∧ (r.toInt = 1 → v0.toInt = 149) ∧ (r.toInt = 0 → v0.toInt ≠ 149)) (fun (_ : Unit) => []) := by
  refine KIq_of (by decide) (Nat.le_of_ble_eq_true rfl) (fun p e s m below meth c A Q C0 hA H locs hS hP hD hQ ls hl => ?_)
  obtain ⟨hx, hb, hr, hown, hin, hml, hlocks, hn, hK, hZ, hSK⟩ := C0
  have hl : lv_has ls 1 [(0, .int v0)] := hl
  refine lv_iload_n hx hb dX16_isEnd_0 rfl (lv_at hl 0 rfl) ?_
  refine lv_sipush (v := 149) hx hb dX16_isEnd_1 (by decide) ?_
  refine lv_icmp_ne (tgt := 11) hx hb dX16_isEnd_4 (by decide) (fun c4_1 => ?_) (fun c4_1 => ?_)
  · have t4_2 := FF.mk (i_ne c4_1)
    refine lv_iconst (v := 0) hx hb dX16_isEnd_11 (by decide) ?_
    exact endq_i hQ hx hb hr hlocks dX16_isEnd_12 (by decide) () ⟨(rg_w (show rg (0 : Int32) 0 0 from rg_l (by decide)) (by decide)), (show (0 : Int32).toInt = 1 → v0.toInt = 149 by have q0 := (show (0 : Int32).toInt = 0 from by decide); omega), (show (0 : Int32).toInt = 0 → v0.toInt ≠ 149 by have q0 := FF.out t4_2; have q1 := (show (0 : Int32).toInt = 0 from by decide); have q2 := (show (149 : Int32).toInt = 149 from by decide); omega)⟩ hP hD hS [] rfl (by decide) rfl (Nat.le_of_ble_eq_true rfl) (Nat.le_of_ble_eq_true rfl)
  · have t4_2 := FF.mk (i_eq c4_1)
    have r4_3 : rg v0 149 149 := rg_eqA t4_2 (rg_any v0) (show rg (149 : Int32) 149 149 from rg_l (by decide)) (by decide)
    refine lv_iconst (v := 1) hx hb dX16_isEnd_7 (by decide) ?_
    refine lv_goto (tgt := 12) hx hb dX16_isEnd_8 (by decide) ?_
    exact endq_i hQ hx hb hr hlocks dX16_isEnd_12 (by decide) () ⟨(rg_w (show rg (1 : Int32) 1 1 from rg_l (by decide)) (by decide)), (show (1 : Int32).toInt = 1 → v0.toInt = 149 by have q0 := r4_3.1; have q1 := r4_3.2; have q2 := (show (1 : Int32).toInt = 1 from by decide); omega), (show (1 : Int32).toInt = 0 → v0.toInt ≠ 149 by have q0 := (show (1 : Int32).toInt = 1 from by decide); omega)⟩ hP hD hS [] rfl (by decide) rfl (Nat.le_of_ble_eq_true rfl) (Nat.le_of_ble_eq_true rfl)
set_option maxHeartbeats 2000000 in
theorem c_X16_isAlways (l : Launch) (D : va_G) (ct : Nat → ClassId) (v0 : Int32)  : KI (S := Unit) l yX16_isAlways cX16_isAlways 1 (some .boolean) 1 20 D ct [.int v0] [] 0 0 (fun (r : Int32) (_ : Unit) => rg r 0 1 ∧ (r.toInt = 1 → v0.toInt = 5) ∧ (r.toInt = 0 → v0.toInt ≠ 5)) (fun (_ : Unit) => []) := by
  refine KIq_of (by decide) (Nat.le_of_ble_eq_true rfl) (fun p e s m below meth c A Q C0 hA H locs hS hP hD hQ ls hl => ?_)
  obtain ⟨hx, hb, hr, hown, hin, hml, hlocks, hn, hK, hZ, hSK⟩ := C0
  have hl : lv_has ls 1 [(0, .int v0)] := hl
  refine lv_iload_n hx hb dX16_isAlways_0 rfl (lv_at hl 0 rfl) ?_
  refine lv_iconst (v := 5) hx hb dX16_isAlways_1 (by decide) ?_
  refine lv_icmp_ne (tgt := 9) hx hb dX16_isAlways_2 (by decide) (fun c2_1 => ?_) (fun c2_1 => ?_)
  · have t2_2 := FF.mk (i_ne c2_1)
    refine lv_iconst (v := 0) hx hb dX16_isAlways_9 (by decide) ?_
    exact endq_i hQ hx hb hr hlocks dX16_isAlways_10 (by decide) () ⟨(rg_w (show rg (0 : Int32) 0 0 from rg_l (by decide)) (by decide)), (show (0 : Int32).toInt = 1 → v0.toInt = 5 by have q0 := (show (0 : Int32).toInt = 0 from by decide); omega), (show (0 : Int32).toInt = 0 → v0.toInt ≠ 5 by have q0 := FF.out t2_2; have q1 := (show (0 : Int32).toInt = 0 from by decide); have q2 := (show (5 : Int32).toInt = 5 from by decide); omega)⟩ hP hD hS [] rfl (by decide) rfl (Nat.le_of_ble_eq_true rfl) (Nat.le_of_ble_eq_true rfl)
  · have t2_2 := FF.mk (i_eq c2_1)
    have r2_3 : rg v0 5 5 := rg_eqA t2_2 (rg_any v0) (show rg (5 : Int32) 5 5 from rg_l (by decide)) (by decide)
    refine lv_iconst (v := 1) hx hb dX16_isAlways_5 (by decide) ?_
    refine lv_goto (tgt := 10) hx hb dX16_isAlways_6 (by decide) ?_
    exact endq_i hQ hx hb hr hlocks dX16_isAlways_10 (by decide) () ⟨(rg_w (show rg (1 : Int32) 1 1 from rg_l (by decide)) (by decide)), (show (1 : Int32).toInt = 1 → v0.toInt = 5 by have q0 := r2_3.1; have q1 := r2_3.2; have q2 := (show (1 : Int32).toInt = 1 from by decide); omega), (show (1 : Int32).toInt = 0 → v0.toInt ≠ 5 by have q0 := (show (1 : Int32).toInt = 1 from by decide); omega)⟩ hP hD hS [] rfl (by decide) rfl (Nat.le_of_ble_eq_true rfl) (Nat.le_of_ble_eq_true rfl)
set_option maxHeartbeats 2000000 in
theorem c_X16_sortOf (l : Launch) (D : va_G) (ct : Nat → ClassId) (v0 : Int32) (h_v0 : rg v0 0 255) : KI (S := Unit) l yX16_sortOf cX16_sortOf 5 (some .int) 1 20 D ct [.int v0] [] 0 0 (fun (r : Int32) (_ : Unit) => rg r (-1) 6 ∧ (r.toInt = srt v0.toInt) ∧ (r.toInt = 5 ∨ r.toInt = 6 → (v0.toInt = 32 ∨ v0.toInt = 40 ∨ v0.toInt = 48 ∨ v0.toInt = 64 ∨ v0.toInt = 72 ∨ v0.toInt = 80)) ∧ (v0.toInt = 149 → r.toInt = 1)) (fun (_ : Unit) => []) := by
  refine KIq_of (by decide) (Nat.le_of_ble_eq_true rfl) (fun p e s m below meth c A Q C0 hA H locs hS hP hD hQ ls hl => ?_)
  obtain ⟨hx, hb, hr, hown, hin, hml, hlocks, hn, hK, hZ, hSK⟩ := C0
  have hl : lv_has ls 5 [(0, .int v0)] := hl
  refine lv_iload_n hx hb dX16_sortOf_0 rfl (lv_at hl 0 rfl) ?_
  refine lv_bipush (v := 7) hx hb dX16_sortOf_1 (by decide) ?_
  refine lv_iand hx hb dX16_sortOf_3 ?_
  refine lv_topi (fun z3_1 ez3_1 => ?_)
  have r3_2 : rg z3_1 0 7 := rg_andr ez3_1 (show rg (7 : Int32) 7 7 from rg_l (by decide)) (by decide)
  refine lv_istore_n (lv' := [(1, .int z3_1), (0, .int v0)]) hx hb dX16_sortOf_4 rfl hl (by decide) rfl (fun ls hl => ?_)
  refine lv_iload_n hx hb dX16_sortOf_5 rfl (lv_at hl 1 rfl) ?_
  refine lv_iconst (v := 4) hx hb dX16_sortOf_6 (by decide) ?_
  refine lv_ishr hx hb dX16_sortOf_7 ?_
  refine lv_topi (fun z7_1 ez7_1 => ?_)
  have r7_2 : rg z7_1 0 15 := rg_shr (k := 4) ez7_1 (by decide) h_v0 (by decide)
  refine lv_istore_n (lv' := [(2, .int z7_1), (1, .int z3_1), (0, .int v0)]) hx hb dX16_sortOf_8 rfl hl (by decide) rfl (fun ls hl => ?_)
  refine lv_iload_n hx hb dX16_sortOf_9 rfl (lv_at hl 2 rfl) ?_
  refine lv_bipush (v := 8) hx hb dX16_sortOf_10 (by decide) ?_
  refine lv_iand hx hb dX16_sortOf_12 ?_
  refine lv_topi (fun z12_1 ez12_1 => ?_)
  have r12_2 : rg z12_1 0 8 := rg_andr ez12_1 (show rg (8 : Int32) 8 8 from rg_l (by decide)) (by decide)
  have b21 : ∀ (j21_s0 : Int32) (H : Heap) (locs : List Loc) (ls : Array Slot), (rg j21_s0 0 1) → (FF (j21_s0.toInt = (v0.toInt / 8) % 2)) → lv_has ls 5 [(0, .int v0), (1, .int z3_1), (2, .int z7_1)] → va_P D vwCl [] H → va_D A [] → va_S A s.heap H locs → W p l e ({ frames := 1, cells := 0, slots := 0, locals := 20 }) s m [.int v0].toArray below meth c H locs 0 0 Q (F0 m 21 ls [.int j21_s0]) := by
    intro j21_s0 H locs ls r21_1001 hi21_1002 hl hP hD hS
    refine lv_istore_n (lv' := [(3, .int j21_s0), (0, .int v0), (1, .int z3_1), (2, .int z7_1)]) hx hb dX16_sortOf_21 rfl hl (by decide) rfl (fun ls hl => ?_)
    refine lv_iload_n hx hb dX16_sortOf_22 rfl (lv_at hl 2 rfl) ?_
    refine lv_bipush (v := 7) hx hb dX16_sortOf_23 (by decide) ?_
    have b33 : ∀  (H : Heap) (locs : List Loc) (ls : Array Slot), (FF (v0.toInt % 8 = 7 ∨ v0.toInt % 8 = 4)) → lv_has ls 5 [(2, .int z7_1), (3, .int j21_s0)] → va_P D vwCl [] H → va_D A [] → va_S A s.heap H locs → W p l e ({ frames := 1, cells := 0, slots := 0, locals := 20 }) s m [.int v0].toArray below meth c H locs 0 0 Q (F0 m 33 ls []) := by
      intro  H locs ls hi33_1001 hl hP hD hS
      refine lv_iload_n hx hb dX16_sortOf_33 rfl (lv_at hl 0 rfl) ?_
      refine lv_bipush (v := 12) hx hb dX16_sortOf_34 (by decide) ?_
      refine lv_icmp_gt (tgt := 49) hx hb dX16_sortOf_36 (by decide) (fun c36_1 => ?_) (fun c36_1 => ?_)
      · have t36_2 := FF.mk (i_lt c36_1)
        have r36_3 : rg z7_1 13 15 := rg_ltB t36_2 (show rg (12 : Int32) 12 12 from rg_l (by decide)) r7_2 (by decide)
        refine lv_iconst (v := (-1)) hx hb dX16_sortOf_49 (by decide) ?_
        refine lv_goto (tgt := 54) hx hb dX16_sortOf_50 (by decide) ?_
        exact endq_i hQ hx hb hr hlocks dX16_sortOf_54 rfl () ⟨(rg_w (show rg ((-1) : Int32) (-1) (-1) from rg_l (by decide)) (by decide)), (show (-1 : Int32).toInt = srt v0.toInt by have q0 := h_v0.1; have q1 := h_v0.2; have q2 := r21_1001.1; have q3 := r21_1001.2; have q4 := r36_3.1; have q5 := r36_3.2; have q6 := (eq_shr (c := 16) (k := 4) ez7_1 (by decide) (by decide)); have q7 := FF.out hi21_1002; have q8 := FF.out hi33_1001; have q9 := FF.out t36_2; have q10 := (eq_and (c := 8) (k := 3) ez3_1 (by decide) (by decide)); have q11 := (eq_andbit (c := 8) (k := 3) ez12_1 (by decide) h_v0 (by decide)); have q12 := (show (-1 : Int32).toInt = -1 from by decide); have q13 := (show (12 : Int32).toInt = 12 from by decide); unfold srt; (repeat' split) <;> omega), (show (-1 : Int32).toInt = 5 ∨ (-1 : Int32).toInt = 6 → (v0.toInt = 32 ∨ v0.toInt = 40 ∨ v0.toInt = 48 ∨ v0.toInt = 64 ∨ v0.toInt = 72 ∨ v0.toInt = 80) by have q0 := (show (-1 : Int32).toInt = -1 from by decide); omega), (show v0.toInt = 149 → (-1 : Int32).toInt = 1 by have q0 := r36_3.1; have q1 := (eq_shr (c := 16) (k := 4) ez7_1 (by decide) (by decide)); have q2 := (show (-1 : Int32).toInt = -1 from by decide); omega)⟩ hP hD hS [] rfl (by decide) rfl (Nat.le_of_ble_eq_true rfl) (Nat.le_of_ble_eq_true rfl)
      · have t36_2 := FF.mk (i_nlt c36_1)
        have r36_3 : rg z7_1 0 12 := rg_leA t36_2 r7_2 (show rg (12 : Int32) 12 12 from rg_l (by decide)) (by decide)
        refine lv_iload_n hx hb dX16_sortOf_39 rfl (lv_at hl 0 rfl) ?_
        refine lv_bipush (v := 8) hx hb dX16_sortOf_40 (by decide) ?_
        refine lv_icmp_ne (tgt := 53) hx hb dX16_sortOf_42 (by decide) (fun c42_1 => ?_) (fun c42_1 => ?_)
        · have t42_2 := FF.mk (i_ne c42_1)
          refine lv_iconst (v := 0) hx hb dX16_sortOf_53 (by decide) ?_
          exact endq_i hQ hx hb hr hlocks dX16_sortOf_54 rfl () ⟨(rg_w (show rg (0 : Int32) 0 0 from rg_l (by decide)) (by decide)), (show (0 : Int32).toInt = srt v0.toInt by have q0 := h_v0.1; have q1 := h_v0.2; have q2 := r21_1001.1; have q3 := r21_1001.2; have q4 := r36_3.1; have q5 := r36_3.2; have q6 := (eq_shr (c := 16) (k := 4) ez7_1 (by decide) (by decide)); have q7 := FF.out hi21_1002; have q8 := FF.out hi33_1001; have q9 := FF.out t36_2; have q10 := FF.out t42_2; have q11 := (eq_and (c := 8) (k := 3) ez3_1 (by decide) (by decide)); have q12 := (eq_andbit (c := 8) (k := 3) ez12_1 (by decide) h_v0 (by decide)); have q13 := (show (0 : Int32).toInt = 0 from by decide); have q14 := (show (12 : Int32).toInt = 12 from by decide); have q15 := (show (8 : Int32).toInt = 8 from by decide); unfold srt; (repeat' split) <;> omega), (show (0 : Int32).toInt = 5 ∨ (0 : Int32).toInt = 6 → (v0.toInt = 32 ∨ v0.toInt = 40 ∨ v0.toInt = 48 ∨ v0.toInt = 64 ∨ v0.toInt = 72 ∨ v0.toInt = 80) by have q0 := (show (0 : Int32).toInt = 0 from by decide); omega), (show v0.toInt = 149 → (0 : Int32).toInt = 1 by have q0 := FF.out hi33_1001; have q1 := (show (0 : Int32).toInt = 0 from by decide); omega)⟩ hP hD hS [] rfl (by decide) rfl (Nat.le_of_ble_eq_true rfl) (Nat.le_of_ble_eq_true rfl)
        · have t42_2 := FF.mk (i_eq c42_1)
          have r42_3 : rg z7_1 8 8 := rg_eqA t42_2 r36_3 (show rg (8 : Int32) 8 8 from rg_l (by decide)) (by decide)
          refine lv_iload_n hx hb dX16_sortOf_45 rfl (lv_at hl 1 rfl) ?_
          refine lv_if_eq (tgt := 53) hx hb dX16_sortOf_46 (by decide) (fun c46_1 => ?_) (fun c46_1 => ?_)
          · have t46_2 := FF.mk (i_eq c46_1)
            have r46_3 : rg j21_s0 0 0 := rg_eqA t46_2 r21_1001 (show rg (0 : Int32) 0 0 from rg_l (by decide)) (by decide)
            refine lv_iconst (v := 0) hx hb dX16_sortOf_53 (by decide) ?_
            exact endq_i hQ hx hb hr hlocks dX16_sortOf_54 rfl () ⟨(rg_w (show rg (0 : Int32) 0 0 from rg_l (by decide)) (by decide)), (show (0 : Int32).toInt = srt v0.toInt by have q0 := h_v0.1; have q1 := h_v0.2; have q2 := r46_3.1; have q3 := r46_3.2; have q4 := r42_3.1; have q5 := r42_3.2; have q6 := (eq_shr (c := 16) (k := 4) ez7_1 (by decide) (by decide)); have q7 := FF.out hi21_1002; have q8 := FF.out hi33_1001; have q9 := FF.out t36_2; have q10 := FF.out t42_2; have q11 := FF.out t46_2; have q12 := (eq_and (c := 8) (k := 3) ez3_1 (by decide) (by decide)); have q13 := (eq_andbit (c := 8) (k := 3) ez12_1 (by decide) h_v0 (by decide)); have q14 := (show (0 : Int32).toInt = 0 from by decide); have q15 := (show (12 : Int32).toInt = 12 from by decide); have q16 := (show (8 : Int32).toInt = 8 from by decide); unfold srt; (repeat' split) <;> omega), (show (0 : Int32).toInt = 5 ∨ (0 : Int32).toInt = 6 → (v0.toInt = 32 ∨ v0.toInt = 40 ∨ v0.toInt = 48 ∨ v0.toInt = 64 ∨ v0.toInt = 72 ∨ v0.toInt = 80) by have q0 := (show (0 : Int32).toInt = 0 from by decide); omega), (show v0.toInt = 149 → (0 : Int32).toInt = 1 by have q0 := r42_3.2; have q1 := (eq_shr (c := 16) (k := 4) ez7_1 (by decide) (by decide)); have q2 := (show (0 : Int32).toInt = 0 from by decide); omega)⟩ hP hD hS [] rfl (by decide) rfl (Nat.le_of_ble_eq_true rfl) (Nat.le_of_ble_eq_true rfl)
          · have t46_2 := FF.mk (i_ne c46_1)
            have r46_3 : rg j21_s0 1 1 := rg_neAl t46_2 r21_1001 (show rg (0 : Int32) 0 0 from rg_l (by decide)) (by decide)
            refine lv_iconst (v := (-1)) hx hb dX16_sortOf_49 (by decide) ?_
            refine lv_goto (tgt := 54) hx hb dX16_sortOf_50 (by decide) ?_
            exact endq_i hQ hx hb hr hlocks dX16_sortOf_54 rfl () ⟨(rg_w (show rg ((-1) : Int32) (-1) (-1) from rg_l (by decide)) (by decide)), (show (-1 : Int32).toInt = srt v0.toInt by have q0 := h_v0.1; have q1 := h_v0.2; have q2 := r46_3.1; have q3 := r46_3.2; have q4 := r42_3.1; have q5 := r42_3.2; have q6 := (eq_shr (c := 16) (k := 4) ez7_1 (by decide) (by decide)); have q7 := FF.out hi21_1002; have q8 := FF.out hi33_1001; have q9 := FF.out t36_2; have q10 := FF.out t42_2; have q11 := FF.out t46_2; have q12 := (eq_and (c := 8) (k := 3) ez3_1 (by decide) (by decide)); have q13 := (eq_andbit (c := 8) (k := 3) ez12_1 (by decide) h_v0 (by decide)); have q14 := (show (-1 : Int32).toInt = -1 from by decide); have q15 := (show (0 : Int32).toInt = 0 from by decide); have q16 := (show (12 : Int32).toInt = 12 from by decide); have q17 := (show (8 : Int32).toInt = 8 from by decide); unfold srt; (repeat' split) <;> omega), (show (-1 : Int32).toInt = 5 ∨ (-1 : Int32).toInt = 6 → (v0.toInt = 32 ∨ v0.toInt = 40 ∨ v0.toInt = 48 ∨ v0.toInt = 64 ∨ v0.toInt = 72 ∨ v0.toInt = 80) by have q0 := (show (-1 : Int32).toInt = -1 from by decide); omega), (show v0.toInt = 149 → (-1 : Int32).toInt = 1 by have q0 := r42_3.2; have q1 := (eq_shr (c := 16) (k := 4) ez7_1 (by decide) (by decide)); have q2 := (show (-1 : Int32).toInt = -1 from by decide); omega)⟩ hP hD hS [] rfl (by decide) rfl (Nat.le_of_ble_eq_true rfl) (Nat.le_of_ble_eq_true rfl)
    refine lv_icmp_eq (tgt := 33) hx hb dX16_sortOf_25 (by decide) (fun c25_1 => ?_) (fun c25_1 => ?_)
    · have t25_2 := FF.mk (i_eq c25_1)
      have r25_3 : rg z3_1 7 7 := rg_eqA t25_2 r3_2 (show rg (7 : Int32) 7 7 from rg_l (by decide)) (by decide)
      exact b33  H locs ls (show v0.toInt % 8 = 7 ∨ v0.toInt % 8 = 4 by have q0 := r25_3.1; have q1 := (eq_and (c := 8) (k := 3) ez3_1 (by decide) (by decide)); omega) (lv_sub hl [3, 0] rfl) hP hD hS
    · have t25_2 := FF.mk (i_ne c25_1)
      have r25_3 : rg z3_1 0 6 := rg_neAh t25_2 r3_2 (show rg (7 : Int32) 7 7 from rg_l (by decide)) (by decide)
      refine lv_iload_n hx hb dX16_sortOf_28 rfl (lv_at hl 2 rfl) ?_
      refine lv_iconst (v := 4) hx hb dX16_sortOf_29 (by decide) ?_
      refine lv_icmp_ne (tgt := 55) hx hb dX16_sortOf_30 (by decide) (fun c30_1 => ?_) (fun c30_1 => ?_)
      · have t30_2 := FF.mk (i_ne c30_1)
        refine lv_iload_n hx hb dX16_sortOf_55 rfl (lv_at hl 2 rfl) ?_
        refine lv_iconst (v := 5) hx hb dX16_sortOf_56 (by decide) ?_
        have b66 : ∀  (H : Heap) (locs : List Loc) (ls : Array Slot), (FF (v0.toInt % 8 = 5 ∨ v0.toInt % 8 = 6)) → lv_has ls 5 [(0, .int v0), (2, .int z7_1)] → va_P D vwCl [] H → va_D A [] → va_S A s.heap H locs → W p l e ({ frames := 1, cells := 0, slots := 0, locals := 20 }) s m [.int v0].toArray below meth c H locs 0 0 Q (F0 m 66 ls []) := by
          intro  H locs ls hi66_1001 hl hP hD hS
          refine lv_iload_n hx hb dX16_sortOf_66 rfl (lv_at hl 1 rfl) ?_
          have b121 : ∀ (j121_s0 : Int32) (H : Heap) (locs : List Loc) (ls : Array Slot), (rg j121_s0 0 1) → (FF (j121_s0.toInt = 1 → ((v0.toInt % 8 = 5 ∨ v0.toInt % 8 = 6) ∧ (v0.toInt / 16 = 0 → v0.toInt = 5) ∧ (v0.toInt / 16 = 9 → v0.toInt = 149) ∧ v0.toInt / 16 ≠ 8 ∧ v0.toInt / 16 < 14))) → (FF (((v0.toInt % 8 = 5 ∨ v0.toInt % 8 = 6) ∧ (v0.toInt / 16 = 0 → v0.toInt = 5) ∧ (v0.toInt / 16 = 9 → v0.toInt = 149) ∧ v0.toInt / 16 ≠ 8 ∧ v0.toInt / 16 < 14) → j121_s0.toInt = 1)) → lv_has ls 5 [] → va_P D vwCl [] H → va_D A [] → va_S A s.heap H locs → W p l e ({ frames := 1, cells := 0, slots := 0, locals := 20 }) s m [.int v0].toArray below meth c H locs 0 0 Q (F0 m 121 ls [.int j121_s0]) := by
            intro j121_s0 H locs ls r121_1001 hi121_1002 hi121_1003 hl hP hD hS
            refine lv_istore (lv' := [(4, .int j121_s0)]) hx hb dX16_sortOf_121 hl (by decide) rfl (fun ls hl => ?_)
            refine lv_iload hx hb dX16_sortOf_123 (lv_at hl 0 rfl) ?_
            refine lv_if_eq (tgt := 132) hx hb dX16_sortOf_125 (by decide) (fun c125_1 => ?_) (fun c125_1 => ?_)
            · have t125_2 := FF.mk (i_eq c125_1)
              have r125_3 : rg j121_s0 0 0 := rg_eqA t125_2 r121_1001 (show rg (0 : Int32) 0 0 from rg_l (by decide)) (by decide)
              refine lv_iconst (v := (-1)) hx hb dX16_sortOf_132 (by decide) ?_
              exact endq_i hQ hx hb hr hlocks dX16_sortOf_133 rfl () ⟨(rg_w (show rg ((-1) : Int32) (-1) (-1) from rg_l (by decide)) (by decide)), (show (-1 : Int32).toInt = srt v0.toInt by have q0 := h_v0.1; have q1 := h_v0.2; have q2 := r21_1001.1; have q3 := r21_1001.2; have q4 := r25_3.1; have q5 := r25_3.2; have q6 := (eq_and (c := 8) (k := 3) ez3_1 (by decide) (by decide)); have q7 := r125_3.1; have q8 := r125_3.2; have q9 := FF.out hi21_1002; have q10 := FF.out t25_2; have q11 := FF.out t30_2; have q12 := FF.out hi66_1001; have q13 := FF.out hi121_1002; have q14 := FF.out hi121_1003; have q15 := FF.out t125_2; have q16 := (eq_shr (c := 16) (k := 4) ez7_1 (by decide) (by decide)); have q17 := (eq_andbit (c := 8) (k := 3) ez12_1 (by decide) h_v0 (by decide)); have q18 := (show (-1 : Int32).toInt = -1 from by decide); have q19 := (show (0 : Int32).toInt = 0 from by decide); have q20 := (show (4 : Int32).toInt = 4 from by decide); have q21 := (show (7 : Int32).toInt = 7 from by decide); unfold srt; (repeat' split) <;> omega), (show (-1 : Int32).toInt = 5 ∨ (-1 : Int32).toInt = 6 → (v0.toInt = 32 ∨ v0.toInt = 40 ∨ v0.toInt = 48 ∨ v0.toInt = 64 ∨ v0.toInt = 72 ∨ v0.toInt = 80) by have q0 := (show (-1 : Int32).toInt = -1 from by decide); omega), (show v0.toInt = 149 → (-1 : Int32).toInt = 1 by have q0 := (show rg ((-1) : Int32) (-1) (-1) from rg_l (by decide)).1; have q1 := (show rg ((-1) : Int32) (-1) (-1) from rg_l (by decide)).2; have q2 := h_v0.1; have q3 := h_v0.2; have q4 := r21_1001.1; have q5 := r21_1001.2; have q6 := (show rg (7 : Int32) 7 7 from rg_l (by decide)).1; have q7 := (show rg (7 : Int32) 7 7 from rg_l (by decide)).2; have q8 := r25_3.1; have q9 := r25_3.2; have q10 := (eq_and (c := 8) (k := 3) ez3_1 (by decide) (by decide)); have q11 := (show rg (4 : Int32) 4 4 from rg_l (by decide)).1; have q12 := (show rg (4 : Int32) 4 4 from rg_l (by decide)).2; have q13 := r125_3.1; have q14 := r125_3.2; have q15 := (show rg (0 : Int32) 0 0 from rg_l (by decide)).1; have q16 := (show rg (0 : Int32) 0 0 from rg_l (by decide)).2; have q17 := FF.out hi21_1002; have q18 := FF.out t25_2; have q19 := FF.out t30_2; have q20 := FF.out hi66_1001; have q21 := FF.out hi121_1002; have q22 := FF.out hi121_1003; have q23 := FF.out t125_2; have q24 := (show (-1 : Int32).toInt = -1 from by decide); have q25 := (show (0 : Int32).toInt = 0 from by decide); have q26 := (show (4 : Int32).toInt = 4 from by decide); have q27 := (show (7 : Int32).toInt = 7 from by decide); omega)⟩ hP hD hS [] rfl (by decide) rfl (Nat.le_of_ble_eq_true rfl) (Nat.le_of_ble_eq_true rfl)
            · have t125_2 := FF.mk (i_ne c125_1)
              have r125_3 : rg j121_s0 1 1 := rg_neAl t125_2 r121_1001 (show rg (0 : Int32) 0 0 from rg_l (by decide)) (by decide)
              refine lv_iconst (v := 1) hx hb dX16_sortOf_128 (by decide) ?_
              refine lv_goto (tgt := 133) hx hb dX16_sortOf_129 (by decide) ?_
              exact endq_i hQ hx hb hr hlocks dX16_sortOf_133 rfl () ⟨(rg_w (show rg (1 : Int32) 1 1 from rg_l (by decide)) (by decide)), (show (1 : Int32).toInt = srt v0.toInt by have q0 := h_v0.1; have q1 := h_v0.2; have q2 := r21_1001.1; have q3 := r21_1001.2; have q4 := r25_3.1; have q5 := r25_3.2; have q6 := (eq_and (c := 8) (k := 3) ez3_1 (by decide) (by decide)); have q7 := r125_3.1; have q8 := r125_3.2; have q9 := FF.out hi21_1002; have q10 := FF.out t25_2; have q11 := FF.out t30_2; have q12 := FF.out hi66_1001; have q13 := FF.out hi121_1002; have q14 := FF.out hi121_1003; have q15 := FF.out t125_2; have q16 := (eq_shr (c := 16) (k := 4) ez7_1 (by decide) (by decide)); have q17 := (eq_andbit (c := 8) (k := 3) ez12_1 (by decide) h_v0 (by decide)); have q18 := (show (0 : Int32).toInt = 0 from by decide); have q19 := (show (1 : Int32).toInt = 1 from by decide); have q20 := (show (4 : Int32).toInt = 4 from by decide); have q21 := (show (7 : Int32).toInt = 7 from by decide); unfold srt; (repeat' split) <;> omega), (show (1 : Int32).toInt = 5 ∨ (1 : Int32).toInt = 6 → (v0.toInt = 32 ∨ v0.toInt = 40 ∨ v0.toInt = 48 ∨ v0.toInt = 64 ∨ v0.toInt = 72 ∨ v0.toInt = 80) by have q0 := (show (1 : Int32).toInt = 1 from by decide); omega), (show v0.toInt = 149 → (1 : Int32).toInt = 1 by have q0 := (show (1 : Int32).toInt = 1 from by decide); omega)⟩ hP hD hS [] rfl (by decide) rfl (Nat.le_of_ble_eq_true rfl) (Nat.le_of_ble_eq_true rfl)
          refine lv_if_ne (tgt := 83) hx hb dX16_sortOf_67 (by decide) (fun c67_1 => ?_) (fun c67_1 => ?_)
          · have t67_2 := FF.mk (i_ne c67_1)
            have r67_3 : rg z7_1 1 15 := rg_neAl t67_2 r7_2 (show rg (0 : Int32) 0 0 from rg_l (by decide)) (by decide)
            refine lv_iload_n hx hb dX16_sortOf_83 rfl (lv_at hl 1 rfl) ?_
            refine lv_bipush (v := 9) hx hb dX16_sortOf_84 (by decide) ?_
            refine lv_icmp_ne (tgt := 104) hx hb dX16_sortOf_86 (by decide) (fun c86_1 => ?_) (fun c86_1 => ?_)
            · have t86_2 := FF.mk (i_ne c86_1)
              refine lv_iload_n hx hb dX16_sortOf_104 rfl (lv_at hl 1 rfl) ?_
              refine lv_bipush (v := 8) hx hb dX16_sortOf_105 (by decide) ?_
              have b120 : ∀  (H : Heap) (locs : List Loc) (ls : Array Slot), (FF (v0.toInt / 16 = 8 ∨ 14 ≤ v0.toInt / 16)) → lv_has ls 5 [] → va_P D vwCl [] H → va_D A [] → va_S A s.heap H locs → W p l e ({ frames := 1, cells := 0, slots := 0, locals := 20 }) s m [.int v0].toArray below meth c H locs 0 0 Q (F0 m 120 ls []) := by
                intro  H locs ls hi120_1001 hl hP hD hS
                refine lv_iconst (v := 0) hx hb dX16_sortOf_120 (by decide) ?_
                exact b121 (0 : Int32) H locs ls (rg_w (show rg (0 : Int32) 0 0 from rg_l (by decide)) (by decide)) (show (0 : Int32).toInt = 1 → ((v0.toInt % 8 = 5 ∨ v0.toInt % 8 = 6) ∧ (v0.toInt / 16 = 0 → v0.toInt = 5) ∧ (v0.toInt / 16 = 9 → v0.toInt = 149) ∧ v0.toInt / 16 ≠ 8 ∧ v0.toInt / 16 < 14) by have q0 := (show (0 : Int32).toInt = 0 from by decide); omega) (show ((v0.toInt % 8 = 5 ∨ v0.toInt % 8 = 6) ∧ (v0.toInt / 16 = 0 → v0.toInt = 5) ∧ (v0.toInt / 16 = 9 → v0.toInt = 149) ∧ v0.toInt / 16 ≠ 8 ∧ v0.toInt / 16 < 14) → (0 : Int32).toInt = 1 by have q0 := FF.out hi120_1001; have q1 := (show (0 : Int32).toInt = 0 from by decide); omega) (lv_sub hl [] rfl) hP hD hS
              refine lv_icmp_eq (tgt := 120) hx hb dX16_sortOf_107 (by decide) (fun c107_1 => ?_) (fun c107_1 => ?_)
              · have t107_2 := FF.mk (i_eq c107_1)
                have r107_3 : rg z7_1 8 8 := rg_eqA t107_2 r67_3 (show rg (8 : Int32) 8 8 from rg_l (by decide)) (by decide)
                exact b120  H locs ls (show v0.toInt / 16 = 8 ∨ 14 ≤ v0.toInt / 16 by have q0 := r107_3.1; have q1 := r107_3.2; have q2 := (eq_shr (c := 16) (k := 4) ez7_1 (by decide) (by decide)); omega) (lv_sub hl [] rfl) hP hD hS
              · have t107_2 := FF.mk (i_ne c107_1)
                refine lv_iload_n hx hb dX16_sortOf_110 rfl (lv_at hl 1 rfl) ?_
                refine lv_bipush (v := 14) hx hb dX16_sortOf_111 (by decide) ?_
                refine lv_icmp_ge (tgt := 120) hx hb dX16_sortOf_113 (by decide) (fun c113_1 => ?_) (fun c113_1 => ?_)
                · have t113_2 := FF.mk (i_le c113_1)
                  have r113_3 : rg z7_1 14 15 := rg_leB t113_2 (show rg (14 : Int32) 14 14 from rg_l (by decide)) r67_3 (by decide)
                  exact b120  H locs ls (show v0.toInt / 16 = 8 ∨ 14 ≤ v0.toInt / 16 by have q0 := r113_3.1; have q1 := (eq_shr (c := 16) (k := 4) ez7_1 (by decide) (by decide)); omega) (lv_sub hl [] rfl) hP hD hS
                · have t113_2 := FF.mk (i_nle c113_1)
                  have r113_3 : rg z7_1 1 13 := rg_ltA t113_2 r67_3 (show rg (14 : Int32) 14 14 from rg_l (by decide)) (by decide)
                  refine lv_iconst (v := 1) hx hb dX16_sortOf_116 (by decide) ?_
                  refine lv_goto (tgt := 121) hx hb dX16_sortOf_117 (by decide) ?_
                  exact b121 (1 : Int32) H locs ls (rg_w (show rg (1 : Int32) 1 1 from rg_l (by decide)) (by decide)) (show (1 : Int32).toInt = 1 → ((v0.toInt % 8 = 5 ∨ v0.toInt % 8 = 6) ∧ (v0.toInt / 16 = 0 → v0.toInt = 5) ∧ (v0.toInt / 16 = 9 → v0.toInt = 149) ∧ v0.toInt / 16 ≠ 8 ∧ v0.toInt / 16 < 14) by have q0 := r113_3.1; have q1 := r113_3.2; have q2 := (eq_shr (c := 16) (k := 4) ez7_1 (by decide) (by decide)); have q3 := FF.out hi66_1001; have q4 := FF.out t86_2; have q5 := FF.out t107_2; have q6 := (show (1 : Int32).toInt = 1 from by decide); have q7 := (show (8 : Int32).toInt = 8 from by decide); have q8 := (show (9 : Int32).toInt = 9 from by decide); omega) (show ((v0.toInt % 8 = 5 ∨ v0.toInt % 8 = 6) ∧ (v0.toInt / 16 = 0 → v0.toInt = 5) ∧ (v0.toInt / 16 = 9 → v0.toInt = 149) ∧ v0.toInt / 16 ≠ 8 ∧ v0.toInt / 16 < 14) → (1 : Int32).toInt = 1 by have q0 := (show (1 : Int32).toInt = 1 from by decide); omega) (lv_sub hl [] rfl) hP hD hS
            · have t86_2 := FF.mk (i_eq c86_1)
              have r86_3 : rg z7_1 9 9 := rg_eqA t86_2 r67_3 (show rg (9 : Int32) 9 9 from rg_l (by decide)) (by decide)
              refine lv_iload_n hx hb dX16_sortOf_89 rfl (lv_at hl 0 rfl) ?_
              refine lv_sipush (v := 149) hx hb dX16_sortOf_90 (by decide) ?_
              refine lv_icmp_ne (tgt := 100) hx hb dX16_sortOf_93 (by decide) (fun c93_1 => ?_) (fun c93_1 => ?_)
              · have t93_2 := FF.mk (i_ne c93_1)
                refine lv_iconst (v := 0) hx hb dX16_sortOf_100 (by decide) ?_
                refine lv_goto (tgt := 121) hx hb dX16_sortOf_101 (by decide) ?_
                exact b121 (0 : Int32) H locs ls (rg_w (show rg (0 : Int32) 0 0 from rg_l (by decide)) (by decide)) (show (0 : Int32).toInt = 1 → ((v0.toInt % 8 = 5 ∨ v0.toInt % 8 = 6) ∧ (v0.toInt / 16 = 0 → v0.toInt = 5) ∧ (v0.toInt / 16 = 9 → v0.toInt = 149) ∧ v0.toInt / 16 ≠ 8 ∧ v0.toInt / 16 < 14) by have q0 := (show (0 : Int32).toInt = 0 from by decide); omega) (show ((v0.toInt % 8 = 5 ∨ v0.toInt % 8 = 6) ∧ (v0.toInt / 16 = 0 → v0.toInt = 5) ∧ (v0.toInt / 16 = 9 → v0.toInt = 149) ∧ v0.toInt / 16 ≠ 8 ∧ v0.toInt / 16 < 14) → (0 : Int32).toInt = 1 by have q0 := r86_3.1; have q1 := r86_3.2; have q2 := (eq_shr (c := 16) (k := 4) ez7_1 (by decide) (by decide)); have q3 := FF.out t93_2; have q4 := (show (0 : Int32).toInt = 0 from by decide); have q5 := (show (149 : Int32).toInt = 149 from by decide); omega) (lv_sub hl [] rfl) hP hD hS
              · have t93_2 := FF.mk (i_eq c93_1)
                have r93_3 : rg v0 149 149 := rg_eqA t93_2 h_v0 (show rg (149 : Int32) 149 149 from rg_l (by decide)) (by decide)
                refine lv_iconst (v := 1) hx hb dX16_sortOf_96 (by decide) ?_
                refine lv_goto (tgt := 121) hx hb dX16_sortOf_97 (by decide) ?_
                exact b121 (1 : Int32) H locs ls (rg_w (show rg (1 : Int32) 1 1 from rg_l (by decide)) (by decide)) (show (1 : Int32).toInt = 1 → ((v0.toInt % 8 = 5 ∨ v0.toInt % 8 = 6) ∧ (v0.toInt / 16 = 0 → v0.toInt = 5) ∧ (v0.toInt / 16 = 9 → v0.toInt = 149) ∧ v0.toInt / 16 ≠ 8 ∧ v0.toInt / 16 < 14) by have q0 := r93_3.1; have q1 := r93_3.2; have q2 := r25_3.2; have q3 := (eq_and (c := 8) (k := 3) ez3_1 (by decide) (by decide)); have q4 := r86_3.1; have q5 := (eq_shr (c := 16) (k := 4) ez7_1 (by decide) (by decide)); have q6 := FF.out hi66_1001; have q7 := (show (1 : Int32).toInt = 1 from by decide); omega) (show ((v0.toInt % 8 = 5 ∨ v0.toInt % 8 = 6) ∧ (v0.toInt / 16 = 0 → v0.toInt = 5) ∧ (v0.toInt / 16 = 9 → v0.toInt = 149) ∧ v0.toInt / 16 ≠ 8 ∧ v0.toInt / 16 < 14) → (1 : Int32).toInt = 1 by have q0 := (show (1 : Int32).toInt = 1 from by decide); omega) (lv_sub hl [] rfl) hP hD hS
          · have t67_2 := FF.mk (i_eq c67_1)
            have r67_3 : rg z7_1 0 0 := rg_eqA t67_2 r7_2 (show rg (0 : Int32) 0 0 from rg_l (by decide)) (by decide)
            refine lv_iload_n hx hb dX16_sortOf_70 rfl (lv_at hl 0 rfl) ?_
            refine lv_iconst (v := 5) hx hb dX16_sortOf_71 (by decide) ?_
            refine lv_icmp_ne (tgt := 79) hx hb dX16_sortOf_72 (by decide) (fun c72_1 => ?_) (fun c72_1 => ?_)
            · have t72_2 := FF.mk (i_ne c72_1)
              refine lv_iconst (v := 0) hx hb dX16_sortOf_79 (by decide) ?_
              refine lv_goto (tgt := 121) hx hb dX16_sortOf_80 (by decide) ?_
              exact b121 (0 : Int32) H locs ls (rg_w (show rg (0 : Int32) 0 0 from rg_l (by decide)) (by decide)) (show (0 : Int32).toInt = 1 → ((v0.toInt % 8 = 5 ∨ v0.toInt % 8 = 6) ∧ (v0.toInt / 16 = 0 → v0.toInt = 5) ∧ (v0.toInt / 16 = 9 → v0.toInt = 149) ∧ v0.toInt / 16 ≠ 8 ∧ v0.toInt / 16 < 14) by have q0 := (show (0 : Int32).toInt = 0 from by decide); omega) (show ((v0.toInt % 8 = 5 ∨ v0.toInt % 8 = 6) ∧ (v0.toInt / 16 = 0 → v0.toInt = 5) ∧ (v0.toInt / 16 = 9 → v0.toInt = 149) ∧ v0.toInt / 16 ≠ 8 ∧ v0.toInt / 16 < 14) → (0 : Int32).toInt = 1 by have q0 := r67_3.1; have q1 := r67_3.2; have q2 := (eq_shr (c := 16) (k := 4) ez7_1 (by decide) (by decide)); have q3 := FF.out t72_2; have q4 := (show (0 : Int32).toInt = 0 from by decide); have q5 := (show (5 : Int32).toInt = 5 from by decide); omega) (lv_sub hl [] rfl) hP hD hS
            · have t72_2 := FF.mk (i_eq c72_1)
              have r72_3 : rg v0 5 5 := rg_eqA t72_2 h_v0 (show rg (5 : Int32) 5 5 from rg_l (by decide)) (by decide)
              refine lv_iconst (v := 1) hx hb dX16_sortOf_75 (by decide) ?_
              refine lv_goto (tgt := 121) hx hb dX16_sortOf_76 (by decide) ?_
              exact b121 (1 : Int32) H locs ls (rg_w (show rg (1 : Int32) 1 1 from rg_l (by decide)) (by decide)) (show (1 : Int32).toInt = 1 → ((v0.toInt % 8 = 5 ∨ v0.toInt % 8 = 6) ∧ (v0.toInt / 16 = 0 → v0.toInt = 5) ∧ (v0.toInt / 16 = 9 → v0.toInt = 149) ∧ v0.toInt / 16 ≠ 8 ∧ v0.toInt / 16 < 14) by have q0 := r72_3.1; have q1 := r72_3.2; have q2 := r25_3.2; have q3 := (eq_and (c := 8) (k := 3) ez3_1 (by decide) (by decide)); have q4 := FF.out hi66_1001; have q5 := (show (1 : Int32).toInt = 1 from by decide); omega) (show ((v0.toInt % 8 = 5 ∨ v0.toInt % 8 = 6) ∧ (v0.toInt / 16 = 0 → v0.toInt = 5) ∧ (v0.toInt / 16 = 9 → v0.toInt = 149) ∧ v0.toInt / 16 ≠ 8 ∧ v0.toInt / 16 < 14) → (1 : Int32).toInt = 1 by have q0 := (show (1 : Int32).toInt = 1 from by decide); omega) (lv_sub hl [] rfl) hP hD hS
        refine lv_icmp_eq (tgt := 66) hx hb dX16_sortOf_57 (by decide) (fun c57_1 => ?_) (fun c57_1 => ?_)
        · have t57_2 := FF.mk (i_eq c57_1)
          have r57_3 : rg z3_1 5 5 := rg_eqA t57_2 r25_3 (show rg (5 : Int32) 5 5 from rg_l (by decide)) (by decide)
          exact b66  H locs ls (show v0.toInt % 8 = 5 ∨ v0.toInt % 8 = 6 by have q0 := r57_3.1; have q1 := r57_3.2; have q2 := (eq_and (c := 8) (k := 3) ez3_1 (by decide) (by decide)); omega) (lv_sub hl [1, 3] rfl) hP hD hS
        · have t57_2 := FF.mk (i_ne c57_1)
          refine lv_iload_n hx hb dX16_sortOf_60 rfl (lv_at hl 2 rfl) ?_
          refine lv_bipush (v := 6) hx hb dX16_sortOf_61 (by decide) ?_
          refine lv_icmp_ne (tgt := 134) hx hb dX16_sortOf_63 (by decide) (fun c63_1 => ?_) (fun c63_1 => ?_)
          · have t63_2 := FF.mk (i_ne c63_1)
            have r63_3 : rg z3_1 0 5 := rg_neAh t63_2 r25_3 (show rg (6 : Int32) 6 6 from rg_l (by decide)) (by decide)
            refine lv_iload_n hx hb dX16_sortOf_134 rfl (lv_at hl 1 rfl) ?_
            by_cases h135_101 : v0.toInt = 32
            · have r135_102 : rg v0 32 32 := rg_at h135_101
              refine lv_lookup (off := 159) (tgt := 294) hx hb dX16_sortOf_135 (by decide) (by rw [h135_101]; rfl) (by decide) ?_
              refine lv_iconst (v := 5) hx hb dX16_sortOf_294 (by decide) ?_
              exact endq_i hQ hx hb hr hlocks dX16_sortOf_295 rfl () ⟨(rg_w (show rg (5 : Int32) 5 5 from rg_l (by decide)) (by decide)), (show (5 : Int32).toInt = srt v0.toInt by have q0 := r135_102.1; have q1 := r135_102.2; have q2 := r21_1001.1; have q3 := r21_1001.2; have q4 := r63_3.1; have q5 := r63_3.2; have q6 := (eq_and (c := 8) (k := 3) ez3_1 (by decide) (by decide)); have q7 := FF.out hi21_1002; have q8 := FF.out t25_2; have q9 := FF.out t30_2; have q10 := FF.out t57_2; have q11 := FF.out t63_2; have q12 := (eq_shr (c := 16) (k := 4) ez7_1 (by decide) (by decide)); have q13 := (eq_andbit (c := 8) (k := 3) ez12_1 (by decide) h_v0 (by decide)); have q14 := (show (4 : Int32).toInt = 4 from by decide); have q15 := (show (5 : Int32).toInt = 5 from by decide); have q16 := (show (6 : Int32).toInt = 6 from by decide); have q17 := (show (7 : Int32).toInt = 7 from by decide); unfold srt; (repeat' split) <;> omega), (show (5 : Int32).toInt = 5 ∨ (5 : Int32).toInt = 6 → (v0.toInt = 32 ∨ v0.toInt = 40 ∨ v0.toInt = 48 ∨ v0.toInt = 64 ∨ v0.toInt = 72 ∨ v0.toInt = 80) by have q0 := r135_102.1; have q1 := r135_102.2; have q2 := (show (5 : Int32).toInt = 5 from by decide); omega), (show v0.toInt = 149 → (5 : Int32).toInt = 1 by have q0 := r135_102.2; have q1 := (show (5 : Int32).toInt = 5 from by decide); omega)⟩ hP hD hS [] rfl (by decide) rfl (Nat.le_of_ble_eq_true rfl) (Nat.le_of_ble_eq_true rfl)
            by_cases h135_111 : v0.toInt = 40
            · have r135_112 : rg v0 40 40 := rg_at h135_111
              refine lv_lookup (off := 159) (tgt := 294) hx hb dX16_sortOf_135 (by decide) (by rw [h135_111]; rfl) (by decide) ?_
              refine lv_iconst (v := 5) hx hb dX16_sortOf_294 (by decide) ?_
              exact endq_i hQ hx hb hr hlocks dX16_sortOf_295 rfl () ⟨(rg_w (show rg (5 : Int32) 5 5 from rg_l (by decide)) (by decide)), (show (5 : Int32).toInt = srt v0.toInt by have q0 := r135_112.1; have q1 := r135_112.2; have q2 := r21_1001.1; have q3 := r21_1001.2; have q4 := r63_3.1; have q5 := r63_3.2; have q6 := (eq_and (c := 8) (k := 3) ez3_1 (by decide) (by decide)); have q7 := FF.out hi21_1002; have q8 := FF.out t25_2; have q9 := FF.out t30_2; have q10 := FF.out t57_2; have q11 := FF.out t63_2; have q12 := (eq_shr (c := 16) (k := 4) ez7_1 (by decide) (by decide)); have q13 := (eq_andbit (c := 8) (k := 3) ez12_1 (by decide) h_v0 (by decide)); have q14 := (show (4 : Int32).toInt = 4 from by decide); have q15 := (show (5 : Int32).toInt = 5 from by decide); have q16 := (show (6 : Int32).toInt = 6 from by decide); have q17 := (show (7 : Int32).toInt = 7 from by decide); unfold srt; (repeat' split) <;> omega), (show (5 : Int32).toInt = 5 ∨ (5 : Int32).toInt = 6 → (v0.toInt = 32 ∨ v0.toInt = 40 ∨ v0.toInt = 48 ∨ v0.toInt = 64 ∨ v0.toInt = 72 ∨ v0.toInt = 80) by have q0 := r135_112.1; have q1 := r135_112.2; have q2 := (show (5 : Int32).toInt = 5 from by decide); omega), (show v0.toInt = 149 → (5 : Int32).toInt = 1 by have q0 := r135_112.2; have q1 := (show (5 : Int32).toInt = 5 from by decide); omega)⟩ hP hD hS [] rfl (by decide) rfl (Nat.le_of_ble_eq_true rfl) (Nat.le_of_ble_eq_true rfl)
            by_cases h135_121 : v0.toInt = 48
            · have r135_122 : rg v0 48 48 := rg_at h135_121
              refine lv_lookup (off := 159) (tgt := 294) hx hb dX16_sortOf_135 (by decide) (by rw [h135_121]; rfl) (by decide) ?_
              refine lv_iconst (v := 5) hx hb dX16_sortOf_294 (by decide) ?_
              exact endq_i hQ hx hb hr hlocks dX16_sortOf_295 rfl () ⟨(rg_w (show rg (5 : Int32) 5 5 from rg_l (by decide)) (by decide)), (show (5 : Int32).toInt = srt v0.toInt by have q0 := r135_122.1; have q1 := r135_122.2; have q2 := r21_1001.1; have q3 := r21_1001.2; have q4 := r63_3.1; have q5 := r63_3.2; have q6 := (eq_and (c := 8) (k := 3) ez3_1 (by decide) (by decide)); have q7 := FF.out hi21_1002; have q8 := FF.out t25_2; have q9 := FF.out t30_2; have q10 := FF.out t57_2; have q11 := FF.out t63_2; have q12 := (eq_shr (c := 16) (k := 4) ez7_1 (by decide) (by decide)); have q13 := (eq_andbit (c := 8) (k := 3) ez12_1 (by decide) h_v0 (by decide)); have q14 := (show (4 : Int32).toInt = 4 from by decide); have q15 := (show (5 : Int32).toInt = 5 from by decide); have q16 := (show (6 : Int32).toInt = 6 from by decide); have q17 := (show (7 : Int32).toInt = 7 from by decide); unfold srt; (repeat' split) <;> omega), (show (5 : Int32).toInt = 5 ∨ (5 : Int32).toInt = 6 → (v0.toInt = 32 ∨ v0.toInt = 40 ∨ v0.toInt = 48 ∨ v0.toInt = 64 ∨ v0.toInt = 72 ∨ v0.toInt = 80) by have q0 := r135_122.1; have q1 := r135_122.2; have q2 := (show (5 : Int32).toInt = 5 from by decide); omega), (show v0.toInt = 149 → (5 : Int32).toInt = 1 by have q0 := r135_122.2; have q1 := (show (5 : Int32).toInt = 5 from by decide); omega)⟩ hP hD hS [] rfl (by decide) rfl (Nat.le_of_ble_eq_true rfl) (Nat.le_of_ble_eq_true rfl)
            by_cases h135_131 : v0.toInt = 64
            · have r135_132 : rg v0 64 64 := rg_at h135_131
              refine lv_lookup (off := 161) (tgt := 296) hx hb dX16_sortOf_135 (by decide) (by rw [h135_131]; rfl) (by decide) ?_
              refine lv_bipush (v := 6) hx hb dX16_sortOf_296 (by decide) ?_
              exact endq_i hQ hx hb hr hlocks dX16_sortOf_298 rfl () ⟨(rg_w (show rg (6 : Int32) 6 6 from rg_l (by decide)) (by decide)), (show (6 : Int32).toInt = srt v0.toInt by have q0 := r135_132.1; have q1 := r135_132.2; have q2 := r21_1001.1; have q3 := r21_1001.2; have q4 := r63_3.1; have q5 := r63_3.2; have q6 := (eq_and (c := 8) (k := 3) ez3_1 (by decide) (by decide)); have q7 := FF.out hi21_1002; have q8 := FF.out t25_2; have q9 := FF.out t30_2; have q10 := FF.out t57_2; have q11 := FF.out t63_2; have q12 := (eq_shr (c := 16) (k := 4) ez7_1 (by decide) (by decide)); have q13 := (eq_andbit (c := 8) (k := 3) ez12_1 (by decide) h_v0 (by decide)); have q14 := (show (4 : Int32).toInt = 4 from by decide); have q15 := (show (5 : Int32).toInt = 5 from by decide); have q16 := (show (6 : Int32).toInt = 6 from by decide); have q17 := (show (7 : Int32).toInt = 7 from by decide); unfold srt; (repeat' split) <;> omega), (show (6 : Int32).toInt = 5 ∨ (6 : Int32).toInt = 6 → (v0.toInt = 32 ∨ v0.toInt = 40 ∨ v0.toInt = 48 ∨ v0.toInt = 64 ∨ v0.toInt = 72 ∨ v0.toInt = 80) by have q0 := r135_132.1; have q1 := r135_132.2; have q2 := (show (6 : Int32).toInt = 6 from by decide); omega), (show v0.toInt = 149 → (6 : Int32).toInt = 1 by have q0 := r135_132.2; have q1 := (show (6 : Int32).toInt = 6 from by decide); omega)⟩ hP hD hS [] rfl (by decide) rfl (Nat.le_of_ble_eq_true rfl) (Nat.le_of_ble_eq_true rfl)
            by_cases h135_141 : v0.toInt = 72
            · have r135_142 : rg v0 72 72 := rg_at h135_141
              refine lv_lookup (off := 161) (tgt := 296) hx hb dX16_sortOf_135 (by decide) (by rw [h135_141]; rfl) (by decide) ?_
              refine lv_bipush (v := 6) hx hb dX16_sortOf_296 (by decide) ?_
              exact endq_i hQ hx hb hr hlocks dX16_sortOf_298 rfl () ⟨(rg_w (show rg (6 : Int32) 6 6 from rg_l (by decide)) (by decide)), (show (6 : Int32).toInt = srt v0.toInt by have q0 := r135_142.1; have q1 := r135_142.2; have q2 := r21_1001.1; have q3 := r21_1001.2; have q4 := r63_3.1; have q5 := r63_3.2; have q6 := (eq_and (c := 8) (k := 3) ez3_1 (by decide) (by decide)); have q7 := FF.out hi21_1002; have q8 := FF.out t25_2; have q9 := FF.out t30_2; have q10 := FF.out t57_2; have q11 := FF.out t63_2; have q12 := (eq_shr (c := 16) (k := 4) ez7_1 (by decide) (by decide)); have q13 := (eq_andbit (c := 8) (k := 3) ez12_1 (by decide) h_v0 (by decide)); have q14 := (show (4 : Int32).toInt = 4 from by decide); have q15 := (show (5 : Int32).toInt = 5 from by decide); have q16 := (show (6 : Int32).toInt = 6 from by decide); have q17 := (show (7 : Int32).toInt = 7 from by decide); unfold srt; (repeat' split) <;> omega), (show (6 : Int32).toInt = 5 ∨ (6 : Int32).toInt = 6 → (v0.toInt = 32 ∨ v0.toInt = 40 ∨ v0.toInt = 48 ∨ v0.toInt = 64 ∨ v0.toInt = 72 ∨ v0.toInt = 80) by have q0 := r135_142.1; have q1 := r135_142.2; have q2 := (show (6 : Int32).toInt = 6 from by decide); omega), (show v0.toInt = 149 → (6 : Int32).toInt = 1 by have q0 := r135_142.2; have q1 := (show (6 : Int32).toInt = 6 from by decide); omega)⟩ hP hD hS [] rfl (by decide) rfl (Nat.le_of_ble_eq_true rfl) (Nat.le_of_ble_eq_true rfl)
            by_cases h135_151 : v0.toInt = 80
            · have r135_152 : rg v0 80 80 := rg_at h135_151
              refine lv_lookup (off := 161) (tgt := 296) hx hb dX16_sortOf_135 (by decide) (by rw [h135_151]; rfl) (by decide) ?_
              refine lv_bipush (v := 6) hx hb dX16_sortOf_296 (by decide) ?_
              exact endq_i hQ hx hb hr hlocks dX16_sortOf_298 rfl () ⟨(rg_w (show rg (6 : Int32) 6 6 from rg_l (by decide)) (by decide)), (show (6 : Int32).toInt = srt v0.toInt by have q0 := r135_152.1; have q1 := r135_152.2; have q2 := r21_1001.1; have q3 := r21_1001.2; have q4 := r63_3.1; have q5 := r63_3.2; have q6 := (eq_and (c := 8) (k := 3) ez3_1 (by decide) (by decide)); have q7 := FF.out hi21_1002; have q8 := FF.out t25_2; have q9 := FF.out t30_2; have q10 := FF.out t57_2; have q11 := FF.out t63_2; have q12 := (eq_shr (c := 16) (k := 4) ez7_1 (by decide) (by decide)); have q13 := (eq_andbit (c := 8) (k := 3) ez12_1 (by decide) h_v0 (by decide)); have q14 := (show (4 : Int32).toInt = 4 from by decide); have q15 := (show (5 : Int32).toInt = 5 from by decide); have q16 := (show (6 : Int32).toInt = 6 from by decide); have q17 := (show (7 : Int32).toInt = 7 from by decide); unfold srt; (repeat' split) <;> omega), (show (6 : Int32).toInt = 5 ∨ (6 : Int32).toInt = 6 → (v0.toInt = 32 ∨ v0.toInt = 40 ∨ v0.toInt = 48 ∨ v0.toInt = 64 ∨ v0.toInt = 72 ∨ v0.toInt = 80) by have q0 := r135_152.1; have q1 := r135_152.2; have q2 := (show (6 : Int32).toInt = 6 from by decide); omega), (show v0.toInt = 149 → (6 : Int32).toInt = 1 by have q0 := r135_152.2; have q1 := (show (6 : Int32).toInt = 6 from by decide); omega)⟩ hP hD hS [] rfl (by decide) rfl (Nat.le_of_ble_eq_true rfl) (Nat.le_of_ble_eq_true rfl)
            by_cases h135_161 : v0.toInt = 97
            · have r135_162 : rg v0 97 97 := rg_at h135_161
              refine lv_lookup (off := 153) (tgt := 288) hx hb dX16_sortOf_135 (by decide) (by rw [h135_161]; rfl) (by decide) ?_
              refine lv_iconst (v := 2) hx hb dX16_sortOf_288 (by decide) ?_
              exact endq_i hQ hx hb hr hlocks dX16_sortOf_289 rfl () ⟨(rg_w (show rg (2 : Int32) 2 2 from rg_l (by decide)) (by decide)), (show (2 : Int32).toInt = srt v0.toInt by have q0 := r135_162.1; have q1 := r135_162.2; have q2 := r21_1001.1; have q3 := r21_1001.2; have q4 := r63_3.1; have q5 := r63_3.2; have q6 := (eq_and (c := 8) (k := 3) ez3_1 (by decide) (by decide)); have q7 := FF.out hi21_1002; have q8 := FF.out t25_2; have q9 := FF.out t30_2; have q10 := FF.out t57_2; have q11 := FF.out t63_2; have q12 := (eq_shr (c := 16) (k := 4) ez7_1 (by decide) (by decide)); have q13 := (eq_andbit (c := 8) (k := 3) ez12_1 (by decide) h_v0 (by decide)); have q14 := (show (2 : Int32).toInt = 2 from by decide); have q15 := (show (4 : Int32).toInt = 4 from by decide); have q16 := (show (5 : Int32).toInt = 5 from by decide); have q17 := (show (6 : Int32).toInt = 6 from by decide); have q18 := (show (7 : Int32).toInt = 7 from by decide); unfold srt; (repeat' split) <;> omega), (show (2 : Int32).toInt = 5 ∨ (2 : Int32).toInt = 6 → (v0.toInt = 32 ∨ v0.toInt = 40 ∨ v0.toInt = 48 ∨ v0.toInt = 64 ∨ v0.toInt = 72 ∨ v0.toInt = 80) by have q0 := (show (2 : Int32).toInt = 2 from by decide); omega), (show v0.toInt = 149 → (2 : Int32).toInt = 1 by have q0 := r135_162.2; have q1 := (show (2 : Int32).toInt = 2 from by decide); omega)⟩ hP hD hS [] rfl (by decide) rfl (Nat.le_of_ble_eq_true rfl) (Nat.le_of_ble_eq_true rfl)
            by_cases h135_171 : v0.toInt = 98
            · have r135_172 : rg v0 98 98 := rg_at h135_171
              refine lv_lookup (off := 157) (tgt := 292) hx hb dX16_sortOf_135 (by decide) (by rw [h135_171]; rfl) (by decide) ?_
              refine lv_iconst (v := 4) hx hb dX16_sortOf_292 (by decide) ?_
              exact endq_i hQ hx hb hr hlocks dX16_sortOf_293 rfl () ⟨(rg_w (show rg (4 : Int32) 4 4 from rg_l (by decide)) (by decide)), (show (4 : Int32).toInt = srt v0.toInt by have q0 := r135_172.1; have q1 := r135_172.2; have q2 := r21_1001.1; have q3 := r21_1001.2; have q4 := r63_3.1; have q5 := r63_3.2; have q6 := (eq_and (c := 8) (k := 3) ez3_1 (by decide) (by decide)); have q7 := FF.out hi21_1002; have q8 := FF.out t25_2; have q9 := FF.out t30_2; have q10 := FF.out t57_2; have q11 := FF.out t63_2; have q12 := (eq_shr (c := 16) (k := 4) ez7_1 (by decide) (by decide)); have q13 := (eq_andbit (c := 8) (k := 3) ez12_1 (by decide) h_v0 (by decide)); have q14 := (show (4 : Int32).toInt = 4 from by decide); have q15 := (show (5 : Int32).toInt = 5 from by decide); have q16 := (show (6 : Int32).toInt = 6 from by decide); have q17 := (show (7 : Int32).toInt = 7 from by decide); unfold srt; (repeat' split) <;> omega), (show (4 : Int32).toInt = 5 ∨ (4 : Int32).toInt = 6 → (v0.toInt = 32 ∨ v0.toInt = 40 ∨ v0.toInt = 48 ∨ v0.toInt = 64 ∨ v0.toInt = 72 ∨ v0.toInt = 80) by have q0 := (show (4 : Int32).toInt = 4 from by decide); omega), (show v0.toInt = 149 → (4 : Int32).toInt = 1 by have q0 := r135_172.2; have q1 := (show (4 : Int32).toInt = 4 from by decide); omega)⟩ hP hD hS [] rfl (by decide) rfl (Nat.le_of_ble_eq_true rfl) (Nat.le_of_ble_eq_true rfl)
            by_cases h135_181 : v0.toInt = 99
            · have r135_182 : rg v0 99 99 := rg_at h135_181
              refine lv_lookup (off := 155) (tgt := 290) hx hb dX16_sortOf_135 (by decide) (by rw [h135_181]; rfl) (by decide) ?_
              refine lv_iconst (v := 3) hx hb dX16_sortOf_290 (by decide) ?_
              exact endq_i hQ hx hb hr hlocks dX16_sortOf_291 rfl () ⟨(rg_w (show rg (3 : Int32) 3 3 from rg_l (by decide)) (by decide)), (show (3 : Int32).toInt = srt v0.toInt by have q0 := r135_182.1; have q1 := r135_182.2; have q2 := r21_1001.1; have q3 := r21_1001.2; have q4 := r63_3.1; have q5 := r63_3.2; have q6 := (eq_and (c := 8) (k := 3) ez3_1 (by decide) (by decide)); have q7 := FF.out hi21_1002; have q8 := FF.out t25_2; have q9 := FF.out t30_2; have q10 := FF.out t57_2; have q11 := FF.out t63_2; have q12 := (eq_shr (c := 16) (k := 4) ez7_1 (by decide) (by decide)); have q13 := (eq_andbit (c := 8) (k := 3) ez12_1 (by decide) h_v0 (by decide)); have q14 := (show (3 : Int32).toInt = 3 from by decide); have q15 := (show (4 : Int32).toInt = 4 from by decide); have q16 := (show (5 : Int32).toInt = 5 from by decide); have q17 := (show (6 : Int32).toInt = 6 from by decide); have q18 := (show (7 : Int32).toInt = 7 from by decide); unfold srt; (repeat' split) <;> omega), (show (3 : Int32).toInt = 5 ∨ (3 : Int32).toInt = 6 → (v0.toInt = 32 ∨ v0.toInt = 40 ∨ v0.toInt = 48 ∨ v0.toInt = 64 ∨ v0.toInt = 72 ∨ v0.toInt = 80) by have q0 := (show (3 : Int32).toInt = 3 from by decide); omega), (show v0.toInt = 149 → (3 : Int32).toInt = 1 by have q0 := r135_182.2; have q1 := (show (3 : Int32).toInt = 3 from by decide); omega)⟩ hP hD hS [] rfl (by decide) rfl (Nat.le_of_ble_eq_true rfl) (Nat.le_of_ble_eq_true rfl)
            by_cases h135_191 : v0.toInt = 105
            · have r135_192 : rg v0 105 105 := rg_at h135_191
              refine lv_lookup (off := 153) (tgt := 288) hx hb dX16_sortOf_135 (by decide) (by rw [h135_191]; rfl) (by decide) ?_
              refine lv_iconst (v := 2) hx hb dX16_sortOf_288 (by decide) ?_
              exact endq_i hQ hx hb hr hlocks dX16_sortOf_289 rfl () ⟨(rg_w (show rg (2 : Int32) 2 2 from rg_l (by decide)) (by decide)), (show (2 : Int32).toInt = srt v0.toInt by have q0 := r135_192.1; have q1 := r135_192.2; have q2 := r21_1001.1; have q3 := r21_1001.2; have q4 := r63_3.1; have q5 := r63_3.2; have q6 := (eq_and (c := 8) (k := 3) ez3_1 (by decide) (by decide)); have q7 := FF.out hi21_1002; have q8 := FF.out t25_2; have q9 := FF.out t30_2; have q10 := FF.out t57_2; have q11 := FF.out t63_2; have q12 := (eq_shr (c := 16) (k := 4) ez7_1 (by decide) (by decide)); have q13 := (eq_andbit (c := 8) (k := 3) ez12_1 (by decide) h_v0 (by decide)); have q14 := (show (2 : Int32).toInt = 2 from by decide); have q15 := (show (4 : Int32).toInt = 4 from by decide); have q16 := (show (5 : Int32).toInt = 5 from by decide); have q17 := (show (6 : Int32).toInt = 6 from by decide); have q18 := (show (7 : Int32).toInt = 7 from by decide); unfold srt; (repeat' split) <;> omega), (show (2 : Int32).toInt = 5 ∨ (2 : Int32).toInt = 6 → (v0.toInt = 32 ∨ v0.toInt = 40 ∨ v0.toInt = 48 ∨ v0.toInt = 64 ∨ v0.toInt = 72 ∨ v0.toInt = 80) by have q0 := (show (2 : Int32).toInt = 2 from by decide); omega), (show v0.toInt = 149 → (2 : Int32).toInt = 1 by have q0 := r135_192.2; have q1 := (show (2 : Int32).toInt = 2 from by decide); omega)⟩ hP hD hS [] rfl (by decide) rfl (Nat.le_of_ble_eq_true rfl) (Nat.le_of_ble_eq_true rfl)
            by_cases h135_201 : v0.toInt = 106
            · have r135_202 : rg v0 106 106 := rg_at h135_201
              refine lv_lookup (off := 157) (tgt := 292) hx hb dX16_sortOf_135 (by decide) (by rw [h135_201]; rfl) (by decide) ?_
              refine lv_iconst (v := 4) hx hb dX16_sortOf_292 (by decide) ?_
              exact endq_i hQ hx hb hr hlocks dX16_sortOf_293 rfl () ⟨(rg_w (show rg (4 : Int32) 4 4 from rg_l (by decide)) (by decide)), (show (4 : Int32).toInt = srt v0.toInt by have q0 := r135_202.1; have q1 := r135_202.2; have q2 := r21_1001.1; have q3 := r21_1001.2; have q4 := r63_3.1; have q5 := r63_3.2; have q6 := (eq_and (c := 8) (k := 3) ez3_1 (by decide) (by decide)); have q7 := FF.out hi21_1002; have q8 := FF.out t25_2; have q9 := FF.out t30_2; have q10 := FF.out t57_2; have q11 := FF.out t63_2; have q12 := (eq_shr (c := 16) (k := 4) ez7_1 (by decide) (by decide)); have q13 := (eq_andbit (c := 8) (k := 3) ez12_1 (by decide) h_v0 (by decide)); have q14 := (show (4 : Int32).toInt = 4 from by decide); have q15 := (show (5 : Int32).toInt = 5 from by decide); have q16 := (show (6 : Int32).toInt = 6 from by decide); have q17 := (show (7 : Int32).toInt = 7 from by decide); unfold srt; (repeat' split) <;> omega), (show (4 : Int32).toInt = 5 ∨ (4 : Int32).toInt = 6 → (v0.toInt = 32 ∨ v0.toInt = 40 ∨ v0.toInt = 48 ∨ v0.toInt = 64 ∨ v0.toInt = 72 ∨ v0.toInt = 80) by have q0 := (show (4 : Int32).toInt = 4 from by decide); omega), (show v0.toInt = 149 → (4 : Int32).toInt = 1 by have q0 := r135_202.2; have q1 := (show (4 : Int32).toInt = 4 from by decide); omega)⟩ hP hD hS [] rfl (by decide) rfl (Nat.le_of_ble_eq_true rfl) (Nat.le_of_ble_eq_true rfl)
            by_cases h135_211 : v0.toInt = 107
            · have r135_212 : rg v0 107 107 := rg_at h135_211
              refine lv_lookup (off := 155) (tgt := 290) hx hb dX16_sortOf_135 (by decide) (by rw [h135_211]; rfl) (by decide) ?_
              refine lv_iconst (v := 3) hx hb dX16_sortOf_290 (by decide) ?_
              exact endq_i hQ hx hb hr hlocks dX16_sortOf_291 rfl () ⟨(rg_w (show rg (3 : Int32) 3 3 from rg_l (by decide)) (by decide)), (show (3 : Int32).toInt = srt v0.toInt by have q0 := r135_212.1; have q1 := r135_212.2; have q2 := r21_1001.1; have q3 := r21_1001.2; have q4 := r63_3.1; have q5 := r63_3.2; have q6 := (eq_and (c := 8) (k := 3) ez3_1 (by decide) (by decide)); have q7 := FF.out hi21_1002; have q8 := FF.out t25_2; have q9 := FF.out t30_2; have q10 := FF.out t57_2; have q11 := FF.out t63_2; have q12 := (eq_shr (c := 16) (k := 4) ez7_1 (by decide) (by decide)); have q13 := (eq_andbit (c := 8) (k := 3) ez12_1 (by decide) h_v0 (by decide)); have q14 := (show (3 : Int32).toInt = 3 from by decide); have q15 := (show (4 : Int32).toInt = 4 from by decide); have q16 := (show (5 : Int32).toInt = 5 from by decide); have q17 := (show (6 : Int32).toInt = 6 from by decide); have q18 := (show (7 : Int32).toInt = 7 from by decide); unfold srt; (repeat' split) <;> omega), (show (3 : Int32).toInt = 5 ∨ (3 : Int32).toInt = 6 → (v0.toInt = 32 ∨ v0.toInt = 40 ∨ v0.toInt = 48 ∨ v0.toInt = 64 ∨ v0.toInt = 72 ∨ v0.toInt = 80) by have q0 := (show (3 : Int32).toInt = 3 from by decide); omega), (show v0.toInt = 149 → (3 : Int32).toInt = 1 by have q0 := r135_212.2; have q1 := (show (3 : Int32).toInt = 3 from by decide); omega)⟩ hP hD hS [] rfl (by decide) rfl (Nat.le_of_ble_eq_true rfl) (Nat.le_of_ble_eq_true rfl)
            by_cases h135_221 : v0.toInt = 113
            · have r135_222 : rg v0 113 113 := rg_at h135_221
              refine lv_lookup (off := 153) (tgt := 288) hx hb dX16_sortOf_135 (by decide) (by rw [h135_221]; rfl) (by decide) ?_
              refine lv_iconst (v := 2) hx hb dX16_sortOf_288 (by decide) ?_
              exact endq_i hQ hx hb hr hlocks dX16_sortOf_289 rfl () ⟨(rg_w (show rg (2 : Int32) 2 2 from rg_l (by decide)) (by decide)), (show (2 : Int32).toInt = srt v0.toInt by have q0 := r135_222.1; have q1 := r135_222.2; have q2 := r21_1001.1; have q3 := r21_1001.2; have q4 := r63_3.1; have q5 := r63_3.2; have q6 := (eq_and (c := 8) (k := 3) ez3_1 (by decide) (by decide)); have q7 := FF.out hi21_1002; have q8 := FF.out t25_2; have q9 := FF.out t30_2; have q10 := FF.out t57_2; have q11 := FF.out t63_2; have q12 := (eq_shr (c := 16) (k := 4) ez7_1 (by decide) (by decide)); have q13 := (eq_andbit (c := 8) (k := 3) ez12_1 (by decide) h_v0 (by decide)); have q14 := (show (2 : Int32).toInt = 2 from by decide); have q15 := (show (4 : Int32).toInt = 4 from by decide); have q16 := (show (5 : Int32).toInt = 5 from by decide); have q17 := (show (6 : Int32).toInt = 6 from by decide); have q18 := (show (7 : Int32).toInt = 7 from by decide); unfold srt; (repeat' split) <;> omega), (show (2 : Int32).toInt = 5 ∨ (2 : Int32).toInt = 6 → (v0.toInt = 32 ∨ v0.toInt = 40 ∨ v0.toInt = 48 ∨ v0.toInt = 64 ∨ v0.toInt = 72 ∨ v0.toInt = 80) by have q0 := (show (2 : Int32).toInt = 2 from by decide); omega), (show v0.toInt = 149 → (2 : Int32).toInt = 1 by have q0 := r135_222.2; have q1 := (show (2 : Int32).toInt = 2 from by decide); omega)⟩ hP hD hS [] rfl (by decide) rfl (Nat.le_of_ble_eq_true rfl) (Nat.le_of_ble_eq_true rfl)
            by_cases h135_231 : v0.toInt = 114
            · have r135_232 : rg v0 114 114 := rg_at h135_231
              refine lv_lookup (off := 157) (tgt := 292) hx hb dX16_sortOf_135 (by decide) (by rw [h135_231]; rfl) (by decide) ?_
              refine lv_iconst (v := 4) hx hb dX16_sortOf_292 (by decide) ?_
              exact endq_i hQ hx hb hr hlocks dX16_sortOf_293 rfl () ⟨(rg_w (show rg (4 : Int32) 4 4 from rg_l (by decide)) (by decide)), (show (4 : Int32).toInt = srt v0.toInt by have q0 := r135_232.1; have q1 := r135_232.2; have q2 := r21_1001.1; have q3 := r21_1001.2; have q4 := r63_3.1; have q5 := r63_3.2; have q6 := (eq_and (c := 8) (k := 3) ez3_1 (by decide) (by decide)); have q7 := FF.out hi21_1002; have q8 := FF.out t25_2; have q9 := FF.out t30_2; have q10 := FF.out t57_2; have q11 := FF.out t63_2; have q12 := (eq_shr (c := 16) (k := 4) ez7_1 (by decide) (by decide)); have q13 := (eq_andbit (c := 8) (k := 3) ez12_1 (by decide) h_v0 (by decide)); have q14 := (show (4 : Int32).toInt = 4 from by decide); have q15 := (show (5 : Int32).toInt = 5 from by decide); have q16 := (show (6 : Int32).toInt = 6 from by decide); have q17 := (show (7 : Int32).toInt = 7 from by decide); unfold srt; (repeat' split) <;> omega), (show (4 : Int32).toInt = 5 ∨ (4 : Int32).toInt = 6 → (v0.toInt = 32 ∨ v0.toInt = 40 ∨ v0.toInt = 48 ∨ v0.toInt = 64 ∨ v0.toInt = 72 ∨ v0.toInt = 80) by have q0 := (show (4 : Int32).toInt = 4 from by decide); omega), (show v0.toInt = 149 → (4 : Int32).toInt = 1 by have q0 := r135_232.2; have q1 := (show (4 : Int32).toInt = 4 from by decide); omega)⟩ hP hD hS [] rfl (by decide) rfl (Nat.le_of_ble_eq_true rfl) (Nat.le_of_ble_eq_true rfl)
            by_cases h135_241 : v0.toInt = 115
            · have r135_242 : rg v0 115 115 := rg_at h135_241
              refine lv_lookup (off := 155) (tgt := 290) hx hb dX16_sortOf_135 (by decide) (by rw [h135_241]; rfl) (by decide) ?_
              refine lv_iconst (v := 3) hx hb dX16_sortOf_290 (by decide) ?_
              exact endq_i hQ hx hb hr hlocks dX16_sortOf_291 rfl () ⟨(rg_w (show rg (3 : Int32) 3 3 from rg_l (by decide)) (by decide)), (show (3 : Int32).toInt = srt v0.toInt by have q0 := r135_242.1; have q1 := r135_242.2; have q2 := r21_1001.1; have q3 := r21_1001.2; have q4 := r63_3.1; have q5 := r63_3.2; have q6 := (eq_and (c := 8) (k := 3) ez3_1 (by decide) (by decide)); have q7 := FF.out hi21_1002; have q8 := FF.out t25_2; have q9 := FF.out t30_2; have q10 := FF.out t57_2; have q11 := FF.out t63_2; have q12 := (eq_shr (c := 16) (k := 4) ez7_1 (by decide) (by decide)); have q13 := (eq_andbit (c := 8) (k := 3) ez12_1 (by decide) h_v0 (by decide)); have q14 := (show (3 : Int32).toInt = 3 from by decide); have q15 := (show (4 : Int32).toInt = 4 from by decide); have q16 := (show (5 : Int32).toInt = 5 from by decide); have q17 := (show (6 : Int32).toInt = 6 from by decide); have q18 := (show (7 : Int32).toInt = 7 from by decide); unfold srt; (repeat' split) <;> omega), (show (3 : Int32).toInt = 5 ∨ (3 : Int32).toInt = 6 → (v0.toInt = 32 ∨ v0.toInt = 40 ∨ v0.toInt = 48 ∨ v0.toInt = 64 ∨ v0.toInt = 72 ∨ v0.toInt = 80) by have q0 := (show (3 : Int32).toInt = 3 from by decide); omega), (show v0.toInt = 149 → (3 : Int32).toInt = 1 by have q0 := r135_242.2; have q1 := (show (3 : Int32).toInt = 3 from by decide); omega)⟩ hP hD hS [] rfl (by decide) rfl (Nat.le_of_ble_eq_true rfl) (Nat.le_of_ble_eq_true rfl)
            by_cases h135_251 : v0.toInt = 121
            · have r135_252 : rg v0 121 121 := rg_at h135_251
              refine lv_lookup (off := 153) (tgt := 288) hx hb dX16_sortOf_135 (by decide) (by rw [h135_251]; rfl) (by decide) ?_
              refine lv_iconst (v := 2) hx hb dX16_sortOf_288 (by decide) ?_
              exact endq_i hQ hx hb hr hlocks dX16_sortOf_289 rfl () ⟨(rg_w (show rg (2 : Int32) 2 2 from rg_l (by decide)) (by decide)), (show (2 : Int32).toInt = srt v0.toInt by have q0 := r135_252.1; have q1 := r135_252.2; have q2 := r21_1001.1; have q3 := r21_1001.2; have q4 := r63_3.1; have q5 := r63_3.2; have q6 := (eq_and (c := 8) (k := 3) ez3_1 (by decide) (by decide)); have q7 := FF.out hi21_1002; have q8 := FF.out t25_2; have q9 := FF.out t30_2; have q10 := FF.out t57_2; have q11 := FF.out t63_2; have q12 := (eq_shr (c := 16) (k := 4) ez7_1 (by decide) (by decide)); have q13 := (eq_andbit (c := 8) (k := 3) ez12_1 (by decide) h_v0 (by decide)); have q14 := (show (2 : Int32).toInt = 2 from by decide); have q15 := (show (4 : Int32).toInt = 4 from by decide); have q16 := (show (5 : Int32).toInt = 5 from by decide); have q17 := (show (6 : Int32).toInt = 6 from by decide); have q18 := (show (7 : Int32).toInt = 7 from by decide); unfold srt; (repeat' split) <;> omega), (show (2 : Int32).toInt = 5 ∨ (2 : Int32).toInt = 6 → (v0.toInt = 32 ∨ v0.toInt = 40 ∨ v0.toInt = 48 ∨ v0.toInt = 64 ∨ v0.toInt = 72 ∨ v0.toInt = 80) by have q0 := (show (2 : Int32).toInt = 2 from by decide); omega), (show v0.toInt = 149 → (2 : Int32).toInt = 1 by have q0 := r135_252.2; have q1 := (show (2 : Int32).toInt = 2 from by decide); omega)⟩ hP hD hS [] rfl (by decide) rfl (Nat.le_of_ble_eq_true rfl) (Nat.le_of_ble_eq_true rfl)
            by_cases h135_261 : v0.toInt = 122
            · have r135_262 : rg v0 122 122 := rg_at h135_261
              refine lv_lookup (off := 157) (tgt := 292) hx hb dX16_sortOf_135 (by decide) (by rw [h135_261]; rfl) (by decide) ?_
              refine lv_iconst (v := 4) hx hb dX16_sortOf_292 (by decide) ?_
              exact endq_i hQ hx hb hr hlocks dX16_sortOf_293 rfl () ⟨(rg_w (show rg (4 : Int32) 4 4 from rg_l (by decide)) (by decide)), (show (4 : Int32).toInt = srt v0.toInt by have q0 := r135_262.1; have q1 := r135_262.2; have q2 := r21_1001.1; have q3 := r21_1001.2; have q4 := r63_3.1; have q5 := r63_3.2; have q6 := (eq_and (c := 8) (k := 3) ez3_1 (by decide) (by decide)); have q7 := FF.out hi21_1002; have q8 := FF.out t25_2; have q9 := FF.out t30_2; have q10 := FF.out t57_2; have q11 := FF.out t63_2; have q12 := (eq_shr (c := 16) (k := 4) ez7_1 (by decide) (by decide)); have q13 := (eq_andbit (c := 8) (k := 3) ez12_1 (by decide) h_v0 (by decide)); have q14 := (show (4 : Int32).toInt = 4 from by decide); have q15 := (show (5 : Int32).toInt = 5 from by decide); have q16 := (show (6 : Int32).toInt = 6 from by decide); have q17 := (show (7 : Int32).toInt = 7 from by decide); unfold srt; (repeat' split) <;> omega), (show (4 : Int32).toInt = 5 ∨ (4 : Int32).toInt = 6 → (v0.toInt = 32 ∨ v0.toInt = 40 ∨ v0.toInt = 48 ∨ v0.toInt = 64 ∨ v0.toInt = 72 ∨ v0.toInt = 80) by have q0 := (show (4 : Int32).toInt = 4 from by decide); omega), (show v0.toInt = 149 → (4 : Int32).toInt = 1 by have q0 := r135_262.2; have q1 := (show (4 : Int32).toInt = 4 from by decide); omega)⟩ hP hD hS [] rfl (by decide) rfl (Nat.le_of_ble_eq_true rfl) (Nat.le_of_ble_eq_true rfl)
            by_cases h135_271 : v0.toInt = 123
            · have r135_272 : rg v0 123 123 := rg_at h135_271
              refine lv_lookup (off := 155) (tgt := 290) hx hb dX16_sortOf_135 (by decide) (by rw [h135_271]; rfl) (by decide) ?_
              refine lv_iconst (v := 3) hx hb dX16_sortOf_290 (by decide) ?_
              exact endq_i hQ hx hb hr hlocks dX16_sortOf_291 rfl () ⟨(rg_w (show rg (3 : Int32) 3 3 from rg_l (by decide)) (by decide)), (show (3 : Int32).toInt = srt v0.toInt by have q0 := r135_272.1; have q1 := r135_272.2; have q2 := r21_1001.1; have q3 := r21_1001.2; have q4 := r63_3.1; have q5 := r63_3.2; have q6 := (eq_and (c := 8) (k := 3) ez3_1 (by decide) (by decide)); have q7 := FF.out hi21_1002; have q8 := FF.out t25_2; have q9 := FF.out t30_2; have q10 := FF.out t57_2; have q11 := FF.out t63_2; have q12 := (eq_shr (c := 16) (k := 4) ez7_1 (by decide) (by decide)); have q13 := (eq_andbit (c := 8) (k := 3) ez12_1 (by decide) h_v0 (by decide)); have q14 := (show (3 : Int32).toInt = 3 from by decide); have q15 := (show (4 : Int32).toInt = 4 from by decide); have q16 := (show (5 : Int32).toInt = 5 from by decide); have q17 := (show (6 : Int32).toInt = 6 from by decide); have q18 := (show (7 : Int32).toInt = 7 from by decide); unfold srt; (repeat' split) <;> omega), (show (3 : Int32).toInt = 5 ∨ (3 : Int32).toInt = 6 → (v0.toInt = 32 ∨ v0.toInt = 40 ∨ v0.toInt = 48 ∨ v0.toInt = 64 ∨ v0.toInt = 72 ∨ v0.toInt = 80) by have q0 := (show (3 : Int32).toInt = 3 from by decide); omega), (show v0.toInt = 149 → (3 : Int32).toInt = 1 by have q0 := r135_272.2; have q1 := (show (3 : Int32).toInt = 3 from by decide); omega)⟩ hP hD hS [] rfl (by decide) rfl (Nat.le_of_ble_eq_true rfl) (Nat.le_of_ble_eq_true rfl)
            refine lv_lookup (off := 164) (tgt := 299) hx hb dX16_sortOf_135 (by decide) (by simp [Op.lookupswitch.offset, (show ¬ (32 : Int) = v0.toInt from fun q => h135_101 q.symm), (show ¬ (40 : Int) = v0.toInt from fun q => h135_111 q.symm), (show ¬ (48 : Int) = v0.toInt from fun q => h135_121 q.symm), (show ¬ (64 : Int) = v0.toInt from fun q => h135_131 q.symm), (show ¬ (72 : Int) = v0.toInt from fun q => h135_141 q.symm), (show ¬ (80 : Int) = v0.toInt from fun q => h135_151 q.symm), (show ¬ (97 : Int) = v0.toInt from fun q => h135_161 q.symm), (show ¬ (98 : Int) = v0.toInt from fun q => h135_171 q.symm), (show ¬ (99 : Int) = v0.toInt from fun q => h135_181 q.symm), (show ¬ (105 : Int) = v0.toInt from fun q => h135_191 q.symm), (show ¬ (106 : Int) = v0.toInt from fun q => h135_201 q.symm), (show ¬ (107 : Int) = v0.toInt from fun q => h135_211 q.symm), (show ¬ (113 : Int) = v0.toInt from fun q => h135_221 q.symm), (show ¬ (114 : Int) = v0.toInt from fun q => h135_231 q.symm), (show ¬ (115 : Int) = v0.toInt from fun q => h135_241 q.symm), (show ¬ (121 : Int) = v0.toInt from fun q => h135_251 q.symm), (show ¬ (122 : Int) = v0.toInt from fun q => h135_261 q.symm), (show ¬ (123 : Int) = v0.toInt from fun q => h135_271 q.symm)]) (by decide) ?_
            have hl135_5001 := FF.mk h135_101
            have hl135_5002 := FF.mk h135_111
            have hl135_5003 := FF.mk h135_121
            have hl135_5004 := FF.mk h135_131
            have hl135_5005 := FF.mk h135_141
            have hl135_5006 := FF.mk h135_151
            have hl135_5007 := FF.mk h135_161
            have hl135_5008 := FF.mk h135_171
            have hl135_5009 := FF.mk h135_181
            have hl135_5010 := FF.mk h135_191
            have hl135_5011 := FF.mk h135_201
            have hl135_5012 := FF.mk h135_211
            have hl135_5013 := FF.mk h135_221
            have hl135_5014 := FF.mk h135_231
            have hl135_5015 := FF.mk h135_241
            have hl135_5016 := FF.mk h135_251
            have hl135_5017 := FF.mk h135_261
            have hl135_5018 := FF.mk h135_271
            refine lv_iconst (v := (-1)) hx hb dX16_sortOf_299 (by decide) ?_
            exact endq_i hQ hx hb hr hlocks dX16_sortOf_300 rfl () ⟨(rg_w (show rg ((-1) : Int32) (-1) (-1) from rg_l (by decide)) (by decide)), (show (-1 : Int32).toInt = srt v0.toInt by have q0 := h_v0.1; have q1 := h_v0.2; have q2 := r21_1001.1; have q3 := r21_1001.2; have q4 := r63_3.1; have q5 := r63_3.2; have q6 := (eq_and (c := 8) (k := 3) ez3_1 (by decide) (by decide)); have q7 := FF.out hi21_1002; have q8 := FF.out t25_2; have q9 := FF.out t30_2; have q10 := FF.out t57_2; have q11 := FF.out t63_2; have q12 := FF.out hl135_5001; have q13 := FF.out hl135_5002; have q14 := FF.out hl135_5003; have q15 := FF.out hl135_5004; have q16 := FF.out hl135_5005; have q17 := FF.out hl135_5006; have q18 := FF.out hl135_5007; have q19 := FF.out hl135_5008; have q20 := FF.out hl135_5009; have q21 := FF.out hl135_5010; have q22 := FF.out hl135_5011; have q23 := FF.out hl135_5012; have q24 := FF.out hl135_5013; have q25 := FF.out hl135_5014; have q26 := FF.out hl135_5015; have q27 := FF.out hl135_5016; have q28 := FF.out hl135_5017; have q29 := FF.out hl135_5018; have q30 := (eq_shr (c := 16) (k := 4) ez7_1 (by decide) (by decide)); have q31 := (eq_andbit (c := 8) (k := 3) ez12_1 (by decide) h_v0 (by decide)); have q32 := (show (-1 : Int32).toInt = -1 from by decide); have q33 := (show (4 : Int32).toInt = 4 from by decide); have q34 := (show (5 : Int32).toInt = 5 from by decide); have q35 := (show (6 : Int32).toInt = 6 from by decide); have q36 := (show (7 : Int32).toInt = 7 from by decide); unfold srt; (repeat' split) <;> omega), (show (-1 : Int32).toInt = 5 ∨ (-1 : Int32).toInt = 6 → (v0.toInt = 32 ∨ v0.toInt = 40 ∨ v0.toInt = 48 ∨ v0.toInt = 64 ∨ v0.toInt = 72 ∨ v0.toInt = 80) by have q0 := (show (-1 : Int32).toInt = -1 from by decide); omega), (show v0.toInt = 149 → (-1 : Int32).toInt = 1 by have q0 := r63_3.2; have q1 := (eq_and (c := 8) (k := 3) ez3_1 (by decide) (by decide)); have q2 := FF.out t30_2; have q3 := FF.out t57_2; have q4 := (show (-1 : Int32).toInt = -1 from by decide); have q5 := (show (4 : Int32).toInt = 4 from by decide); have q6 := (show (5 : Int32).toInt = 5 from by decide); omega)⟩ hP hD hS [] rfl (by decide) rfl (Nat.le_of_ble_eq_true rfl) (Nat.le_of_ble_eq_true rfl)
          · have t63_2 := FF.mk (i_eq c63_1)
            have r63_3 : rg z3_1 6 6 := rg_eqA t63_2 r25_3 (show rg (6 : Int32) 6 6 from rg_l (by decide)) (by decide)
            exact b66  H locs ls (show v0.toInt % 8 = 5 ∨ v0.toInt % 8 = 6 by have q0 := r63_3.1; have q1 := r63_3.2; have q2 := (eq_and (c := 8) (k := 3) ez3_1 (by decide) (by decide)); omega) (lv_sub hl [1, 3] rfl) hP hD hS
      · have t30_2 := FF.mk (i_eq c30_1)
        have r30_3 : rg z3_1 4 4 := rg_eqA t30_2 r25_3 (show rg (4 : Int32) 4 4 from rg_l (by decide)) (by decide)
        exact b33  H locs ls (show v0.toInt % 8 = 7 ∨ v0.toInt % 8 = 4 by have q0 := r30_3.1; have q1 := r30_3.2; have q2 := (eq_and (c := 8) (k := 3) ez3_1 (by decide) (by decide)); omega) (lv_sub hl [3, 0] rfl) hP hD hS
  refine lv_if_eq (tgt := 20) hx hb dX16_sortOf_13 (by decide) (fun c13_1 => ?_) (fun c13_1 => ?_)
  · have t13_2 := FF.mk (i_eq c13_1)
    have r13_3 : rg z12_1 0 0 := rg_eqA t13_2 r12_2 (show rg (0 : Int32) 0 0 from rg_l (by decide)) (by decide)
    refine lv_iconst (v := 0) hx hb dX16_sortOf_20 (by decide) ?_
    exact b21 (0 : Int32) H locs ls (rg_w (show rg (0 : Int32) 0 0 from rg_l (by decide)) (by decide)) (show (0 : Int32).toInt = (v0.toInt / 8) % 2 by have q0 := r13_3.2; have q1 := (eq_andbit (c := 8) (k := 3) ez12_1 (by decide) h_v0 (by decide)); have q2 := (show (0 : Int32).toInt = 0 from by decide); omega) (lv_sub hl [2, 1, 0] rfl) hP hD hS
  · have t13_2 := FF.mk (i_ne c13_1)
    have r13_3 : rg z12_1 1 8 := rg_neAl t13_2 r12_2 (show rg (0 : Int32) 0 0 from rg_l (by decide)) (by decide)
    refine lv_iconst (v := 1) hx hb dX16_sortOf_16 (by decide) ?_
    refine lv_goto (tgt := 21) hx hb dX16_sortOf_17 (by decide) ?_
    exact b21 (1 : Int32) H locs ls (rg_w (show rg (1 : Int32) 1 1 from rg_l (by decide)) (by decide)) (show (1 : Int32).toInt = (v0.toInt / 8) % 2 by have q0 := r13_3.1; have q1 := (eq_andbit (c := 8) (k := 3) ez12_1 (by decide) h_v0 (by decide)); have q2 := (show (1 : Int32).toInt = 1 from by decide); omega) (lv_sub hl [2, 1, 0] rfl) hP hD hS
set_option maxHeartbeats 2000000 in
theorem c_X16_kOf (l : Launch) (D : va_G) (ct : Nat → ClassId) (v0 : Int64)  : KI (S := Unit) l yX16_kOf cX16_kOf 2 (some .int) 1 20 D ct [.long v0] [] 0 0 (fun (r : Int32) (_ : Unit) => True) (fun (_ : Unit) => []) := by
  refine KIq_of (by decide) (Nat.le_of_ble_eq_true rfl) (fun p e s m below meth c A Q C0 hA H locs hS hP hD hQ ls hl => ?_)
  obtain ⟨hx, hb, hr, hown, hin, hml, hlocks, hn, hK, hZ, hSK⟩ := C0
  have hl : lv_has ls 2 [(0, .long v0)] := hl
  refine lv_lload_n hx hb dX16_kOf_0 rfl (lv_at hl 0 rfl) ?_
  refine lv_bipush (v := 32) hx hb dX16_kOf_1 (by decide) ?_
  refine lv_lshr hx hb dX16_kOf_3 rfl ?_
  refine lv_topl (fun z3_1 ez3_1 => ?_)
  have r3_2 : rl z3_1 (-2147483648) 2147483647 := (rl_of (show (-2147483648) ≤ z3_1.toInt ∧ z3_1.toInt ≤ 2147483647 by have q0 := (rl_any z3_1).1; have q1 := (rl_any z3_1).2; have q2 := (eqL_shr (c := 4294967296) (k := 32) ez3_1 (by decide) (by decide)); have q3 := (rl_any v0).1; have q4 := (rl_any v0).2; omega))
  refine lv_l2i hx hb dX16_kOf_4 rfl ?_
  refine lv_topi (fun z4_1 ez4_1 => ?_)
  have r4_2 : rg z4_1 (-2147483648) 2147483647 := rg_l2i ez4_1 r3_2 (by decide)
  exact endq_i hQ hx hb hr hlocks dX16_kOf_5 rfl () trivial hP hD hS [] rfl (by decide) rfl (Nat.le_of_ble_eq_true rfl) (Nat.le_of_ble_eq_true rfl)
set_option maxHeartbeats 2000000 in
theorem c_X16_bySource (l : Launch) (D : va_G) (ct : Nat → ClassId) (v0 : Int32)  : KI (S := Unit) l yX16_bySource cX16_bySource 1 (some .boolean) 1 20 D ct [.int v0] [] 0 0 (fun (r : Int32) (_ : Unit) => rg r 0 1) (fun (_ : Unit) => []) := by
  refine KIq_of (by decide) (Nat.le_of_ble_eq_true rfl) (fun p e s m below meth c A Q C0 hA H locs hS hP hD hQ ls hl => ?_)
  obtain ⟨hx, hb, hr, hown, hin, hml, hlocks, hn, hK, hZ, hSK⟩ := C0
  have hl : lv_has ls 1 [(0, .int v0)] := hl
  refine lv_iload_n hx hb dX16_bySource_0 rfl (lv_at hl 0 rfl) ?_
  refine lv_bipush (v := 8) hx hb dX16_bySource_1 (by decide) ?_
  refine lv_iand hx hb dX16_bySource_3 ?_
  refine lv_topi (fun z3_1 ez3_1 => ?_)
  have r3_2 : rg z3_1 0 8 := rg_andr ez3_1 (show rg (8 : Int32) 8 8 from rg_l (by decide)) (by decide)
  refine lv_if_eq (tgt := 11) hx hb dX16_bySource_4 (by decide) (fun c4_1 => ?_) (fun c4_1 => ?_)
  · have t4_2 := FF.mk (i_eq c4_1)
    have r4_3 : rg z3_1 0 0 := rg_eqA t4_2 r3_2 (show rg (0 : Int32) 0 0 from rg_l (by decide)) (by decide)
    refine lv_iconst (v := 0) hx hb dX16_bySource_11 (by decide) ?_
    exact endq_i hQ hx hb hr hlocks dX16_bySource_12 (by decide) () (rg_w (show rg (0 : Int32) 0 0 from rg_l (by decide)) (by decide)) hP hD hS [] rfl (by decide) rfl (Nat.le_of_ble_eq_true rfl) (Nat.le_of_ble_eq_true rfl)
  · have t4_2 := FF.mk (i_ne c4_1)
    have r4_3 : rg z3_1 1 8 := rg_neAl t4_2 r3_2 (show rg (0 : Int32) 0 0 from rg_l (by decide)) (by decide)
    refine lv_iconst (v := 1) hx hb dX16_bySource_7 (by decide) ?_
    refine lv_goto (tgt := 12) hx hb dX16_bySource_8 (by decide) ?_
    exact endq_i hQ hx hb hr hlocks dX16_bySource_12 (by decide) () (rg_w (show rg (1 : Int32) 1 1 from rg_l (by decide)) (by decide)) hP hD hS [] rfl (by decide) rfl (Nat.le_of_ble_eq_true rfl) (Nat.le_of_ble_eq_true rfl)
set_option maxHeartbeats 2000000 in
theorem c_X16_sizeOf (l : Launch) (D : va_G) (ct : Nat → ClassId) (v0 : Int32)  : KI (S := Unit) l yX16_sizeOf cX16_sizeOf 2 (some .int) 1 20 D ct [.int v0] [] 0 0 (fun (r : Int32) (_ : Unit) => rg r 1 8 ∧ ((v0.toInt / 8) % 4 = 0 → r.toInt = 4) ∧ ((v0.toInt / 8) % 4 = 1 → r.toInt = 2) ∧ ((v0.toInt / 8) % 4 = 2 → r.toInt = 1) ∧ ((v0.toInt / 8) % 4 = 3 → r.toInt = 8)) (fun (_ : Unit) => []) := by
  refine KIq_of (by decide) (Nat.le_of_ble_eq_true rfl) (fun p e s m below meth c A Q C0 hA H locs hS hP hD hQ ls hl => ?_)
  obtain ⟨hx, hb, hr, hown, hin, hml, hlocks, hn, hK, hZ, hSK⟩ := C0
  have hl : lv_has ls 2 [(0, .int v0)] := hl
  refine lv_iload_n hx hb dX16_sizeOf_0 rfl (lv_at hl 0 rfl) ?_
  refine lv_iconst (v := 3) hx hb dX16_sizeOf_1 (by decide) ?_
  refine lv_ishr hx hb dX16_sizeOf_2 ?_
  refine lv_topi (fun z2_1 ez2_1 => ?_)
  have r2_2 : rg z2_1 (-268435456) 268435455 := rg_shr (k := 3) ez2_1 (by decide) (rg_any v0) (by decide)
  refine lv_iconst (v := 3) hx hb dX16_sizeOf_3 (by decide) ?_
  refine lv_iand hx hb dX16_sizeOf_4 ?_
  refine lv_topi (fun z4_1 ez4_1 => ?_)
  have r4_2 : rg z4_1 0 3 := rg_andr ez4_1 (show rg (3 : Int32) 3 3 from rg_l (by decide)) (by decide)
  refine lv_istore_n (lv' := [(1, .int z4_1), (0, .int v0)]) hx hb dX16_sizeOf_5 rfl hl (by decide) rfl (fun ls hl => ?_)
  refine lv_iload_n hx hb dX16_sizeOf_6 rfl (lv_at hl 0 rfl) ?_
  refine lv_if_ne (tgt := 14) hx hb dX16_sizeOf_7 (by decide) (fun c7_1 => ?_) (fun c7_1 => ?_)
  · have t7_2 := FF.mk (i_ne c7_1)
    have r7_3 : rg z4_1 1 3 := rg_neAl t7_2 r4_2 (show rg (0 : Int32) 0 0 from rg_l (by decide)) (by decide)
    refine lv_iload_n hx hb dX16_sizeOf_14 rfl (lv_at hl 0 rfl) ?_
    refine lv_iconst (v := 1) hx hb dX16_sizeOf_15 (by decide) ?_
    refine lv_icmp_ne (tgt := 23) hx hb dX16_sizeOf_16 (by decide) (fun c16_1 => ?_) (fun c16_1 => ?_)
    · have t16_2 := FF.mk (i_ne c16_1)
      have r16_3 : rg z4_1 2 3 := rg_neAl t16_2 r7_3 (show rg (1 : Int32) 1 1 from rg_l (by decide)) (by decide)
      refine lv_iload_n hx hb dX16_sizeOf_23 rfl (lv_at hl 0 rfl) ?_
      refine lv_iconst (v := 2) hx hb dX16_sizeOf_24 (by decide) ?_
      refine lv_icmp_ne (tgt := 32) hx hb dX16_sizeOf_25 (by decide) (fun c25_1 => ?_) (fun c25_1 => ?_)
      · have t25_2 := FF.mk (i_ne c25_1)
        have r25_3 : rg z4_1 3 3 := rg_neAl t25_2 r16_3 (show rg (2 : Int32) 2 2 from rg_l (by decide)) (by decide)
        refine lv_bipush (v := 8) hx hb dX16_sizeOf_32 (by decide) ?_
        exact endq_i hQ hx hb hr hlocks dX16_sizeOf_34 rfl () ⟨(rg_w (show rg (8 : Int32) 8 8 from rg_l (by decide)) (by decide)), (show (v0.toInt / 8) % 4 = 0 → (8 : Int32).toInt = 4 by have q0 := r25_3.1; have q1 := (eq_and (c := 4) (k := 2) ez4_1 (by decide) (by decide)); have q2 := (eq_shr (c := 8) (k := 3) ez2_1 (by decide) (by decide)); have q3 := (show (8 : Int32).toInt = 8 from by decide); omega), (show (v0.toInt / 8) % 4 = 1 → (8 : Int32).toInt = 2 by have q0 := r25_3.1; have q1 := (eq_and (c := 4) (k := 2) ez4_1 (by decide) (by decide)); have q2 := (eq_shr (c := 8) (k := 3) ez2_1 (by decide) (by decide)); have q3 := (show (8 : Int32).toInt = 8 from by decide); omega), (show (v0.toInt / 8) % 4 = 2 → (8 : Int32).toInt = 1 by have q0 := r25_3.1; have q1 := (eq_and (c := 4) (k := 2) ez4_1 (by decide) (by decide)); have q2 := (eq_shr (c := 8) (k := 3) ez2_1 (by decide) (by decide)); have q3 := (show (8 : Int32).toInt = 8 from by decide); omega), (show (v0.toInt / 8) % 4 = 3 → (8 : Int32).toInt = 8 by have q0 := (show (8 : Int32).toInt = 8 from by decide); omega)⟩ hP hD hS [] rfl (by decide) rfl (Nat.le_of_ble_eq_true rfl) (Nat.le_of_ble_eq_true rfl)
      · have t25_2 := FF.mk (i_eq c25_1)
        have r25_3 : rg z4_1 2 2 := rg_eqA t25_2 r16_3 (show rg (2 : Int32) 2 2 from rg_l (by decide)) (by decide)
        refine lv_iconst (v := 1) hx hb dX16_sizeOf_28 (by decide) ?_
        refine lv_goto (tgt := 34) hx hb dX16_sizeOf_29 (by decide) ?_
        exact endq_i hQ hx hb hr hlocks dX16_sizeOf_34 rfl () ⟨(rg_w (show rg (1 : Int32) 1 1 from rg_l (by decide)) (by decide)), (show (v0.toInt / 8) % 4 = 0 → (1 : Int32).toInt = 4 by have q0 := (eq_and (c := 4) (k := 2) ez4_1 (by decide) (by decide)); have q1 := (eq_shr (c := 8) (k := 3) ez2_1 (by decide) (by decide)); have q2 := FF.out t25_2; have q3 := (show (1 : Int32).toInt = 1 from by decide); have q4 := (show (2 : Int32).toInt = 2 from by decide); omega), (show (v0.toInt / 8) % 4 = 1 → (1 : Int32).toInt = 2 by have q0 := (eq_and (c := 4) (k := 2) ez4_1 (by decide) (by decide)); have q1 := (eq_shr (c := 8) (k := 3) ez2_1 (by decide) (by decide)); have q2 := FF.out t25_2; have q3 := (show (1 : Int32).toInt = 1 from by decide); have q4 := (show (2 : Int32).toInt = 2 from by decide); omega), (show (v0.toInt / 8) % 4 = 2 → (1 : Int32).toInt = 1 by have q0 := (show (1 : Int32).toInt = 1 from by decide); omega), (show (v0.toInt / 8) % 4 = 3 → (1 : Int32).toInt = 8 by have q0 := (eq_and (c := 4) (k := 2) ez4_1 (by decide) (by decide)); have q1 := (eq_shr (c := 8) (k := 3) ez2_1 (by decide) (by decide)); have q2 := FF.out t25_2; have q3 := (show (1 : Int32).toInt = 1 from by decide); have q4 := (show (2 : Int32).toInt = 2 from by decide); omega)⟩ hP hD hS [] rfl (by decide) rfl (Nat.le_of_ble_eq_true rfl) (Nat.le_of_ble_eq_true rfl)
    · have t16_2 := FF.mk (i_eq c16_1)
      have r16_3 : rg z4_1 1 1 := rg_eqA t16_2 r7_3 (show rg (1 : Int32) 1 1 from rg_l (by decide)) (by decide)
      refine lv_iconst (v := 2) hx hb dX16_sizeOf_19 (by decide) ?_
      refine lv_goto (tgt := 34) hx hb dX16_sizeOf_20 (by decide) ?_
      exact endq_i hQ hx hb hr hlocks dX16_sizeOf_34 rfl () ⟨(rg_w (show rg (2 : Int32) 2 2 from rg_l (by decide)) (by decide)), (show (v0.toInt / 8) % 4 = 0 → (2 : Int32).toInt = 4 by have q0 := (eq_and (c := 4) (k := 2) ez4_1 (by decide) (by decide)); have q1 := (eq_shr (c := 8) (k := 3) ez2_1 (by decide) (by decide)); have q2 := FF.out t16_2; have q3 := (show (1 : Int32).toInt = 1 from by decide); have q4 := (show (2 : Int32).toInt = 2 from by decide); omega), (show (v0.toInt / 8) % 4 = 1 → (2 : Int32).toInt = 2 by have q0 := (show (2 : Int32).toInt = 2 from by decide); omega), (show (v0.toInt / 8) % 4 = 2 → (2 : Int32).toInt = 1 by have q0 := (eq_and (c := 4) (k := 2) ez4_1 (by decide) (by decide)); have q1 := (eq_shr (c := 8) (k := 3) ez2_1 (by decide) (by decide)); have q2 := FF.out t16_2; have q3 := (show (1 : Int32).toInt = 1 from by decide); have q4 := (show (2 : Int32).toInt = 2 from by decide); omega), (show (v0.toInt / 8) % 4 = 3 → (2 : Int32).toInt = 8 by have q0 := (eq_and (c := 4) (k := 2) ez4_1 (by decide) (by decide)); have q1 := (eq_shr (c := 8) (k := 3) ez2_1 (by decide) (by decide)); have q2 := FF.out t16_2; have q3 := (show (1 : Int32).toInt = 1 from by decide); have q4 := (show (2 : Int32).toInt = 2 from by decide); omega)⟩ hP hD hS [] rfl (by decide) rfl (Nat.le_of_ble_eq_true rfl) (Nat.le_of_ble_eq_true rfl)
  · have t7_2 := FF.mk (i_eq c7_1)
    have r7_3 : rg z4_1 0 0 := rg_eqA t7_2 r4_2 (show rg (0 : Int32) 0 0 from rg_l (by decide)) (by decide)
    refine lv_iconst (v := 4) hx hb dX16_sizeOf_10 (by decide) ?_
    refine lv_goto (tgt := 34) hx hb dX16_sizeOf_11 (by decide) ?_
    exact endq_i hQ hx hb hr hlocks dX16_sizeOf_34 rfl () ⟨(rg_w (show rg (4 : Int32) 4 4 from rg_l (by decide)) (by decide)), (show (v0.toInt / 8) % 4 = 0 → (4 : Int32).toInt = 4 by have q0 := (show (4 : Int32).toInt = 4 from by decide); omega), (show (v0.toInt / 8) % 4 = 1 → (4 : Int32).toInt = 2 by have q0 := (eq_and (c := 4) (k := 2) ez4_1 (by decide) (by decide)); have q1 := (eq_shr (c := 8) (k := 3) ez2_1 (by decide) (by decide)); have q2 := FF.out t7_2; have q3 := (show (0 : Int32).toInt = 0 from by decide); have q4 := (show (4 : Int32).toInt = 4 from by decide); omega), (show (v0.toInt / 8) % 4 = 2 → (4 : Int32).toInt = 1 by have q0 := (eq_and (c := 4) (k := 2) ez4_1 (by decide) (by decide)); have q1 := (eq_shr (c := 8) (k := 3) ez2_1 (by decide) (by decide)); have q2 := FF.out t7_2; have q3 := (show (0 : Int32).toInt = 0 from by decide); have q4 := (show (4 : Int32).toInt = 4 from by decide); omega), (show (v0.toInt / 8) % 4 = 3 → (4 : Int32).toInt = 8 by have q0 := (eq_and (c := 4) (k := 2) ez4_1 (by decide) (by decide)); have q1 := (eq_shr (c := 8) (k := 3) ez2_1 (by decide) (by decide)); have q2 := FF.out t7_2; have q3 := (show (0 : Int32).toInt = 0 from by decide); have q4 := (show (4 : Int32).toInt = 4 from by decide); omega)⟩ hP hD hS [] rfl (by decide) rfl (Nat.le_of_ble_eq_true rfl) (Nat.le_of_ble_eq_true rfl)
set_option maxHeartbeats 2000000 in
theorem c_X16_isTold (l : Launch) (D : va_G) (ct : Nat → ClassId) (v0 : Int64)  : KI (S := Unit) l yX16_isTold cX16_isTold 10 (some .boolean) 2 44 D ct [.long v0] [] 0 0 (fun (r : Int32) (_ : Unit) => rg r 0 1 ∧ (r.toInt = 1 → (v0.toInt / 256) % 16 ≤ 10 ∧ (v0.toInt / 4096) % 16 ≤ 10 ∧ 0 ≤ srt (v0.toInt % 256))) (fun (_ : Unit) => []) := by
  refine KIq_of (by decide) (Nat.le_of_ble_eq_true rfl) (fun p e s m below meth c A Q C0 hA H locs hS hP hD hQ ls hl => ?_)
  obtain ⟨hx, hb, hr, hown, hin, hml, hlocks, hn, hK, hZ, hSK⟩ := C0
  have hl : lv_has ls 10 [(0, .long v0)] := hl
  refine lv_lload_n hx hb dX16_isTold_0 rfl (lv_at hl 0 rfl) ?_
  refine go_i (k1 := 0) (n1 := 0) (wr := []) [] [] (rn_S (As := [.long v0]) (rest := []) (c_X16_codeOf l D ct v0  _) (cb_of (n := 1) hn mw_2322 mw_13 mw_2320 mhX16_codeOf ⟨(Nat.le_of_ble_eq_true rfl), (Nat.le_of_ble_eq_true rfl)⟩) hx hb hml hown hn hK hSK hZ hS mw_2321 rfl hl.1 (Nat.le_of_ble_eq_true rfl) dX16_isTold_1 ⟨(Nat.le_of_ble_eq_true rfl), (Nat.le_of_ble_eq_true rfl)⟩) hP hD hS hA rfl rfl (by decide) (by decide) (by decide) (Nat.le_of_ble_eq_true rfl) (Nat.le_of_ble_eq_true rfl) (fun r1_1 u1_2 H locs hp1_3 hP hD hS => ?_)
  obtain ⟨hp1_4, hp1_5⟩ := hp1_3
  have hp1_4 : rg r1_1 0 255 := hp1_4
  replace hp1_5 : FF (r1_1.toInt = v0.toInt % 256) := hp1_5
  have hP : va_P D vwCl [] _ := hP
  have hD : va_D A [] := hD
  refine lv_istore_n (lv' := [(2, .int r1_1), (0, .long v0)]) hx hb dX16_isTold_4 rfl hl (by decide) rfl (fun ls hl => ?_)
  have hk5_1 : FF (srt r1_1.toInt = srt (v0.toInt % 256)) := congrArg srt (show r1_1.toInt = v0.toInt % 256 by have q0 := FF.out hp1_5; omega)
  refine lv_iload_n hx hb dX16_isTold_5 rfl (lv_at hl 0 rfl) ?_
  refine go_i (k1 := 0) (n1 := 0) (wr := []) [] [] (rn_S (As := [.int r1_1]) (rest := []) (c_X16_sortOf l D ct r1_1 hp1_4 _) (cb_of (n := 1) hn mw_2325 mw_13 mw_2323 mhX16_sortOf ⟨(Nat.le_of_ble_eq_true rfl), (Nat.le_of_ble_eq_true rfl)⟩) hx hb hml hown hn hK hSK hZ hS mw_2324 rfl hl.1 (Nat.le_of_ble_eq_true rfl) dX16_isTold_6 ⟨(Nat.le_of_ble_eq_true rfl), (Nat.le_of_ble_eq_true rfl)⟩) hP hD hS hA rfl rfl (by decide) (by decide) (by decide) (Nat.le_of_ble_eq_true rfl) (Nat.le_of_ble_eq_true rfl) (fun r6_1 u6_2 H locs hp6_3 hP hD hS => ?_)
  obtain ⟨hp6_4, hp6_5, hp6_6, hp6_7⟩ := hp6_3
  have hp6_4 : rg r6_1 (-1) 6 := hp6_4
  replace hp6_5 : FF (r6_1.toInt = srt r1_1.toInt) := hp6_5
  replace hp6_6 : FF (r6_1.toInt = 5 ∨ r6_1.toInt = 6 → (r1_1.toInt = 32 ∨ r1_1.toInt = 40 ∨ r1_1.toInt = 48 ∨ r1_1.toInt = 64 ∨ r1_1.toInt = 72 ∨ r1_1.toInt = 80)) := hp6_6
  replace hp6_7 : FF (r1_1.toInt = 149 → r6_1.toInt = 1) := hp6_7
  have hP : va_P D vwCl [] _ := hP
  have hD : va_D A [] := hD
  refine lv_istore_n (lv' := [(3, .int r6_1), (2, .int r1_1), (0, .long v0)]) hx hb dX16_isTold_9 rfl hl (by decide) rfl (fun ls hl => ?_)
  refine lv_iload_n hx hb dX16_isTold_10 rfl (lv_at hl 0 rfl) ?_
  refine lv_if_lt (tgt := 32) hx hb dX16_isTold_11 (by decide) (fun c11_1 => ?_) (fun c11_1 => ?_)
  · have t11_2 := FF.mk (i_lt c11_1)
    have r11_3 : rg r6_1 (-1) (-1) := rg_ltA t11_2 hp6_4 (show rg (0 : Int32) 0 0 from rg_l (by decide)) (by decide)
    refine lv_iconst (v := 0) hx hb dX16_isTold_32 (by decide) ?_
    exact endq_i hQ hx hb hr hlocks dX16_isTold_33 (by decide) () ⟨(rg_w (show rg (0 : Int32) 0 0 from rg_l (by decide)) (by decide)), (show (0 : Int32).toInt = 1 → (v0.toInt / 256) % 16 ≤ 10 ∧ (v0.toInt / 4096) % 16 ≤ 10 ∧ 0 ≤ srt (v0.toInt % 256) by have q0 := (show (0 : Int32).toInt = 0 from by decide); omega)⟩ hP hD hS [] rfl (by decide) rfl (Nat.le_of_ble_eq_true rfl) (Nat.le_of_ble_eq_true rfl)
  · have t11_2 := FF.mk (i_nlt c11_1)
    have r11_3 : rg r6_1 0 6 := rg_leB t11_2 (show rg (0 : Int32) 0 0 from rg_l (by decide)) hp6_4 (by decide)
    refine lv_lload_n hx hb dX16_isTold_14 rfl (lv_at hl 2 rfl) ?_
    refine go_i (k1 := 0) (n1 := 0) (wr := []) [] [] (rn_S (As := [.long v0]) (rest := []) (c_X16_dOf l D ct v0  _) (cb_of (n := 1) hn mw_2328 mw_13 mw_2326 mhX16_dOf ⟨(Nat.le_of_ble_eq_true rfl), (Nat.le_of_ble_eq_true rfl)⟩) hx hb hml hown hn hK hSK hZ hS mw_2327 rfl hl.1 (Nat.le_of_ble_eq_true rfl) dX16_isTold_15 ⟨(Nat.le_of_ble_eq_true rfl), (Nat.le_of_ble_eq_true rfl)⟩) hP hD hS hA rfl rfl (by decide) (by decide) (by decide) (Nat.le_of_ble_eq_true rfl) (Nat.le_of_ble_eq_true rfl) (fun r15_1 u15_2 H locs hp15_3 hP hD hS => ?_)
    obtain ⟨hp15_4, hp15_5⟩ := hp15_3
    have hp15_4 : rg r15_1 0 15 := hp15_4
    replace hp15_5 : FF (r15_1.toInt = (v0.toInt / 256) % 16) := hp15_5
    have hP : va_P D vwCl [] _ := hP
    have hD : va_D A [] := hD
    refine lv_bipush (v := 10) hx hb dX16_isTold_18 (by decide) ?_
    refine lv_icmp_gt (tgt := 32) hx hb dX16_isTold_20 (by decide) (fun c20_1 => ?_) (fun c20_1 => ?_)
    · have t20_2 := FF.mk (i_lt c20_1)
      have r20_3 : rg r15_1 11 15 := rg_ltB t20_2 (show rg (10 : Int32) 10 10 from rg_l (by decide)) hp15_4 (by decide)
      refine lv_iconst (v := 0) hx hb dX16_isTold_32 (by decide) ?_
      exact endq_i hQ hx hb hr hlocks dX16_isTold_33 (by decide) () ⟨(rg_w (show rg (0 : Int32) 0 0 from rg_l (by decide)) (by decide)), (show (0 : Int32).toInt = 1 → (v0.toInt / 256) % 16 ≤ 10 ∧ (v0.toInt / 4096) % 16 ≤ 10 ∧ 0 ≤ srt (v0.toInt % 256) by have q0 := (show (0 : Int32).toInt = 0 from by decide); omega)⟩ hP hD hS [] rfl (by decide) rfl (Nat.le_of_ble_eq_true rfl) (Nat.le_of_ble_eq_true rfl)
    · have t20_2 := FF.mk (i_nlt c20_1)
      have r20_3 : rg r15_1 0 10 := rg_leA t20_2 hp15_4 (show rg (10 : Int32) 10 10 from rg_l (by decide)) (by decide)
      refine lv_lload_n hx hb dX16_isTold_23 rfl (lv_at hl 2 rfl) ?_
      refine go_i (k1 := 0) (n1 := 0) (wr := []) [] [] (rn_S (As := [.long v0]) (rest := []) (c_X16_sOf l D ct v0  _) (cb_of (n := 1) hn mw_2331 mw_13 mw_2329 mhX16_sOf ⟨(Nat.le_of_ble_eq_true rfl), (Nat.le_of_ble_eq_true rfl)⟩) hx hb hml hown hn hK hSK hZ hS mw_2330 rfl hl.1 (Nat.le_of_ble_eq_true rfl) dX16_isTold_24 ⟨(Nat.le_of_ble_eq_true rfl), (Nat.le_of_ble_eq_true rfl)⟩) hP hD hS hA rfl rfl (by decide) (by decide) (by decide) (Nat.le_of_ble_eq_true rfl) (Nat.le_of_ble_eq_true rfl) (fun r24_1 u24_2 H locs hp24_3 hP hD hS => ?_)
      obtain ⟨hp24_4, hp24_5⟩ := hp24_3
      have hp24_4 : rg r24_1 0 15 := hp24_4
      replace hp24_5 : FF (r24_1.toInt = (v0.toInt / 4096) % 16) := hp24_5
      have hP : va_P D vwCl [] _ := hP
      have hD : va_D A [] := hD
      refine lv_bipush (v := 10) hx hb dX16_isTold_27 (by decide) ?_
      refine lv_icmp_le (tgt := 34) hx hb dX16_isTold_29 (by decide) (fun c29_1 => ?_) (fun c29_1 => ?_)
      · have t29_2 := FF.mk (i_le c29_1)
        have r29_3 : rg r24_1 0 10 := rg_leA t29_2 hp24_4 (show rg (10 : Int32) 10 10 from rg_l (by decide)) (by decide)
        refine lv_iload_n hx hb dX16_isTold_34 rfl (lv_at hl 0 rfl) ?_
        refine lv_iconst (v := 1) hx hb dX16_isTold_35 (by decide) ?_
        have b58 : ∀ (j58_s0 : Int32) (H : Heap) (locs : List Loc) (ls : Array Slot), (rg j58_s0 0 1) → lv_has ls 10 [(0, .long v0), (2, .int r1_1), (3, .int r6_1)] → va_P D vwCl [] H → va_D A [] → va_S A s.heap H locs → W p l e ({ frames := 2, cells := 0, slots := 0, locals := 44 }) s m [.long v0].toArray below meth c H locs 0 0 Q (F0 m 58 ls [.int j58_s0]) := by
          intro j58_s0 H locs ls r58_1001 hl hP hD hS
          refine lv_istore (lv' := [(4, .int j58_s0), (0, .long v0), (2, .int r1_1), (3, .int r6_1)]) hx hb dX16_isTold_58 hl (by decide) rfl (fun ls hl => ?_)
          refine lv_iload_n hx hb dX16_isTold_60 rfl (lv_at hl 3 rfl) ?_
          have b77 : ∀ (j77_s0 : Int32) (H : Heap) (locs : List Loc) (ls : Array Slot), (rg j77_s0 0 1) → lv_has ls 10 [(0, .long v0), (2, .int r1_1), (3, .int r6_1), (4, .int j58_s0)] → va_P D vwCl [] H → va_D A [] → va_S A s.heap H locs → W p l e ({ frames := 2, cells := 0, slots := 0, locals := 44 }) s m [.long v0].toArray below meth c H locs 0 0 Q (F0 m 77 ls [.int j77_s0]) := by
            intro j77_s0 H locs ls r77_1001 hl hP hD hS
            refine lv_istore (lv' := [(5, .int j77_s0), (0, .long v0), (2, .int r1_1), (3, .int r6_1), (4, .int j58_s0)]) hx hb dX16_isTold_77 hl (by decide) rfl (fun ls hl => ?_)
            refine lv_iload_n hx hb dX16_isTold_79 rfl (lv_at hl 3 rfl) ?_
            refine lv_iconst (v := 4) hx hb dX16_isTold_80 (by decide) ?_
            have b94 : ∀ (j94_s0 : Int32) (H : Heap) (locs : List Loc) (ls : Array Slot), (rg j94_s0 0 1) → lv_has ls 10 [(0, .long v0), (2, .int r1_1), (3, .int r6_1), (4, .int j58_s0), (5, .int j77_s0)] → va_P D vwCl [] H → va_D A [] → va_S A s.heap H locs → W p l e ({ frames := 2, cells := 0, slots := 0, locals := 44 }) s m [.long v0].toArray below meth c H locs 0 0 Q (F0 m 94 ls [.int j94_s0]) := by
              intro j94_s0 H locs ls r94_1001 hl hP hD hS
              refine lv_istore (lv' := [(6, .int j94_s0), (0, .long v0), (2, .int r1_1), (3, .int r6_1), (4, .int j58_s0), (5, .int j77_s0)]) hx hb dX16_isTold_94 hl (by decide) rfl (fun ls hl => ?_)
              refine lv_iload_n hx hb dX16_isTold_96 rfl (lv_at hl 3 rfl) ?_
              refine lv_iconst (v := 2) hx hb dX16_isTold_97 (by decide) ?_
              have b139 : ∀ (j139_s0 : Int32) (H : Heap) (locs : List Loc) (ls : Array Slot), (rg j139_s0 0 1) → lv_has ls 10 [(0, .long v0), (2, .int r1_1), (3, .int r6_1), (4, .int j58_s0), (5, .int j77_s0), (6, .int j94_s0)] → va_P D vwCl [] H → va_D A [] → va_S A s.heap H locs → W p l e ({ frames := 2, cells := 0, slots := 0, locals := 44 }) s m [.long v0].toArray below meth c H locs 0 0 Q (F0 m 139 ls [.int j139_s0]) := by
                intro j139_s0 H locs ls r139_1001 hl hP hD hS
                refine lv_istore (lv' := [(7, .int j139_s0), (0, .long v0), (2, .int r1_1), (3, .int r6_1), (4, .int j58_s0), (5, .int j77_s0), (6, .int j94_s0)]) hx hb dX16_isTold_139 hl (by decide) rfl (fun ls hl => ?_)
                refine lv_iload_n hx hb dX16_isTold_141 rfl (lv_at hl 3 rfl) ?_
                refine lv_iconst (v := 1) hx hb dX16_isTold_142 (by decide) ?_
                have b163 : ∀ (j163_s0 : Int32) (H : Heap) (locs : List Loc) (ls : Array Slot), (rg j163_s0 0 1) → lv_has ls 10 [(0, .long v0), (2, .int r1_1), (3, .int r6_1), (4, .int j58_s0), (5, .int j77_s0), (6, .int j94_s0), (7, .int j139_s0)] → va_P D vwCl [] H → va_D A [] → va_S A s.heap H locs → W p l e ({ frames := 2, cells := 0, slots := 0, locals := 44 }) s m [.long v0].toArray below meth c H locs 0 0 Q (F0 m 163 ls [.int j163_s0]) := by
                  intro j163_s0 H locs ls r163_1001 hl hP hD hS
                  refine lv_istore (lv' := [(8, .int j163_s0), (0, .long v0), (2, .int r1_1), (3, .int r6_1), (4, .int j58_s0), (5, .int j77_s0), (6, .int j94_s0), (7, .int j139_s0)]) hx hb dX16_isTold_163 hl (by decide) rfl (fun ls hl => ?_)
                  refine lv_iload_n hx hb dX16_isTold_165 rfl (lv_at hl 3 rfl) ?_
                  refine lv_iconst (v := 4) hx hb dX16_isTold_166 (by decide) ?_
                  have b197 : ∀ (j197_s0 : Int32) (H : Heap) (locs : List Loc) (ls : Array Slot), (rg j197_s0 0 1) → lv_has ls 10 [(0, .long v0), (6, .int j94_s0), (7, .int j139_s0), (8, .int j163_s0)] → va_P D vwCl [] H → va_D A [] → va_S A s.heap H locs → W p l e ({ frames := 2, cells := 0, slots := 0, locals := 44 }) s m [.long v0].toArray below meth c H locs 0 0 Q (F0 m 197 ls [.int j197_s0]) := by
                    intro j197_s0 H locs ls r197_1001 hl hP hD hS
                    refine lv_istore (lv' := [(9, .int j197_s0), (0, .long v0), (6, .int j94_s0), (7, .int j139_s0), (8, .int j163_s0)]) hx hb dX16_isTold_197 hl (by decide) rfl (fun ls hl => ?_)
                    refine lv_iload hx hb dX16_isTold_199 (lv_at hl 2 rfl) ?_
                    have b211 : ∀  (H : Heap) (locs : List Loc) (ls : Array Slot), lv_has ls 10 [(0, .long v0), (7, .int j139_s0), (8, .int j163_s0), (9, .int j197_s0)] → va_P D vwCl [] H → va_D A [] → va_S A s.heap H locs → W p l e ({ frames := 2, cells := 0, slots := 0, locals := 44 }) s m [.long v0].toArray below meth c H locs 0 0 Q (F0 m 211 ls []) := by
                      intro  H locs ls  hl hP hD hS
                      refine lv_iload hx hb dX16_isTold_211 (lv_at hl 1 rfl) ?_
                      have b223 : ∀  (H : Heap) (locs : List Loc) (ls : Array Slot), lv_has ls 10 [(0, .long v0), (8, .int j163_s0), (9, .int j197_s0)] → va_P D vwCl [] H → va_D A [] → va_S A s.heap H locs → W p l e ({ frames := 2, cells := 0, slots := 0, locals := 44 }) s m [.long v0].toArray below meth c H locs 0 0 Q (F0 m 223 ls []) := by
                        intro  H locs ls  hl hP hD hS
                        refine lv_iload hx hb dX16_isTold_223 (lv_at hl 1 rfl) ?_
                        have b235 : ∀  (H : Heap) (locs : List Loc) (ls : Array Slot), lv_has ls 10 [(0, .long v0), (9, .int j197_s0)] → va_P D vwCl [] H → va_D A [] → va_S A s.heap H locs → W p l e ({ frames := 2, cells := 0, slots := 0, locals := 44 }) s m [.long v0].toArray below meth c H locs 0 0 Q (F0 m 235 ls []) := by
                          intro  H locs ls  hl hP hD hS
                          refine lv_iload hx hb dX16_isTold_235 (lv_at hl 1 rfl) ?_
                          refine lv_if_ne (tgt := 247) hx hb dX16_isTold_237 (by decide) (fun c237_1 => ?_) (fun c237_1 => ?_)
                          · have t237_2 := FF.mk (i_ne c237_1)
                            have r237_3 : rg j197_s0 1 1 := rg_neAl t237_2 r197_1001 (show rg (0 : Int32) 0 0 from rg_l (by decide)) (by decide)
                            refine lv_iconst (v := 1) hx hb dX16_isTold_247 (by decide) ?_
                            refine lv_goto (tgt := 252) hx hb dX16_isTold_248 (by decide) ?_
                            exact endq_i hQ hx hb hr hlocks dX16_isTold_252 (by decide) () ⟨(rg_w (show rg (1 : Int32) 1 1 from rg_l (by decide)) (by decide)), (show (1 : Int32).toInt = 1 → (v0.toInt / 256) % 16 ≤ 10 ∧ (v0.toInt / 4096) % 16 ≤ 10 ∧ 0 ≤ srt (v0.toInt % 256) by have q0 := r20_3.2; have q1 := r29_3.2; have q2 := r11_3.1; have q3 := FF.out hk5_1; have q4 := FF.out hp6_5; have q5 := FF.out hp15_5; have q6 := FF.out hp24_5; have q7 := (show (1 : Int32).toInt = 1 from by decide); omega)⟩ hP hD hS [] rfl (by decide) rfl (Nat.le_of_ble_eq_true rfl) (Nat.le_of_ble_eq_true rfl)
                          · have t237_2 := FF.mk (i_eq c237_1)
                            have r237_3 : rg j197_s0 0 0 := rg_eqA t237_2 r197_1001 (show rg (0 : Int32) 0 0 from rg_l (by decide)) (by decide)
                            refine lv_lload_n hx hb dX16_isTold_240 rfl (lv_at hl 0 rfl) ?_
                            refine go_i (k1 := 0) (n1 := 0) (wr := []) [] [] (rn_S (As := [.long v0]) (rest := []) (c_X16_kOf l D ct v0  _) (cb_of (n := 1) hn mw_2346 mw_13 mw_2344 mhX16_kOf ⟨(Nat.le_of_ble_eq_true rfl), (Nat.le_of_ble_eq_true rfl)⟩) hx hb hml hown hn hK hSK hZ hS mw_2345 rfl hl.1 (Nat.le_of_ble_eq_true rfl) dX16_isTold_241 ⟨(Nat.le_of_ble_eq_true rfl), (Nat.le_of_ble_eq_true rfl)⟩) hP hD hS hA rfl rfl (by decide) (by decide) (by decide) (Nat.le_of_ble_eq_true rfl) (Nat.le_of_ble_eq_true rfl) (fun r241_1 u241_2 H locs hp241_3 hP hD hS => ?_)
                            have hP : va_P D vwCl [] _ := hP
                            have hD : va_D A [] := hD
                            refine lv_if_ne (tgt := 251) hx hb dX16_isTold_244 (by decide) (fun c244_1 => ?_) (fun c244_1 => ?_)
                            · have t244_2 := FF.mk (i_ne c244_1)
                              refine lv_iconst (v := 0) hx hb dX16_isTold_251 (by decide) ?_
                              exact endq_i hQ hx hb hr hlocks dX16_isTold_252 (by decide) () ⟨(rg_w (show rg (0 : Int32) 0 0 from rg_l (by decide)) (by decide)), (show (0 : Int32).toInt = 1 → (v0.toInt / 256) % 16 ≤ 10 ∧ (v0.toInt / 4096) % 16 ≤ 10 ∧ 0 ≤ srt (v0.toInt % 256) by have q0 := (show (0 : Int32).toInt = 0 from by decide); omega)⟩ hP hD hS [] rfl (by decide) rfl (Nat.le_of_ble_eq_true rfl) (Nat.le_of_ble_eq_true rfl)
                            · have t244_2 := FF.mk (i_eq c244_1)
                              have r244_3 : rg r241_1 0 0 := rg_eqA t244_2 (rg_any r241_1) (show rg (0 : Int32) 0 0 from rg_l (by decide)) (by decide)
                              refine lv_iconst (v := 1) hx hb dX16_isTold_247 (by decide) ?_
                              refine lv_goto (tgt := 252) hx hb dX16_isTold_248 (by decide) ?_
                              exact endq_i hQ hx hb hr hlocks dX16_isTold_252 (by decide) () ⟨(rg_w (show rg (1 : Int32) 1 1 from rg_l (by decide)) (by decide)), (show (1 : Int32).toInt = 1 → (v0.toInt / 256) % 16 ≤ 10 ∧ (v0.toInt / 4096) % 16 ≤ 10 ∧ 0 ≤ srt (v0.toInt % 256) by have q0 := r20_3.2; have q1 := r29_3.2; have q2 := r11_3.1; have q3 := FF.out hk5_1; have q4 := FF.out hp6_5; have q5 := FF.out hp15_5; have q6 := FF.out hp24_5; have q7 := (show (1 : Int32).toInt = 1 from by decide); omega)⟩ hP hD hS [] rfl (by decide) rfl (Nat.le_of_ble_eq_true rfl) (Nat.le_of_ble_eq_true rfl)
                        refine lv_if_ne (tgt := 235) hx hb dX16_isTold_225 (by decide) (fun c225_1 => ?_) (fun c225_1 => ?_)
                        · have t225_2 := FF.mk (i_ne c225_1)
                          have r225_3 : rg j163_s0 1 1 := rg_neAl t225_2 r163_1001 (show rg (0 : Int32) 0 0 from rg_l (by decide)) (by decide)
                          exact b235  H locs ls  (lv_sub hl [0, 2] rfl) hP hD hS
                        · have t225_2 := FF.mk (i_eq c225_1)
                          have r225_3 : rg j163_s0 0 0 := rg_eqA t225_2 r163_1001 (show rg (0 : Int32) 0 0 from rg_l (by decide)) (by decide)
                          refine lv_lload_n hx hb dX16_isTold_228 rfl (lv_at hl 0 rfl) ?_
                          refine go_i (k1 := 0) (n1 := 0) (wr := []) [] [] (rn_S (As := [.long v0]) (rest := []) (c_X16_offOf l D ct v0  _) (cb_of (n := 1) hn mw_2343 mw_13 mw_2341 mhX16_offOf ⟨(Nat.le_of_ble_eq_true rfl), (Nat.le_of_ble_eq_true rfl)⟩) hx hb hml hown hn hK hSK hZ hS mw_2342 rfl hl.1 (Nat.le_of_ble_eq_true rfl) dX16_isTold_229 ⟨(Nat.le_of_ble_eq_true rfl), (Nat.le_of_ble_eq_true rfl)⟩) hP hD hS hA rfl rfl (by decide) (by decide) (by decide) (Nat.le_of_ble_eq_true rfl) (Nat.le_of_ble_eq_true rfl) (fun r229_1 u229_2 H locs hp229_3 hP hD hS => ?_)
                          obtain ⟨hp229_4, hp229_5⟩ := hp229_3
                          have hp229_4 : rg r229_1 (-32768) 32767 := hp229_4
                          replace hp229_5 : FF (r229_1.toInt = (v0.toInt / 65536 + 32768) % 65536 - 32768) := hp229_5
                          have hP : va_P D vwCl [] _ := hP
                          have hD : va_D A [] := hD
                          refine lv_if_ne (tgt := 251) hx hb dX16_isTold_232 (by decide) (fun c232_1 => ?_) (fun c232_1 => ?_)
                          · have t232_2 := FF.mk (i_ne c232_1)
                            refine lv_iconst (v := 0) hx hb dX16_isTold_251 (by decide) ?_
                            exact endq_i hQ hx hb hr hlocks dX16_isTold_252 (by decide) () ⟨(rg_w (show rg (0 : Int32) 0 0 from rg_l (by decide)) (by decide)), (show (0 : Int32).toInt = 1 → (v0.toInt / 256) % 16 ≤ 10 ∧ (v0.toInt / 4096) % 16 ≤ 10 ∧ 0 ≤ srt (v0.toInt % 256) by have q0 := (show (0 : Int32).toInt = 0 from by decide); omega)⟩ hP hD hS [] rfl (by decide) rfl (Nat.le_of_ble_eq_true rfl) (Nat.le_of_ble_eq_true rfl)
                          · have t232_2 := FF.mk (i_eq c232_1)
                            have r232_3 : rg r229_1 0 0 := rg_eqA t232_2 hp229_4 (show rg (0 : Int32) 0 0 from rg_l (by decide)) (by decide)
                            exact b235  H locs ls  (lv_sub hl [0, 2] rfl) hP hD hS
                      refine lv_if_ne (tgt := 223) hx hb dX16_isTold_213 (by decide) (fun c213_1 => ?_) (fun c213_1 => ?_)
                      · have t213_2 := FF.mk (i_ne c213_1)
                        have r213_3 : rg j139_s0 1 1 := rg_neAl t213_2 r139_1001 (show rg (0 : Int32) 0 0 from rg_l (by decide)) (by decide)
                        exact b223  H locs ls  (lv_sub hl [0, 2, 3] rfl) hP hD hS
                      · have t213_2 := FF.mk (i_eq c213_1)
                        have r213_3 : rg j139_s0 0 0 := rg_eqA t213_2 r139_1001 (show rg (0 : Int32) 0 0 from rg_l (by decide)) (by decide)
                        refine lv_lload_n hx hb dX16_isTold_216 rfl (lv_at hl 0 rfl) ?_
                        refine go_i (k1 := 0) (n1 := 0) (wr := []) [] [] (rn_S (As := [.long v0]) (rest := []) (c_X16_sOf l D ct v0  _) (cb_of (n := 1) hn mw_2331 mw_13 mw_2329 mhX16_sOf ⟨(Nat.le_of_ble_eq_true rfl), (Nat.le_of_ble_eq_true rfl)⟩) hx hb hml hown hn hK hSK hZ hS mw_2330 rfl hl.1 (Nat.le_of_ble_eq_true rfl) dX16_isTold_217 ⟨(Nat.le_of_ble_eq_true rfl), (Nat.le_of_ble_eq_true rfl)⟩) hP hD hS hA rfl rfl (by decide) (by decide) (by decide) (Nat.le_of_ble_eq_true rfl) (Nat.le_of_ble_eq_true rfl) (fun r217_1 u217_2 H locs hp217_3 hP hD hS => ?_)
                        obtain ⟨hp217_4, hp217_5⟩ := hp217_3
                        have hp217_4 : rg r217_1 0 15 := hp217_4
                        replace hp217_5 : FF (r217_1.toInt = (v0.toInt / 4096) % 16) := hp217_5
                        have hP : va_P D vwCl [] _ := hP
                        have hD : va_D A [] := hD
                        refine lv_if_ne (tgt := 251) hx hb dX16_isTold_220 (by decide) (fun c220_1 => ?_) (fun c220_1 => ?_)
                        · have t220_2 := FF.mk (i_ne c220_1)
                          have r220_3 : rg r217_1 1 15 := rg_neAl t220_2 hp217_4 (show rg (0 : Int32) 0 0 from rg_l (by decide)) (by decide)
                          refine lv_iconst (v := 0) hx hb dX16_isTold_251 (by decide) ?_
                          exact endq_i hQ hx hb hr hlocks dX16_isTold_252 (by decide) () ⟨(rg_w (show rg (0 : Int32) 0 0 from rg_l (by decide)) (by decide)), (show (0 : Int32).toInt = 1 → (v0.toInt / 256) % 16 ≤ 10 ∧ (v0.toInt / 4096) % 16 ≤ 10 ∧ 0 ≤ srt (v0.toInt % 256) by have q0 := (show (0 : Int32).toInt = 0 from by decide); omega)⟩ hP hD hS [] rfl (by decide) rfl (Nat.le_of_ble_eq_true rfl) (Nat.le_of_ble_eq_true rfl)
                        · have t220_2 := FF.mk (i_eq c220_1)
                          have r220_3 : rg r217_1 0 0 := rg_eqA t220_2 hp217_4 (show rg (0 : Int32) 0 0 from rg_l (by decide)) (by decide)
                          exact b223  H locs ls  (lv_sub hl [0, 2, 3] rfl) hP hD hS
                    refine lv_if_ne (tgt := 211) hx hb dX16_isTold_201 (by decide) (fun c201_1 => ?_) (fun c201_1 => ?_)
                    · have t201_2 := FF.mk (i_ne c201_1)
                      have r201_3 : rg j94_s0 1 1 := rg_neAl t201_2 r94_1001 (show rg (0 : Int32) 0 0 from rg_l (by decide)) (by decide)
                      exact b211  H locs ls  (lv_sub hl [1, 3, 4, 0] rfl) hP hD hS
                    · have t201_2 := FF.mk (i_eq c201_1)
                      have r201_3 : rg j94_s0 0 0 := rg_eqA t201_2 r94_1001 (show rg (0 : Int32) 0 0 from rg_l (by decide)) (by decide)
                      refine lv_lload_n hx hb dX16_isTold_204 rfl (lv_at hl 1 rfl) ?_
                      refine go_i (k1 := 0) (n1 := 0) (wr := []) [] [] (rn_S (As := [.long v0]) (rest := []) (c_X16_dOf l D ct v0  _) (cb_of (n := 1) hn mw_2328 mw_13 mw_2326 mhX16_dOf ⟨(Nat.le_of_ble_eq_true rfl), (Nat.le_of_ble_eq_true rfl)⟩) hx hb hml hown hn hK hSK hZ hS mw_2327 rfl hl.1 (Nat.le_of_ble_eq_true rfl) dX16_isTold_205 ⟨(Nat.le_of_ble_eq_true rfl), (Nat.le_of_ble_eq_true rfl)⟩) hP hD hS hA rfl rfl (by decide) (by decide) (by decide) (Nat.le_of_ble_eq_true rfl) (Nat.le_of_ble_eq_true rfl) (fun r205_1 u205_2 H locs hp205_3 hP hD hS => ?_)
                      obtain ⟨hp205_4, hp205_5⟩ := hp205_3
                      have hp205_4 : rg r205_1 0 15 := hp205_4
                      replace hp205_5 : FF (r205_1.toInt = (v0.toInt / 256) % 16) := hp205_5
                      have hP : va_P D vwCl [] _ := hP
                      have hD : va_D A [] := hD
                      refine lv_if_ne (tgt := 251) hx hb dX16_isTold_208 (by decide) (fun c208_1 => ?_) (fun c208_1 => ?_)
                      · have t208_2 := FF.mk (i_ne c208_1)
                        have r208_3 : rg r205_1 1 15 := rg_neAl t208_2 hp205_4 (show rg (0 : Int32) 0 0 from rg_l (by decide)) (by decide)
                        refine lv_iconst (v := 0) hx hb dX16_isTold_251 (by decide) ?_
                        exact endq_i hQ hx hb hr hlocks dX16_isTold_252 (by decide) () ⟨(rg_w (show rg (0 : Int32) 0 0 from rg_l (by decide)) (by decide)), (show (0 : Int32).toInt = 1 → (v0.toInt / 256) % 16 ≤ 10 ∧ (v0.toInt / 4096) % 16 ≤ 10 ∧ 0 ≤ srt (v0.toInt % 256) by have q0 := (show (0 : Int32).toInt = 0 from by decide); omega)⟩ hP hD hS [] rfl (by decide) rfl (Nat.le_of_ble_eq_true rfl) (Nat.le_of_ble_eq_true rfl)
                      · have t208_2 := FF.mk (i_eq c208_1)
                        have r208_3 : rg r205_1 0 0 := rg_eqA t208_2 hp205_4 (show rg (0 : Int32) 0 0 from rg_l (by decide)) (by decide)
                        exact b211  H locs ls  (lv_sub hl [1, 3, 4, 0] rfl) hP hD hS
                  have b192 : ∀  (H : Heap) (locs : List Loc) (ls : Array Slot), lv_has ls 10 [(0, .long v0), (6, .int j94_s0), (7, .int j139_s0), (8, .int j163_s0)] → va_P D vwCl [] H → va_D A [] → va_S A s.heap H locs → W p l e ({ frames := 2, cells := 0, slots := 0, locals := 44 }) s m [.long v0].toArray below meth c H locs 0 0 Q (F0 m 192 ls []) := by
                    intro  H locs ls  hl hP hD hS
                    refine lv_iconst (v := 1) hx hb dX16_isTold_192 (by decide) ?_
                    refine lv_goto (tgt := 197) hx hb dX16_isTold_193 (by decide) ?_
                    exact b197 (1 : Int32) H locs ls (rg_w (show rg (1 : Int32) 1 1 from rg_l (by decide)) (by decide)) (lv_sub hl [0, 1, 2, 3] rfl) hP hD hS
                  refine lv_icmp_ge (tgt := 192) hx hb dX16_isTold_167 (by decide) (fun c167_1 => ?_) (fun c167_1 => ?_)
                  · have t167_2 := FF.mk (i_le c167_1)
                    have r167_3 : rg r6_1 4 6 := rg_leB t167_2 (show rg (4 : Int32) 4 4 from rg_l (by decide)) r11_3 (by decide)
                    exact b192  H locs ls  (lv_sub hl [1, 6, 7, 0] rfl) hP hD hS
                  · have t167_2 := FF.mk (i_nle c167_1)
                    have r167_3 : rg r6_1 0 3 := rg_ltA t167_2 r11_3 (show rg (4 : Int32) 4 4 from rg_l (by decide)) (by decide)
                    refine lv_iload_n hx hb dX16_isTold_170 rfl (lv_at hl 3 rfl) ?_
                    refine lv_iconst (v := 1) hx hb dX16_isTold_171 (by decide) ?_
                    have b196 : ∀  (H : Heap) (locs : List Loc) (ls : Array Slot), lv_has ls 10 [(0, .long v0), (6, .int j94_s0), (7, .int j139_s0), (8, .int j163_s0)] → va_P D vwCl [] H → va_D A [] → va_S A s.heap H locs → W p l e ({ frames := 2, cells := 0, slots := 0, locals := 44 }) s m [.long v0].toArray below meth c H locs 0 0 Q (F0 m 196 ls []) := by
                      intro  H locs ls  hl hP hD hS
                      refine lv_iconst (v := 0) hx hb dX16_isTold_196 (by decide) ?_
                      exact b197 (0 : Int32) H locs ls (rg_w (show rg (0 : Int32) 0 0 from rg_l (by decide)) (by decide)) (lv_sub hl [0, 1, 2, 3] rfl) hP hD hS
                    refine lv_icmp_gt (tgt := 196) hx hb dX16_isTold_172 (by decide) (fun c172_1 => ?_) (fun c172_1 => ?_)
                    · have t172_2 := FF.mk (i_lt c172_1)
                      have r172_3 : rg r6_1 2 3 := rg_ltB t172_2 (show rg (1 : Int32) 1 1 from rg_l (by decide)) r167_3 (by decide)
                      exact b196  H locs ls  (lv_sub hl [1, 6, 7, 0] rfl) hP hD hS
                    · have t172_2 := FF.mk (i_nlt c172_1)
                      have r172_3 : rg r6_1 0 1 := rg_leA t172_2 r167_3 (show rg (1 : Int32) 1 1 from rg_l (by decide)) (by decide)
                      refine lv_iload hx hb dX16_isTold_175 (lv_at hl 4 rfl) ?_
                      refine lv_if_ne (tgt := 196) hx hb dX16_isTold_177 (by decide) (fun c177_1 => ?_) (fun c177_1 => ?_)
                      · have t177_2 := FF.mk (i_ne c177_1)
                        have r177_3 : rg j58_s0 1 1 := rg_neAl t177_2 r58_1001 (show rg (0 : Int32) 0 0 from rg_l (by decide)) (by decide)
                        exact b196  H locs ls  (lv_sub hl [1, 6, 7, 0] rfl) hP hD hS
                      · have t177_2 := FF.mk (i_eq c177_1)
                        have r177_3 : rg j58_s0 0 0 := rg_eqA t177_2 r58_1001 (show rg (0 : Int32) 0 0 from rg_l (by decide)) (by decide)
                        refine lv_iload hx hb dX16_isTold_180 (lv_at hl 5 rfl) ?_
                        refine lv_if_ne (tgt := 196) hx hb dX16_isTold_182 (by decide) (fun c182_1 => ?_) (fun c182_1 => ?_)
                        · have t182_2 := FF.mk (i_ne c182_1)
                          have r182_3 : rg j77_s0 1 1 := rg_neAl t182_2 r77_1001 (show rg (0 : Int32) 0 0 from rg_l (by decide)) (by decide)
                          exact b196  H locs ls  (lv_sub hl [1, 6, 7, 0] rfl) hP hD hS
                        · have t182_2 := FF.mk (i_eq c182_1)
                          have r182_3 : rg j77_s0 0 0 := rg_eqA t182_2 r77_1001 (show rg (0 : Int32) 0 0 from rg_l (by decide)) (by decide)
                          refine lv_iload_n hx hb dX16_isTold_185 rfl (lv_at hl 2 rfl) ?_
                          refine go_i (k1 := 0) (n1 := 0) (wr := []) [] [] (rn_S (As := [.int r1_1]) (rest := []) (c_X16_bySource l D ct r1_1  _) (cb_of (n := 1) hn mw_2340 mw_13 mw_2338 mhX16_bySource ⟨(Nat.le_of_ble_eq_true rfl), (Nat.le_of_ble_eq_true rfl)⟩) hx hb hml hown hn hK hSK hZ hS mw_2339 rfl hl.1 (Nat.le_of_ble_eq_true rfl) dX16_isTold_186 ⟨(Nat.le_of_ble_eq_true rfl), (Nat.le_of_ble_eq_true rfl)⟩) hP hD hS hA rfl rfl (by decide) (by decide) (by decide) (Nat.le_of_ble_eq_true rfl) (Nat.le_of_ble_eq_true rfl) (fun r186_1 u186_2 H locs hp186_3 hP hD hS => ?_)
                          have hp186_4 := hp186_3
                          have hp186_4 : rg r186_1 0 1 := hp186_4
                          have hP : va_P D vwCl [] _ := hP
                          have hD : va_D A [] := hD
                          refine lv_if_ne (tgt := 196) hx hb dX16_isTold_189 (by decide) (fun c189_1 => ?_) (fun c189_1 => ?_)
                          · have t189_2 := FF.mk (i_ne c189_1)
                            have r189_3 : rg r186_1 1 1 := rg_neAl t189_2 hp186_4 (show rg (0 : Int32) 0 0 from rg_l (by decide)) (by decide)
                            exact b196  H locs ls  (lv_sub hl [1, 6, 7, 0] rfl) hP hD hS
                          · have t189_2 := FF.mk (i_eq c189_1)
                            have r189_3 : rg r186_1 0 0 := rg_eqA t189_2 hp186_4 (show rg (0 : Int32) 0 0 from rg_l (by decide)) (by decide)
                            exact b192  H locs ls  (lv_sub hl [1, 6, 7, 0] rfl) hP hD hS
                have b162 : ∀  (H : Heap) (locs : List Loc) (ls : Array Slot), lv_has ls 10 [(0, .long v0), (2, .int r1_1), (3, .int r6_1), (4, .int j58_s0), (5, .int j77_s0), (6, .int j94_s0), (7, .int j139_s0)] → va_P D vwCl [] H → va_D A [] → va_S A s.heap H locs → W p l e ({ frames := 2, cells := 0, slots := 0, locals := 44 }) s m [.long v0].toArray below meth c H locs 0 0 Q (F0 m 162 ls []) := by
                  intro  H locs ls  hl hP hD hS
                  refine lv_iconst (v := 0) hx hb dX16_isTold_162 (by decide) ?_
                  exact b163 (0 : Int32) H locs ls (rg_w (show rg (0 : Int32) 0 0 from rg_l (by decide)) (by decide)) (lv_sub hl [0, 1, 2, 3, 4, 5, 6] rfl) hP hD hS
                refine lv_icmp_lt (tgt := 162) hx hb dX16_isTold_143 (by decide) (fun c143_1 => ?_) (fun c143_1 => ?_)
                · have t143_2 := FF.mk (i_lt c143_1)
                  have r143_3 : rg r6_1 0 0 := rg_ltA t143_2 r11_3 (show rg (1 : Int32) 1 1 from rg_l (by decide)) (by decide)
                  exact b162  H locs ls  (lv_sub hl [1, 2, 3, 4, 5, 6, 0] rfl) hP hD hS
                · have t143_2 := FF.mk (i_nlt c143_1)
                  have r143_3 : rg r6_1 1 6 := rg_leB t143_2 (show rg (1 : Int32) 1 1 from rg_l (by decide)) r11_3 (by decide)
                  refine lv_iload_n hx hb dX16_isTold_146 rfl (lv_at hl 3 rfl) ?_
                  refine lv_iconst (v := 4) hx hb dX16_isTold_147 (by decide) ?_
                  refine lv_icmp_gt (tgt := 162) hx hb dX16_isTold_148 (by decide) (fun c148_1 => ?_) (fun c148_1 => ?_)
                  · have t148_2 := FF.mk (i_lt c148_1)
                    have r148_3 : rg r6_1 5 6 := rg_ltB t148_2 (show rg (4 : Int32) 4 4 from rg_l (by decide)) r143_3 (by decide)
                    exact b162  H locs ls  (lv_sub hl [1, 2, 3, 4, 5, 6, 0] rfl) hP hD hS
                  · have t148_2 := FF.mk (i_nlt c148_1)
                    have r148_3 : rg r6_1 1 4 := rg_leA t148_2 r143_3 (show rg (4 : Int32) 4 4 from rg_l (by decide)) (by decide)
                    refine lv_iload_n hx hb dX16_isTold_151 rfl (lv_at hl 2 rfl) ?_
                    refine go_i (k1 := 0) (n1 := 0) (wr := []) [] [] (rn_S (As := [.int r1_1]) (rest := []) (c_X16_isEnd l D ct r1_1  _) (cb_of (n := 1) hn mw_2334 mw_13 mw_2332 mhX16_isEnd ⟨(Nat.le_of_ble_eq_true rfl), (Nat.le_of_ble_eq_true rfl)⟩) hx hb hml hown hn hK hSK hZ hS mw_2333 rfl hl.1 (Nat.le_of_ble_eq_true rfl) dX16_isTold_152 ⟨(Nat.le_of_ble_eq_true rfl), (Nat.le_of_ble_eq_true rfl)⟩) hP hD hS hA rfl rfl (by decide) (by decide) (by decide) (Nat.le_of_ble_eq_true rfl) (Nat.le_of_ble_eq_true rfl) (fun r152_1 u152_2 H locs hp152_3 hP hD hS => ?_)
                    obtain ⟨hp152_4, hp152_5, hp152_6⟩ := hp152_3
                    have hp152_4 : rg r152_1 0 1 := hp152_4
                    replace hp152_5 : FF (r152_1.toInt = 1 → r1_1.toInt = 149) := hp152_5
                    replace hp152_6 : FF (r152_1.toInt = 0 → r1_1.toInt ≠ 149) := hp152_6
                    have hP : va_P D vwCl [] _ := hP
                    have hD : va_D A [] := hD
                    refine lv_if_ne (tgt := 162) hx hb dX16_isTold_155 (by decide) (fun c155_1 => ?_) (fun c155_1 => ?_)
                    · have t155_2 := FF.mk (i_ne c155_1)
                      have r155_3 : rg r152_1 1 1 := rg_neAl t155_2 hp152_4 (show rg (0 : Int32) 0 0 from rg_l (by decide)) (by decide)
                      exact b162  H locs ls  (lv_sub hl [1, 2, 3, 4, 5, 6, 0] rfl) hP hD hS
                    · have t155_2 := FF.mk (i_eq c155_1)
                      have r155_3 : rg r152_1 0 0 := rg_eqA t155_2 hp152_4 (show rg (0 : Int32) 0 0 from rg_l (by decide)) (by decide)
                      refine lv_iconst (v := 1) hx hb dX16_isTold_158 (by decide) ?_
                      refine lv_goto (tgt := 163) hx hb dX16_isTold_159 (by decide) ?_
                      exact b163 (1 : Int32) H locs ls (rg_w (show rg (1 : Int32) 1 1 from rg_l (by decide)) (by decide)) (lv_sub hl [1, 2, 3, 4, 5, 6, 0] rfl) hP hD hS
              have b134 : ∀  (H : Heap) (locs : List Loc) (ls : Array Slot), lv_has ls 10 [(0, .long v0), (2, .int r1_1), (3, .int r6_1), (4, .int j58_s0), (5, .int j77_s0), (6, .int j94_s0)] → va_P D vwCl [] H → va_D A [] → va_S A s.heap H locs → W p l e ({ frames := 2, cells := 0, slots := 0, locals := 44 }) s m [.long v0].toArray below meth c H locs 0 0 Q (F0 m 134 ls []) := by
                intro  H locs ls  hl hP hD hS
                refine lv_iconst (v := 1) hx hb dX16_isTold_134 (by decide) ?_
                refine lv_goto (tgt := 139) hx hb dX16_isTold_135 (by decide) ?_
                exact b139 (1 : Int32) H locs ls (rg_w (show rg (1 : Int32) 1 1 from rg_l (by decide)) (by decide)) (lv_sub hl [0, 1, 2, 3, 4, 5] rfl) hP hD hS
              refine lv_icmp_eq (tgt := 134) hx hb dX16_isTold_98 (by decide) (fun c98_1 => ?_) (fun c98_1 => ?_)
              · have t98_2 := FF.mk (i_eq c98_1)
                have r98_3 : rg r6_1 2 2 := rg_eqA t98_2 r11_3 (show rg (2 : Int32) 2 2 from rg_l (by decide)) (by decide)
                exact b134  H locs ls  (lv_sub hl [1, 2, 3, 4, 5, 0] rfl) hP hD hS
              · have t98_2 := FF.mk (i_ne c98_1)
                refine lv_iload_n hx hb dX16_isTold_101 rfl (lv_at hl 3 rfl) ?_
                refine lv_iconst (v := 3) hx hb dX16_isTold_102 (by decide) ?_
                refine lv_icmp_eq (tgt := 134) hx hb dX16_isTold_103 (by decide) (fun c103_1 => ?_) (fun c103_1 => ?_)
                · have t103_2 := FF.mk (i_eq c103_1)
                  have r103_3 : rg r6_1 3 3 := rg_eqA t103_2 r11_3 (show rg (3 : Int32) 3 3 from rg_l (by decide)) (by decide)
                  exact b134  H locs ls  (lv_sub hl [1, 2, 3, 4, 5, 0] rfl) hP hD hS
                · have t103_2 := FF.mk (i_ne c103_1)
                  refine lv_iload_n hx hb dX16_isTold_106 rfl (lv_at hl 3 rfl) ?_
                  refine lv_bipush (v := 6) hx hb dX16_isTold_107 (by decide) ?_
                  refine lv_icmp_eq (tgt := 134) hx hb dX16_isTold_109 (by decide) (fun c109_1 => ?_) (fun c109_1 => ?_)
                  · have t109_2 := FF.mk (i_eq c109_1)
                    have r109_3 : rg r6_1 6 6 := rg_eqA t109_2 r11_3 (show rg (6 : Int32) 6 6 from rg_l (by decide)) (by decide)
                    exact b134  H locs ls  (lv_sub hl [1, 2, 3, 4, 5, 0] rfl) hP hD hS
                  · have t109_2 := FF.mk (i_ne c109_1)
                    have r109_3 : rg r6_1 0 5 := rg_neAh t109_2 r11_3 (show rg (6 : Int32) 6 6 from rg_l (by decide)) (by decide)
                    refine lv_iload_n hx hb dX16_isTold_112 rfl (lv_at hl 3 rfl) ?_
                    refine lv_iconst (v := 1) hx hb dX16_isTold_113 (by decide) ?_
                    have b138 : ∀  (H : Heap) (locs : List Loc) (ls : Array Slot), lv_has ls 10 [(0, .long v0), (2, .int r1_1), (3, .int r6_1), (4, .int j58_s0), (5, .int j77_s0), (6, .int j94_s0)] → va_P D vwCl [] H → va_D A [] → va_S A s.heap H locs → W p l e ({ frames := 2, cells := 0, slots := 0, locals := 44 }) s m [.long v0].toArray below meth c H locs 0 0 Q (F0 m 138 ls []) := by
                      intro  H locs ls  hl hP hD hS
                      refine lv_iconst (v := 0) hx hb dX16_isTold_138 (by decide) ?_
                      exact b139 (0 : Int32) H locs ls (rg_w (show rg (0 : Int32) 0 0 from rg_l (by decide)) (by decide)) (lv_sub hl [0, 1, 2, 3, 4, 5] rfl) hP hD hS
                    refine lv_icmp_gt (tgt := 138) hx hb dX16_isTold_114 (by decide) (fun c114_1 => ?_) (fun c114_1 => ?_)
                    · have t114_2 := FF.mk (i_lt c114_1)
                      have r114_3 : rg r6_1 2 5 := rg_ltB t114_2 (show rg (1 : Int32) 1 1 from rg_l (by decide)) r109_3 (by decide)
                      exact b138  H locs ls  (lv_sub hl [1, 2, 3, 4, 5, 0] rfl) hP hD hS
                    · have t114_2 := FF.mk (i_nlt c114_1)
                      have r114_3 : rg r6_1 0 1 := rg_leA t114_2 r109_3 (show rg (1 : Int32) 1 1 from rg_l (by decide)) (by decide)
                      refine lv_iload hx hb dX16_isTold_117 (lv_at hl 4 rfl) ?_
                      refine lv_if_ne (tgt := 138) hx hb dX16_isTold_119 (by decide) (fun c119_1 => ?_) (fun c119_1 => ?_)
                      · have t119_2 := FF.mk (i_ne c119_1)
                        have r119_3 : rg j58_s0 1 1 := rg_neAl t119_2 r58_1001 (show rg (0 : Int32) 0 0 from rg_l (by decide)) (by decide)
                        exact b138  H locs ls  (lv_sub hl [1, 2, 3, 4, 5, 0] rfl) hP hD hS
                      · have t119_2 := FF.mk (i_eq c119_1)
                        have r119_3 : rg j58_s0 0 0 := rg_eqA t119_2 r58_1001 (show rg (0 : Int32) 0 0 from rg_l (by decide)) (by decide)
                        refine lv_iload hx hb dX16_isTold_122 (lv_at hl 5 rfl) ?_
                        refine lv_if_ne (tgt := 138) hx hb dX16_isTold_124 (by decide) (fun c124_1 => ?_) (fun c124_1 => ?_)
                        · have t124_2 := FF.mk (i_ne c124_1)
                          have r124_3 : rg j77_s0 1 1 := rg_neAl t124_2 r77_1001 (show rg (0 : Int32) 0 0 from rg_l (by decide)) (by decide)
                          exact b138  H locs ls  (lv_sub hl [1, 2, 3, 4, 5, 0] rfl) hP hD hS
                        · have t124_2 := FF.mk (i_eq c124_1)
                          have r124_3 : rg j77_s0 0 0 := rg_eqA t124_2 r77_1001 (show rg (0 : Int32) 0 0 from rg_l (by decide)) (by decide)
                          refine lv_iload_n hx hb dX16_isTold_127 rfl (lv_at hl 2 rfl) ?_
                          refine go_i (k1 := 0) (n1 := 0) (wr := []) [] [] (rn_S (As := [.int r1_1]) (rest := []) (c_X16_bySource l D ct r1_1  _) (cb_of (n := 1) hn mw_2340 mw_13 mw_2338 mhX16_bySource ⟨(Nat.le_of_ble_eq_true rfl), (Nat.le_of_ble_eq_true rfl)⟩) hx hb hml hown hn hK hSK hZ hS mw_2339 rfl hl.1 (Nat.le_of_ble_eq_true rfl) dX16_isTold_128 ⟨(Nat.le_of_ble_eq_true rfl), (Nat.le_of_ble_eq_true rfl)⟩) hP hD hS hA rfl rfl (by decide) (by decide) (by decide) (Nat.le_of_ble_eq_true rfl) (Nat.le_of_ble_eq_true rfl) (fun r128_1 u128_2 H locs hp128_3 hP hD hS => ?_)
                          have hp128_4 := hp128_3
                          have hp128_4 : rg r128_1 0 1 := hp128_4
                          have hP : va_P D vwCl [] _ := hP
                          have hD : va_D A [] := hD
                          refine lv_if_eq (tgt := 138) hx hb dX16_isTold_131 (by decide) (fun c131_1 => ?_) (fun c131_1 => ?_)
                          · have t131_2 := FF.mk (i_eq c131_1)
                            have r131_3 : rg r128_1 0 0 := rg_eqA t131_2 hp128_4 (show rg (0 : Int32) 0 0 from rg_l (by decide)) (by decide)
                            exact b138  H locs ls  (lv_sub hl [1, 2, 3, 4, 5, 0] rfl) hP hD hS
                          · have t131_2 := FF.mk (i_ne c131_1)
                            have r131_3 : rg r128_1 1 1 := rg_neAl t131_2 hp128_4 (show rg (0 : Int32) 0 0 from rg_l (by decide)) (by decide)
                            exact b134  H locs ls  (lv_sub hl [1, 2, 3, 4, 5, 0] rfl) hP hD hS
            have b93 : ∀  (H : Heap) (locs : List Loc) (ls : Array Slot), lv_has ls 10 [(0, .long v0), (2, .int r1_1), (3, .int r6_1), (4, .int j58_s0), (5, .int j77_s0)] → va_P D vwCl [] H → va_D A [] → va_S A s.heap H locs → W p l e ({ frames := 2, cells := 0, slots := 0, locals := 44 }) s m [.long v0].toArray below meth c H locs 0 0 Q (F0 m 93 ls []) := by
              intro  H locs ls  hl hP hD hS
              refine lv_iconst (v := 0) hx hb dX16_isTold_93 (by decide) ?_
              exact b94 (0 : Int32) H locs ls (rg_w (show rg (0 : Int32) 0 0 from rg_l (by decide)) (by decide)) (lv_sub hl [0, 1, 2, 3, 4] rfl) hP hD hS
            refine lv_icmp_gt (tgt := 93) hx hb dX16_isTold_81 (by decide) (fun c81_1 => ?_) (fun c81_1 => ?_)
            · have t81_2 := FF.mk (i_lt c81_1)
              have r81_3 : rg r6_1 5 6 := rg_ltB t81_2 (show rg (4 : Int32) 4 4 from rg_l (by decide)) r11_3 (by decide)
              exact b93  H locs ls  (lv_sub hl [1, 2, 3, 4, 0] rfl) hP hD hS
            · have t81_2 := FF.mk (i_nlt c81_1)
              have r81_3 : rg r6_1 0 4 := rg_leA t81_2 r11_3 (show rg (4 : Int32) 4 4 from rg_l (by decide)) (by decide)
              refine lv_iload hx hb dX16_isTold_84 (lv_at hl 4 rfl) ?_
              refine lv_if_ne (tgt := 93) hx hb dX16_isTold_86 (by decide) (fun c86_1 => ?_) (fun c86_1 => ?_)
              · have t86_2 := FF.mk (i_ne c86_1)
                have r86_3 : rg j58_s0 1 1 := rg_neAl t86_2 r58_1001 (show rg (0 : Int32) 0 0 from rg_l (by decide)) (by decide)
                exact b93  H locs ls  (lv_sub hl [1, 2, 3, 4, 0] rfl) hP hD hS
              · have t86_2 := FF.mk (i_eq c86_1)
                have r86_3 : rg j58_s0 0 0 := rg_eqA t86_2 r58_1001 (show rg (0 : Int32) 0 0 from rg_l (by decide)) (by decide)
                refine lv_iconst (v := 1) hx hb dX16_isTold_89 (by decide) ?_
                refine lv_goto (tgt := 94) hx hb dX16_isTold_90 (by decide) ?_
                exact b94 (1 : Int32) H locs ls (rg_w (show rg (1 : Int32) 1 1 from rg_l (by decide)) (by decide)) (lv_sub hl [1, 2, 3, 4, 0] rfl) hP hD hS
          have b76 : ∀  (H : Heap) (locs : List Loc) (ls : Array Slot), lv_has ls 10 [(0, .long v0), (2, .int r1_1), (3, .int r6_1), (4, .int j58_s0)] → va_P D vwCl [] H → va_D A [] → va_S A s.heap H locs → W p l e ({ frames := 2, cells := 0, slots := 0, locals := 44 }) s m [.long v0].toArray below meth c H locs 0 0 Q (F0 m 76 ls []) := by
            intro  H locs ls  hl hP hD hS
            refine lv_iconst (v := 0) hx hb dX16_isTold_76 (by decide) ?_
            exact b77 (0 : Int32) H locs ls (rg_w (show rg (0 : Int32) 0 0 from rg_l (by decide)) (by decide)) (lv_sub hl [0, 1, 2, 3] rfl) hP hD hS
          refine lv_if_ne (tgt := 76) hx hb dX16_isTold_61 (by decide) (fun c61_1 => ?_) (fun c61_1 => ?_)
          · have t61_2 := FF.mk (i_ne c61_1)
            have r61_3 : rg r6_1 1 6 := rg_neAl t61_2 r11_3 (show rg (0 : Int32) 0 0 from rg_l (by decide)) (by decide)
            exact b76  H locs ls  (lv_sub hl [1, 2, 3, 0] rfl) hP hD hS
          · have t61_2 := FF.mk (i_eq c61_1)
            have r61_3 : rg r6_1 0 0 := rg_eqA t61_2 r11_3 (show rg (0 : Int32) 0 0 from rg_l (by decide)) (by decide)
            refine lv_iload_n hx hb dX16_isTold_64 rfl (lv_at hl 2 rfl) ?_
            refine lv_iconst (v := 4) hx hb dX16_isTold_65 (by decide) ?_
            refine lv_ishr hx hb dX16_isTold_66 ?_
            refine lv_topi (fun z66_1 ez66_1 => ?_)
            have r66_2 : rg z66_1 0 15 := rg_shr (k := 4) ez66_1 (by decide) hp1_4 (by decide)
            refine lv_bipush (v := 8) hx hb dX16_isTold_67 (by decide) ?_
            refine lv_icmp_ne (tgt := 76) hx hb dX16_isTold_69 (by decide) (fun c69_1 => ?_) (fun c69_1 => ?_)
            · have t69_2 := FF.mk (i_ne c69_1)
              exact b76  H locs ls  (lv_sub hl [1, 2, 3, 0] rfl) hP hD hS
            · have t69_2 := FF.mk (i_eq c69_1)
              have r69_3 : rg z66_1 8 8 := rg_eqA t69_2 r66_2 (show rg (8 : Int32) 8 8 from rg_l (by decide)) (by decide)
              refine lv_iconst (v := 1) hx hb dX16_isTold_72 (by decide) ?_
              refine lv_goto (tgt := 77) hx hb dX16_isTold_73 (by decide) ?_
              exact b77 (1 : Int32) H locs ls (rg_w (show rg (1 : Int32) 1 1 from rg_l (by decide)) (by decide)) (lv_sub hl [1, 2, 3, 0] rfl) hP hD hS
        have b57 : ∀  (H : Heap) (locs : List Loc) (ls : Array Slot), lv_has ls 10 [(0, .long v0), (2, .int r1_1), (3, .int r6_1)] → va_P D vwCl [] H → va_D A [] → va_S A s.heap H locs → W p l e ({ frames := 2, cells := 0, slots := 0, locals := 44 }) s m [.long v0].toArray below meth c H locs 0 0 Q (F0 m 57 ls []) := by
          intro  H locs ls  hl hP hD hS
          refine lv_iconst (v := 0) hx hb dX16_isTold_57 (by decide) ?_
          exact b58 (0 : Int32) H locs ls (rg_w (show rg (0 : Int32) 0 0 from rg_l (by decide)) (by decide)) (lv_sub hl [0, 1, 2] rfl) hP hD hS
        refine lv_icmp_ne (tgt := 57) hx hb dX16_isTold_36 (by decide) (fun c36_1 => ?_) (fun c36_1 => ?_)
        · have t36_2 := FF.mk (i_ne c36_1)
          exact b57  H locs ls  (lv_sub hl [2, 1, 0] rfl) hP hD hS
        · have t36_2 := FF.mk (i_eq c36_1)
          have r36_3 : rg r6_1 1 1 := rg_eqA t36_2 r11_3 (show rg (1 : Int32) 1 1 from rg_l (by decide)) (by decide)
          refine lv_iload_n hx hb dX16_isTold_39 rfl (lv_at hl 1 rfl) ?_
          refine go_i (k1 := 0) (n1 := 0) (wr := []) [] [] (rn_S (As := [.int r1_1]) (rest := []) (c_X16_isEnd l D ct r1_1  _) (cb_of (n := 1) hn mw_2334 mw_13 mw_2332 mhX16_isEnd ⟨(Nat.le_of_ble_eq_true rfl), (Nat.le_of_ble_eq_true rfl)⟩) hx hb hml hown hn hK hSK hZ hS mw_2333 rfl hl.1 (Nat.le_of_ble_eq_true rfl) dX16_isTold_40 ⟨(Nat.le_of_ble_eq_true rfl), (Nat.le_of_ble_eq_true rfl)⟩) hP hD hS hA rfl rfl (by decide) (by decide) (by decide) (Nat.le_of_ble_eq_true rfl) (Nat.le_of_ble_eq_true rfl) (fun r40_1 u40_2 H locs hp40_3 hP hD hS => ?_)
          obtain ⟨hp40_4, hp40_5, hp40_6⟩ := hp40_3
          have hp40_4 : rg r40_1 0 1 := hp40_4
          replace hp40_5 : FF (r40_1.toInt = 1 → r1_1.toInt = 149) := hp40_5
          replace hp40_6 : FF (r40_1.toInt = 0 → r1_1.toInt ≠ 149) := hp40_6
          have hP : va_P D vwCl [] _ := hP
          have hD : va_D A [] := hD
          have b53 : ∀  (H : Heap) (locs : List Loc) (ls : Array Slot), lv_has ls 10 [(0, .long v0), (2, .int r1_1), (3, .int r6_1)] → va_P D vwCl [] H → va_D A [] → va_S A s.heap H locs → W p l e ({ frames := 2, cells := 0, slots := 0, locals := 44 }) s m [.long v0].toArray below meth c H locs 0 0 Q (F0 m 53 ls []) := by
            intro  H locs ls  hl hP hD hS
            refine lv_iconst (v := 1) hx hb dX16_isTold_53 (by decide) ?_
            refine lv_goto (tgt := 58) hx hb dX16_isTold_54 (by decide) ?_
            exact b58 (1 : Int32) H locs ls (rg_w (show rg (1 : Int32) 1 1 from rg_l (by decide)) (by decide)) (lv_sub hl [0, 1, 2] rfl) hP hD hS
          refine lv_if_ne (tgt := 53) hx hb dX16_isTold_43 (by decide) (fun c43_1 => ?_) (fun c43_1 => ?_)
          · have t43_2 := FF.mk (i_ne c43_1)
            have r43_3 : rg r40_1 1 1 := rg_neAl t43_2 hp40_4 (show rg (0 : Int32) 0 0 from rg_l (by decide)) (by decide)
            exact b53  H locs ls  (lv_sub hl [2, 1, 0] rfl) hP hD hS
          · have t43_2 := FF.mk (i_eq c43_1)
            have r43_3 : rg r40_1 0 0 := rg_eqA t43_2 hp40_4 (show rg (0 : Int32) 0 0 from rg_l (by decide)) (by decide)
            refine lv_iload_n hx hb dX16_isTold_46 rfl (lv_at hl 1 rfl) ?_
            refine go_i (k1 := 0) (n1 := 0) (wr := []) [] [] (rn_S (As := [.int r1_1]) (rest := []) (c_X16_isAlways l D ct r1_1  _) (cb_of (n := 1) hn mw_2337 mw_13 mw_2335 mhX16_isAlways ⟨(Nat.le_of_ble_eq_true rfl), (Nat.le_of_ble_eq_true rfl)⟩) hx hb hml hown hn hK hSK hZ hS mw_2336 rfl hl.1 (Nat.le_of_ble_eq_true rfl) dX16_isTold_47 ⟨(Nat.le_of_ble_eq_true rfl), (Nat.le_of_ble_eq_true rfl)⟩) hP hD hS hA rfl rfl (by decide) (by decide) (by decide) (Nat.le_of_ble_eq_true rfl) (Nat.le_of_ble_eq_true rfl) (fun r47_1 u47_2 H locs hp47_3 hP hD hS => ?_)
            obtain ⟨hp47_4, hp47_5, hp47_6⟩ := hp47_3
            have hp47_4 : rg r47_1 0 1 := hp47_4
            replace hp47_5 : FF (r47_1.toInt = 1 → r1_1.toInt = 5) := hp47_5
            replace hp47_6 : FF (r47_1.toInt = 0 → r1_1.toInt ≠ 5) := hp47_6
            have hP : va_P D vwCl [] _ := hP
            have hD : va_D A [] := hD
            refine lv_if_eq (tgt := 57) hx hb dX16_isTold_50 (by decide) (fun c50_1 => ?_) (fun c50_1 => ?_)
            · have t50_2 := FF.mk (i_eq c50_1)
              have r50_3 : rg r47_1 0 0 := rg_eqA t50_2 hp47_4 (show rg (0 : Int32) 0 0 from rg_l (by decide)) (by decide)
              exact b57  H locs ls  (lv_sub hl [2, 1, 0] rfl) hP hD hS
            · have t50_2 := FF.mk (i_ne c50_1)
              have r50_3 : rg r47_1 1 1 := rg_neAl t50_2 hp47_4 (show rg (0 : Int32) 0 0 from rg_l (by decide)) (by decide)
              exact b53  H locs ls  (lv_sub hl [2, 1, 0] rfl) hP hD hS
      · have t29_2 := FF.mk (i_nle c29_1)
        have r29_3 : rg r24_1 11 15 := rg_ltB t29_2 (show rg (10 : Int32) 10 10 from rg_l (by decide)) hp24_4 (by decide)
        refine lv_iconst (v := 0) hx hb dX16_isTold_32 (by decide) ?_
        exact endq_i hQ hx hb hr hlocks dX16_isTold_33 (by decide) () ⟨(rg_w (show rg (0 : Int32) 0 0 from rg_l (by decide)) (by decide)), (show (0 : Int32).toInt = 1 → (v0.toInt / 256) % 16 ≤ 10 ∧ (v0.toInt / 4096) % 16 ≤ 10 ∧ 0 ≤ srt (v0.toInt % 256) by have q0 := (show (0 : Int32).toInt = 0 from by decide); omega)⟩ hP hD hS [] rfl (by decide) rfl (Nat.le_of_ble_eq_true rfl) (Nat.le_of_ble_eq_true rfl)
set_option maxHeartbeats 2000000 in
theorem c_X16_arithmetic (l : Launch) (D : va_G) (ct : Nat → ClassId) (v0 : Int32) (v1 : Int64) (v2 : Int64) (v3 : Int32) (h_v3 : rg v3 0 1) : KL (S := Unit) l yX16_arithmetic cX16_arithmetic 6 (some .long) 2 47 D ct [.int v0, .long v1, .long v2, .int v3] [] 0 0 (fun (r : Int64) (_ : Unit) => True) (fun (_ : Unit) => []) := by
  refine KLq_of (by decide) (Nat.le_of_ble_eq_true rfl) (fun p e s m below meth c A Q C0 hA H locs hS hP hD hQ ls hl => ?_)
  obtain ⟨hx, hb, hr, hown, hin, hml, hlocks, hn, hK, hZ, hSK⟩ := C0
  have hl : lv_has ls 6 [(0, .int v0), (1, .long v1), (3, .long v2), (5, .int v3)] := hl
  refine lv_iload_n hx hb dX16_arithmetic_0 rfl (lv_at hl 0 rfl) ?_
  by_cases h1_101 : v0.toInt = 0
  · have r1_102 : rg v0 0 0 := rg_at h1_101
    refine lv_tableIn (off := 63) (tgt := 64) hx hb dX16_arithmetic_1 (by rw [h1_101]; decide) (by rw [h1_101]; decide) (by rw [h1_101]; rfl) (by decide) ?_
    refine lv_lload_n hx hb dX16_arithmetic_64 rfl (lv_at hl 1 rfl) ?_
    refine lv_lload_n hx hb dX16_arithmetic_65 rfl (lv_at hl 2 rfl) ?_
    refine lv_ladd hx hb dX16_arithmetic_66 ?_
    refine lv_topl (fun z66_1 ez66_1 => ?_)
    exact endq_l hQ hx hb hr hlocks dX16_arithmetic_67 () trivial hP hD hS [] rfl (by decide) rfl (Nat.le_of_ble_eq_true rfl) (Nat.le_of_ble_eq_true rfl)
  by_cases h1_111 : v0.toInt = 1
  · have r1_112 : rg v0 1 1 := rg_at h1_111
    refine lv_tableIn (off := 67) (tgt := 68) hx hb dX16_arithmetic_1 (by rw [h1_111]; decide) (by rw [h1_111]; decide) (by rw [h1_111]; rfl) (by decide) ?_
    refine lv_lload_n hx hb dX16_arithmetic_68 rfl (lv_at hl 1 rfl) ?_
    refine lv_lload_n hx hb dX16_arithmetic_69 rfl (lv_at hl 2 rfl) ?_
    refine lv_lsub hx hb dX16_arithmetic_70 ?_
    refine lv_topl (fun z70_1 ez70_1 => ?_)
    exact endq_l hQ hx hb hr hlocks dX16_arithmetic_71 () trivial hP hD hS [] rfl (by decide) rfl (Nat.le_of_ble_eq_true rfl) (Nat.le_of_ble_eq_true rfl)
  by_cases h1_121 : v0.toInt = 2
  · have r1_122 : rg v0 2 2 := rg_at h1_121
    refine lv_tableIn (off := 71) (tgt := 72) hx hb dX16_arithmetic_1 (by rw [h1_121]; decide) (by rw [h1_121]; decide) (by rw [h1_121]; rfl) (by decide) ?_
    refine lv_lload_n hx hb dX16_arithmetic_72 rfl (lv_at hl 1 rfl) ?_
    refine lv_lload_n hx hb dX16_arithmetic_73 rfl (lv_at hl 2 rfl) ?_
    refine lv_lmul hx hb dX16_arithmetic_74 ?_
    refine lv_topl (fun z74_1 ez74_1 => ?_)
    exact endq_l hQ hx hb hr hlocks dX16_arithmetic_75 () trivial hP hD hS [] rfl (by decide) rfl (Nat.le_of_ble_eq_true rfl) (Nat.le_of_ble_eq_true rfl)
  by_cases h1_131 : v0.toInt = 3
  · have r1_132 : rg v0 3 3 := rg_at h1_131
    refine lv_tableIn (off := 75) (tgt := 76) hx hb dX16_arithmetic_1 (by rw [h1_131]; decide) (by rw [h1_131]; decide) (by rw [h1_131]; rfl) (by decide) ?_
    refine lv_lload_n hx hb dX16_arithmetic_76 rfl (lv_at hl 2 rfl) ?_
    refine lv_lconst (v := 0) hx hb dX16_arithmetic_77 (by decide) ?_
    refine W.lcmp hx hb dX16_arithmetic_78 ?_
    refine lv_topi (fun z78_1 ez78_1 => ?_)
    refine lv_if_ne (tgt := 86) hx hb dX16_arithmetic_79 (by decide) (fun c79_1 => ?_) (fun c79_1 => ?_)
    · have t79_2 := FF.mk (l_ne ez78_1 c79_1)
      refine lv_lload_n hx hb dX16_arithmetic_86 rfl (lv_at hl 1 rfl) ?_
      refine lv_lload_n hx hb dX16_arithmetic_87 rfl (lv_at hl 2 rfl) ?_
      refine go_l (k1 := 0) (n1 := 0) (wr := []) [] [] (rn_S (As := [.long v1, .long v2]) (rest := []) (c_JL_divideUnsigned l D ct v1 v2 (show v2.toInt ≠ 0 by have q0 := FF.out t79_2; have q1 := (show (0 : Int64).toInt = 0 from by decide); omega) _) (cb_of (n := 2) hn mw_2359 mw_25 mw_2357 mhJL_divideUnsigned ⟨(Nat.le_of_ble_eq_true rfl), (Nat.le_of_ble_eq_true rfl)⟩) hx hb hml hown hn hK hSK hZ hS mw_2358 rfl hl.1 (Nat.le_of_ble_eq_true rfl) dX16_arithmetic_88 ⟨(Nat.le_of_ble_eq_true rfl), (Nat.le_of_ble_eq_true rfl)⟩) hP hD hS hA rfl rfl (by decide) (by decide) (by decide) (Nat.le_of_ble_eq_true rfl) (Nat.le_of_ble_eq_true rfl) (fun r88_1 u88_2 H locs hp88_3 hP hD hS => ?_)
      have hP : va_P D vwCl [] _ := hP
      have hD : va_D A [] := hD
      exact endq_l hQ hx hb hr hlocks dX16_arithmetic_91 () trivial hP hD hS [] rfl (by decide) rfl (Nat.le_of_ble_eq_true rfl) (Nat.le_of_ble_eq_true rfl)
    · have t79_2 := FF.mk (l_eq ez78_1 c79_1)
      have r79_3 : rl v2 0 0 := rl_eqA t79_2 (rl_any v2) (show rl (0 : Int64) 0 0 from rl_l (by decide)) (by decide)
      refine lv_lconst (v := 0) hx hb dX16_arithmetic_82 (by decide) ?_
      refine lv_goto (tgt := 91) hx hb dX16_arithmetic_83 (by decide) ?_
      exact endq_l hQ hx hb hr hlocks dX16_arithmetic_91 () trivial hP hD hS [] rfl (by decide) rfl (Nat.le_of_ble_eq_true rfl) (Nat.le_of_ble_eq_true rfl)
  by_cases h1_141 : v0.toInt = 4
  · have r1_142 : rg v0 4 4 := rg_at h1_141
    refine lv_tableIn (off := 91) (tgt := 92) hx hb dX16_arithmetic_1 (by rw [h1_141]; decide) (by rw [h1_141]; decide) (by rw [h1_141]; rfl) (by decide) ?_
    refine lv_lload_n hx hb dX16_arithmetic_92 rfl (lv_at hl 1 rfl) ?_
    refine lv_lload_n hx hb dX16_arithmetic_93 rfl (lv_at hl 2 rfl) ?_
    refine lv_lor hx hb dX16_arithmetic_94 ?_
    refine lv_topl (fun z94_1 ez94_1 => ?_)
    exact endq_l hQ hx hb hr hlocks dX16_arithmetic_95 () trivial hP hD hS [] rfl (by decide) rfl (Nat.le_of_ble_eq_true rfl) (Nat.le_of_ble_eq_true rfl)
  by_cases h1_151 : v0.toInt = 5
  · have r1_152 : rg v0 5 5 := rg_at h1_151
    refine lv_tableIn (off := 95) (tgt := 96) hx hb dX16_arithmetic_1 (by rw [h1_151]; decide) (by rw [h1_151]; decide) (by rw [h1_151]; rfl) (by decide) ?_
    refine lv_lload_n hx hb dX16_arithmetic_96 rfl (lv_at hl 1 rfl) ?_
    refine lv_lload_n hx hb dX16_arithmetic_97 rfl (lv_at hl 2 rfl) ?_
    refine lv_land hx hb dX16_arithmetic_98 ?_
    refine lv_topl (fun z98_1 ez98_1 => ?_)
    exact endq_l hQ hx hb hr hlocks dX16_arithmetic_99 () trivial hP hD hS [] rfl (by decide) rfl (Nat.le_of_ble_eq_true rfl) (Nat.le_of_ble_eq_true rfl)
  by_cases h1_161 : v0.toInt = 6
  · have r1_162 : rg v0 6 6 := rg_at h1_161
    refine lv_tableIn (off := 99) (tgt := 100) hx hb dX16_arithmetic_1 (by rw [h1_161]; decide) (by rw [h1_161]; decide) (by rw [h1_161]; rfl) (by decide) ?_
    refine lv_lload_n hx hb dX16_arithmetic_100 rfl (lv_at hl 1 rfl) ?_
    refine lv_lload_n hx hb dX16_arithmetic_101 rfl (lv_at hl 2 rfl) ?_
    refine lv_iload hx hb dX16_arithmetic_102 (lv_at hl 3 rfl) ?_
    have b116 : ∀ (j116_s0 : Int64) (H : Heap) (locs : List Loc) (ls : Array Slot), (rl j116_s0 31 63) → lv_has ls 6 [] → va_P D vwCl [] H → va_D A [] → va_S A s.heap H locs → W p l e ({ frames := 2, cells := 0, slots := 0, locals := 47 }) s m [.int v0, .long v1, .long v2, .int v3].toArray below meth c H locs 0 0 Q (F0 m 116 ls [.long j116_s0, .long v2, .long v1]) := by
      intro j116_s0 H locs ls r116_1001 hl hP hD hS
      refine lv_land hx hb dX16_arithmetic_116 ?_
      refine lv_topl (fun z116_1 ez116_1 => ?_)
      have r116_2 : rl z116_1 0 63 := rgL_andr ez116_1 r116_1001 (by decide)
      refine lv_l2i hx hb dX16_arithmetic_117 rfl ?_
      refine lv_topi (fun z117_1 ez117_1 => ?_)
      have r117_2 : rg z117_1 0 63 := rg_l2i ez117_1 r116_2 (by decide)
      refine lv_lshl hx hb dX16_arithmetic_118 rfl ?_
      refine lv_topl (fun z118_1 ez118_1 => ?_)
      exact endq_l hQ hx hb hr hlocks dX16_arithmetic_119 () trivial hP hD hS [] rfl (by decide) rfl (Nat.le_of_ble_eq_true rfl) (Nat.le_of_ble_eq_true rfl)
    refine lv_if_eq (tgt := 113) hx hb dX16_arithmetic_104 (by decide) (fun c104_1 => ?_) (fun c104_1 => ?_)
    · have t104_2 := FF.mk (i_eq c104_1)
      have r104_3 : rg v3 0 0 := rg_eqA t104_2 h_v3 (show rg (0 : Int32) 0 0 from rg_l (by decide)) (by decide)
      refine lv_ldc2 (v := 31) hx hb hown (hn.get mw_1900 rfl) dX16_arithmetic_113 ?_
      exact b116 (31 : Int64) H locs ls (rl_w (show rl (31 : Int64) 31 31 from rl_l (by decide)) (by decide)) (lv_sub hl [] rfl) hP hD hS
    · have t104_2 := FF.mk (i_ne c104_1)
      have r104_3 : rg v3 1 1 := rg_neAl t104_2 h_v3 (show rg (0 : Int32) 0 0 from rg_l (by decide)) (by decide)
      refine lv_ldc2 (v := 63) hx hb hown (hn.get mw_2361 rfl) dX16_arithmetic_107 ?_
      refine lv_goto (tgt := 116) hx hb dX16_arithmetic_110 (by decide) ?_
      exact b116 (63 : Int64) H locs ls (rl_w (show rl (63 : Int64) 63 63 from rl_l (by decide)) (by decide)) (lv_sub hl [] rfl) hP hD hS
  by_cases h1_171 : v0.toInt = 7
  · have r1_172 : rg v0 7 7 := rg_at h1_171
    refine lv_tableIn (off := 119) (tgt := 120) hx hb dX16_arithmetic_1 (by rw [h1_171]; decide) (by rw [h1_171]; decide) (by rw [h1_171]; rfl) (by decide) ?_
    refine lv_lload_n hx hb dX16_arithmetic_120 rfl (lv_at hl 1 rfl) ?_
    refine lv_lload_n hx hb dX16_arithmetic_121 rfl (lv_at hl 2 rfl) ?_
    refine lv_iload hx hb dX16_arithmetic_122 (lv_at hl 3 rfl) ?_
    have b136 : ∀ (j136_s0 : Int64) (H : Heap) (locs : List Loc) (ls : Array Slot), (rl j136_s0 31 63) → lv_has ls 6 [] → va_P D vwCl [] H → va_D A [] → va_S A s.heap H locs → W p l e ({ frames := 2, cells := 0, slots := 0, locals := 47 }) s m [.int v0, .long v1, .long v2, .int v3].toArray below meth c H locs 0 0 Q (F0 m 136 ls [.long j136_s0, .long v2, .long v1]) := by
      intro j136_s0 H locs ls r136_1001 hl hP hD hS
      refine lv_land hx hb dX16_arithmetic_136 ?_
      refine lv_topl (fun z136_1 ez136_1 => ?_)
      have r136_2 : rl z136_1 0 63 := rgL_andr ez136_1 r136_1001 (by decide)
      refine lv_l2i hx hb dX16_arithmetic_137 rfl ?_
      refine lv_topi (fun z137_1 ez137_1 => ?_)
      have r137_2 : rg z137_1 0 63 := rg_l2i ez137_1 r136_2 (by decide)
      refine lv_lushr hx hb dX16_arithmetic_138 rfl ?_
      refine lv_topl (fun z138_1 ez138_1 => ?_)
      exact endq_l hQ hx hb hr hlocks dX16_arithmetic_139 () trivial hP hD hS [] rfl (by decide) rfl (Nat.le_of_ble_eq_true rfl) (Nat.le_of_ble_eq_true rfl)
    refine lv_if_eq (tgt := 133) hx hb dX16_arithmetic_124 (by decide) (fun c124_1 => ?_) (fun c124_1 => ?_)
    · have t124_2 := FF.mk (i_eq c124_1)
      have r124_3 : rg v3 0 0 := rg_eqA t124_2 h_v3 (show rg (0 : Int32) 0 0 from rg_l (by decide)) (by decide)
      refine lv_ldc2 (v := 31) hx hb hown (hn.get mw_1900 rfl) dX16_arithmetic_133 ?_
      exact b136 (31 : Int64) H locs ls (rl_w (show rl (31 : Int64) 31 31 from rl_l (by decide)) (by decide)) (lv_sub hl [] rfl) hP hD hS
    · have t124_2 := FF.mk (i_ne c124_1)
      have r124_3 : rg v3 1 1 := rg_neAl t124_2 h_v3 (show rg (0 : Int32) 0 0 from rg_l (by decide)) (by decide)
      refine lv_ldc2 (v := 63) hx hb hown (hn.get mw_2361 rfl) dX16_arithmetic_127 ?_
      refine lv_goto (tgt := 136) hx hb dX16_arithmetic_130 (by decide) ?_
      exact b136 (63 : Int64) H locs ls (rl_w (show rl (63 : Int64) 63 63 from rl_l (by decide)) (by decide)) (lv_sub hl [] rfl) hP hD hS
  by_cases h1_181 : v0.toInt = 8
  · have r1_182 : rg v0 8 8 := rg_at h1_181
    refine lv_tableIn (off := 139) (tgt := 140) hx hb dX16_arithmetic_1 (by rw [h1_181]; decide) (by rw [h1_181]; decide) (by rw [h1_181]; rfl) (by decide) ?_
    refine lv_lload_n hx hb dX16_arithmetic_140 rfl (lv_at hl 1 rfl) ?_
    refine lv_lneg hx hb dX16_arithmetic_141 ?_
    refine lv_topl (fun z141_1 ez141_1 => ?_)
    exact endq_l hQ hx hb hr hlocks dX16_arithmetic_142 () trivial hP hD hS [] rfl (by decide) rfl (Nat.le_of_ble_eq_true rfl) (Nat.le_of_ble_eq_true rfl)
  by_cases h1_191 : v0.toInt = 9
  · have r1_192 : rg v0 9 9 := rg_at h1_191
    refine lv_tableIn (off := 142) (tgt := 143) hx hb dX16_arithmetic_1 (by rw [h1_191]; decide) (by rw [h1_191]; decide) (by rw [h1_191]; rfl) (by decide) ?_
    refine lv_lload_n hx hb dX16_arithmetic_143 rfl (lv_at hl 2 rfl) ?_
    refine lv_lconst (v := 0) hx hb dX16_arithmetic_144 (by decide) ?_
    refine W.lcmp hx hb dX16_arithmetic_145 ?_
    refine lv_topi (fun z145_1 ez145_1 => ?_)
    refine lv_if_ne (tgt := 153) hx hb dX16_arithmetic_146 (by decide) (fun c146_1 => ?_) (fun c146_1 => ?_)
    · have t146_2 := FF.mk (l_ne ez145_1 c146_1)
      refine lv_lload_n hx hb dX16_arithmetic_153 rfl (lv_at hl 1 rfl) ?_
      refine lv_lload_n hx hb dX16_arithmetic_154 rfl (lv_at hl 2 rfl) ?_
      refine go_l (k1 := 0) (n1 := 0) (wr := []) [] [] (rn_S (As := [.long v1, .long v2]) (rest := []) (c_JL_remainderUnsigned l D ct v1 v2 (show v2.toInt ≠ 0 by have q0 := FF.out t146_2; have q1 := (show (0 : Int64).toInt = 0 from by decide); omega) _) (cb_of (n := 2) hn mw_2364 mw_25 mw_2362 mhJL_remainderUnsigned ⟨(Nat.le_of_ble_eq_true rfl), (Nat.le_of_ble_eq_true rfl)⟩) hx hb hml hown hn hK hSK hZ hS mw_2363 rfl hl.1 (Nat.le_of_ble_eq_true rfl) dX16_arithmetic_155 ⟨(Nat.le_of_ble_eq_true rfl), (Nat.le_of_ble_eq_true rfl)⟩) hP hD hS hA rfl rfl (by decide) (by decide) (by decide) (Nat.le_of_ble_eq_true rfl) (Nat.le_of_ble_eq_true rfl) (fun r155_1 u155_2 H locs hp155_3 hP hD hS => ?_)
      have hP : va_P D vwCl [] _ := hP
      have hD : va_D A [] := hD
      exact endq_l hQ hx hb hr hlocks dX16_arithmetic_158 () trivial hP hD hS [] rfl (by decide) rfl (Nat.le_of_ble_eq_true rfl) (Nat.le_of_ble_eq_true rfl)
    · have t146_2 := FF.mk (l_eq ez145_1 c146_1)
      have r146_3 : rl v2 0 0 := rl_eqA t146_2 (rl_any v2) (show rl (0 : Int64) 0 0 from rl_l (by decide)) (by decide)
      refine lv_lload_n hx hb dX16_arithmetic_149 rfl (lv_at hl 1 rfl) ?_
      refine lv_goto (tgt := 158) hx hb dX16_arithmetic_150 (by decide) ?_
      exact endq_l hQ hx hb hr hlocks dX16_arithmetic_158 () trivial hP hD hS [] rfl (by decide) rfl (Nat.le_of_ble_eq_true rfl) (Nat.le_of_ble_eq_true rfl)
  by_cases h1_201 : v0.toInt = 10
  · have r1_202 : rg v0 10 10 := rg_at h1_201
    refine lv_tableIn (off := 158) (tgt := 159) hx hb dX16_arithmetic_1 (by rw [h1_201]; decide) (by rw [h1_201]; decide) (by rw [h1_201]; rfl) (by decide) ?_
    refine lv_lload_n hx hb dX16_arithmetic_159 rfl (lv_at hl 1 rfl) ?_
    refine lv_lload_n hx hb dX16_arithmetic_160 rfl (lv_at hl 2 rfl) ?_
    refine lv_lxor hx hb dX16_arithmetic_161 ?_
    refine lv_topl (fun z161_1 ez161_1 => ?_)
    exact endq_l hQ hx hb hr hlocks dX16_arithmetic_162 () trivial hP hD hS [] rfl (by decide) rfl (Nat.le_of_ble_eq_true rfl) (Nat.le_of_ble_eq_true rfl)
  by_cases h1_211 : v0.toInt = 11
  · have r1_212 : rg v0 11 11 := rg_at h1_211
    refine lv_tableIn (off := 162) (tgt := 163) hx hb dX16_arithmetic_1 (by rw [h1_211]; decide) (by rw [h1_211]; decide) (by rw [h1_211]; rfl) (by decide) ?_
    refine lv_lload_n hx hb dX16_arithmetic_163 rfl (lv_at hl 2 rfl) ?_
    exact endq_l hQ hx hb hr hlocks dX16_arithmetic_164 () trivial hP hD hS [] rfl (by decide) rfl (Nat.le_of_ble_eq_true rfl) (Nat.le_of_ble_eq_true rfl)
  refine lv_tableOut (tgt := 165) hx hb dX16_arithmetic_1 (by have q0 := (rg_any v0); have q1 := q0.1; have q2 := q0.2; omega) (by decide) ?_
  have hl1_5001 := FF.mk h1_101
  have hl1_5002 := FF.mk h1_111
  have hl1_5003 := FF.mk h1_121
  have hl1_5004 := FF.mk h1_131
  have hl1_5005 := FF.mk h1_141
  have hl1_5006 := FF.mk h1_151
  have hl1_5007 := FF.mk h1_161
  have hl1_5008 := FF.mk h1_171
  have hl1_5009 := FF.mk h1_181
  have hl1_5010 := FF.mk h1_191
  have hl1_5011 := FF.mk h1_201
  have hl1_5012 := FF.mk h1_211
  refine lv_iload hx hb dX16_arithmetic_165 (lv_at hl 3 rfl) ?_
  refine lv_if_eq (tgt := 181) hx hb dX16_arithmetic_167 (by decide) (fun c167_1 => ?_) (fun c167_1 => ?_)
  · have t167_2 := FF.mk (i_eq c167_1)
    have r167_3 : rg v3 0 0 := rg_eqA t167_2 h_v3 (show rg (0 : Int32) 0 0 from rg_l (by decide)) (by decide)
    refine lv_lload_n hx hb dX16_arithmetic_181 rfl (lv_at hl 1 rfl) ?_
    refine lv_l2i hx hb dX16_arithmetic_182 rfl ?_
    refine lv_topi (fun z182_1 ez182_1 => ?_)
    refine lv_lload_n hx hb dX16_arithmetic_183 rfl (lv_at hl 2 rfl) ?_
    refine lv_ldc2 (v := 31) hx hb hown (hn.get mw_1900 rfl) dX16_arithmetic_184 ?_
    refine lv_land hx hb dX16_arithmetic_187 ?_
    refine lv_topl (fun z187_1 ez187_1 => ?_)
    have r187_2 : rl z187_1 0 31 := rgL_andr ez187_1 (show rl (31 : Int64) 31 31 from rl_l (by decide)) (by decide)
    refine lv_l2i hx hb dX16_arithmetic_188 rfl ?_
    refine lv_topi (fun z188_1 ez188_1 => ?_)
    have r188_2 : rg z188_1 0 31 := rg_l2i ez188_1 r187_2 (by decide)
    refine lv_ishr hx hb dX16_arithmetic_189 ?_
    refine lv_topi (fun z189_1 ez189_1 => ?_)
    refine lv_i2l hx hb dX16_arithmetic_190 rfl ?_
    refine lv_topl (fun z190_1 ez190_1 => ?_)
    have r190_2 : rl z190_1 (-2147483648) 2147483647 := rl_i2l ez190_1 (rg_any z189_1)
    exact endq_l hQ hx hb hr hlocks dX16_arithmetic_191 () trivial hP hD hS [] rfl (by decide) rfl (Nat.le_of_ble_eq_true rfl) (Nat.le_of_ble_eq_true rfl)
  · have t167_2 := FF.mk (i_ne c167_1)
    have r167_3 : rg v3 1 1 := rg_neAl t167_2 h_v3 (show rg (0 : Int32) 0 0 from rg_l (by decide)) (by decide)
    refine lv_lload_n hx hb dX16_arithmetic_170 rfl (lv_at hl 1 rfl) ?_
    refine lv_lload_n hx hb dX16_arithmetic_171 rfl (lv_at hl 2 rfl) ?_
    refine lv_ldc2 (v := 63) hx hb hown (hn.get mw_2361 rfl) dX16_arithmetic_172 ?_
    refine lv_land hx hb dX16_arithmetic_175 ?_
    refine lv_topl (fun z175_1 ez175_1 => ?_)
    have r175_2 : rl z175_1 0 63 := rgL_andr ez175_1 (show rl (63 : Int64) 63 63 from rl_l (by decide)) (by decide)
    refine lv_l2i hx hb dX16_arithmetic_176 rfl ?_
    refine lv_topi (fun z176_1 ez176_1 => ?_)
    have r176_2 : rg z176_1 0 63 := rg_l2i ez176_1 r175_2 (by decide)
    refine lv_lshr hx hb dX16_arithmetic_177 rfl ?_
    refine lv_topl (fun z177_1 ez177_1 => ?_)
    refine lv_goto (tgt := 191) hx hb dX16_arithmetic_178 (by decide) ?_
    exact endq_l hQ hx hb hr hlocks dX16_arithmetic_191 () trivial hP hD hS [] rfl (by decide) rfl (Nat.le_of_ble_eq_true rfl) (Nat.le_of_ble_eq_true rfl)
set_option maxHeartbeats 2000000 in
theorem c_X16_worked (l : Launch) (D : va_G) (ct : Nat → ClassId) (v0 : Int32) (v1 : Int64) (v2 : Int64)  : KL (S := Unit) l yX16_worked cX16_worked 6 (some .long) 3 72 D ct [.int v0, .long v1, .long v2] [] 0 0 (fun (r : Int64) (_ : Unit) => True) (fun (_ : Unit) => []) := by
  refine KLq_of (by decide) (Nat.le_of_ble_eq_true rfl) (fun p e s m below meth c A Q C0 hA H locs hS hP hD hQ ls hl => ?_)
  obtain ⟨hx, hb, hr, hown, hin, hml, hlocks, hn, hK, hZ, hSK⟩ := C0
  have hl : lv_has ls 6 [(0, .int v0), (1, .long v1), (3, .long v2)] := hl
  refine lv_iload_n hx hb dX16_worked_0 rfl (lv_at hl 0 rfl) ?_
  refine lv_bipush (v := 7) hx hb dX16_worked_1 (by decide) ?_
  refine lv_iand hx hb dX16_worked_3 ?_
  refine lv_topi (fun z3_1 ez3_1 => ?_)
  have r3_2 : rg z3_1 0 7 := rg_andr ez3_1 (show rg (7 : Int32) 7 7 from rg_l (by decide)) (by decide)
  refine lv_bipush (v := 7) hx hb dX16_worked_4 (by decide) ?_
  have b14 : ∀ (j14_s0 : Int32) (H : Heap) (locs : List Loc) (ls : Array Slot), (rg j14_s0 0 1) → lv_has ls 6 [(0, .int v0), (1, .long v1), (3, .long v2)] → va_P D vwCl [] H → va_D A [] → va_S A s.heap H locs → W p l e ({ frames := 3, cells := 0, slots := 0, locals := 72 }) s m [.int v0, .long v1, .long v2].toArray below meth c H locs 0 0 Q (F0 m 14 ls [.int j14_s0]) := by
    intro j14_s0 H locs ls r14_1001 hl hP hD hS
    refine lv_istore (lv' := [(5, .int j14_s0), (0, .int v0), (1, .long v1), (3, .long v2)]) hx hb dX16_worked_14 hl (by decide) rfl (fun ls hl => ?_)
    refine lv_iload hx hb dX16_worked_16 (lv_at hl 0 rfl) ?_
    refine lv_if_eq (tgt := 33) hx hb dX16_worked_18 (by decide) (fun c18_1 => ?_) (fun c18_1 => ?_)
    · have t18_2 := FF.mk (i_eq c18_1)
      have r18_3 : rg j14_s0 0 0 := rg_eqA t18_2 r14_1001 (show rg (0 : Int32) 0 0 from rg_l (by decide)) (by decide)
      refine lv_iload_n hx hb dX16_worked_33 rfl (lv_at hl 1 rfl) ?_
      refine lv_iconst (v := 4) hx hb dX16_worked_34 (by decide) ?_
      refine lv_ishr hx hb dX16_worked_35 ?_
      refine lv_topi (fun z35_1 ez35_1 => ?_)
      have r35_2 : rg z35_1 (-134217728) 134217727 := rg_shr (k := 4) ez35_1 (by decide) (rg_any v0) (by decide)
      refine lv_lload_n hx hb dX16_worked_36 rfl (lv_at hl 2 rfl) ?_
      refine lv_ldc2 (v := 4294967295) hx hb hown (hn.get mw_1820 rfl) dX16_worked_37 ?_
      refine lv_land hx hb dX16_worked_40 ?_
      refine lv_topl (fun z40_1 ez40_1 => ?_)
      have r40_2 : rl z40_1 0 4294967295 := rgL_andr ez40_1 (show rl (4294967295 : Int64) 4294967295 4294967295 from rl_l (by decide)) (by decide)
      refine lv_lload_n hx hb dX16_worked_41 rfl (lv_at hl 3 rfl) ?_
      refine lv_ldc2 (v := 4294967295) hx hb hown (hn.get mw_1820 rfl) dX16_worked_42 ?_
      refine lv_land hx hb dX16_worked_45 ?_
      refine lv_topl (fun z45_1 ez45_1 => ?_)
      have r45_2 : rl z45_1 0 4294967295 := rgL_andr ez45_1 (show rl (4294967295 : Int64) 4294967295 4294967295 from rl_l (by decide)) (by decide)
      refine lv_iconst (v := 0) hx hb dX16_worked_46 (by decide) ?_
      refine go_l (k1 := 0) (n1 := 0) (wr := []) [] [] (rn_S (As := [.int z35_1, .long z40_1, .long z45_1, .int 0]) (rest := []) (c_X16_arithmetic l D ct z35_1 z40_1 z45_1 (0 : Int32) (rg_w (show rg (0 : Int32) 0 0 from rg_l (by decide)) (by decide)) _) (cb_of (n := 4) hn mw_2356 mw_13 mw_2354 mhX16_arithmetic ⟨(Nat.le_of_ble_eq_true rfl), (Nat.le_of_ble_eq_true rfl)⟩) hx hb hml hown hn hK hSK hZ hS mw_2355 rfl hl.1 (Nat.le_of_ble_eq_true rfl) dX16_worked_47 ⟨(Nat.le_of_ble_eq_true rfl), (Nat.le_of_ble_eq_true rfl)⟩) hP hD hS hA rfl rfl (by decide) (by decide) (by decide) (Nat.le_of_ble_eq_true rfl) (Nat.le_of_ble_eq_true rfl) (fun r47_1 u47_2 H locs hp47_3 hP hD hS => ?_)
      have hP : va_P D vwCl [] _ := hP
      have hD : va_D A [] := hD
      refine lv_ldc2 (v := 4294967295) hx hb hown (hn.get mw_1820 rfl) dX16_worked_50 ?_
      refine lv_land hx hb dX16_worked_53 ?_
      refine lv_topl (fun z53_1 ez53_1 => ?_)
      have r53_2 : rl z53_1 0 4294967295 := rgL_andr ez53_1 (show rl (4294967295 : Int64) 4294967295 4294967295 from rl_l (by decide)) (by decide)
      exact endq_l hQ hx hb hr hlocks dX16_worked_54 () trivial hP hD hS [] rfl (by decide) rfl (Nat.le_of_ble_eq_true rfl) (Nat.le_of_ble_eq_true rfl)
    · have t18_2 := FF.mk (i_ne c18_1)
      have r18_3 : rg j14_s0 1 1 := rg_neAl t18_2 r14_1001 (show rg (0 : Int32) 0 0 from rg_l (by decide)) (by decide)
      refine lv_iload_n hx hb dX16_worked_21 rfl (lv_at hl 1 rfl) ?_
      refine lv_iconst (v := 4) hx hb dX16_worked_22 (by decide) ?_
      refine lv_ishr hx hb dX16_worked_23 ?_
      refine lv_topi (fun z23_1 ez23_1 => ?_)
      have r23_2 : rg z23_1 (-134217728) 134217727 := rg_shr (k := 4) ez23_1 (by decide) (rg_any v0) (by decide)
      refine lv_lload_n hx hb dX16_worked_24 rfl (lv_at hl 2 rfl) ?_
      refine lv_lload_n hx hb dX16_worked_25 rfl (lv_at hl 3 rfl) ?_
      refine lv_iconst (v := 1) hx hb dX16_worked_26 (by decide) ?_
      refine go_l (k1 := 0) (n1 := 0) (wr := []) [] [] (rn_S (As := [.int z23_1, .long v1, .long v2, .int 1]) (rest := []) (c_X16_arithmetic l D ct z23_1 v1 v2 (1 : Int32) (rg_w (show rg (1 : Int32) 1 1 from rg_l (by decide)) (by decide)) _) (cb_of (n := 4) hn mw_2356 mw_13 mw_2354 mhX16_arithmetic ⟨(Nat.le_of_ble_eq_true rfl), (Nat.le_of_ble_eq_true rfl)⟩) hx hb hml hown hn hK hSK hZ hS mw_2355 rfl hl.1 (Nat.le_of_ble_eq_true rfl) dX16_worked_27 ⟨(Nat.le_of_ble_eq_true rfl), (Nat.le_of_ble_eq_true rfl)⟩) hP hD hS hA rfl rfl (by decide) (by decide) (by decide) (Nat.le_of_ble_eq_true rfl) (Nat.le_of_ble_eq_true rfl) (fun r27_1 u27_2 H locs hp27_3 hP hD hS => ?_)
      have hP : va_P D vwCl [] _ := hP
      have hD : va_D A [] := hD
      refine lv_goto (tgt := 54) hx hb dX16_worked_30 (by decide) ?_
      exact endq_l hQ hx hb hr hlocks dX16_worked_54 () trivial hP hD hS [] rfl (by decide) rfl (Nat.le_of_ble_eq_true rfl) (Nat.le_of_ble_eq_true rfl)
  refine lv_icmp_ne (tgt := 13) hx hb dX16_worked_6 (by decide) (fun c6_1 => ?_) (fun c6_1 => ?_)
  · have t6_2 := FF.mk (i_ne c6_1)
    have r6_3 : rg z3_1 0 6 := rg_neAh t6_2 r3_2 (show rg (7 : Int32) 7 7 from rg_l (by decide)) (by decide)
    refine lv_iconst (v := 0) hx hb dX16_worked_13 (by decide) ?_
    exact b14 (0 : Int32) H locs ls (rg_w (show rg (0 : Int32) 0 0 from rg_l (by decide)) (by decide)) (lv_sub hl [0, 1, 2] rfl) hP hD hS
  · have t6_2 := FF.mk (i_eq c6_1)
    have r6_3 : rg z3_1 7 7 := rg_eqA t6_2 r3_2 (show rg (7 : Int32) 7 7 from rg_l (by decide)) (by decide)
    refine lv_iconst (v := 1) hx hb dX16_worked_9 (by decide) ?_
    refine lv_goto (tgt := 14) hx hb dX16_worked_10 (by decide) ?_
    exact b14 (1 : Int32) H locs ls (rg_w (show rg (1 : Int32) 1 1 from rg_l (by decide)) (by decide)) (lv_sub hl [0, 1, 2] rfl) hP hD hS
set_option maxHeartbeats 2000000 in
theorem c_X16_goes (l : Launch) (D : va_G) (ct : Nat → ClassId) (v0 : Int32) (v1 : Int64) (v2 : Int64)  : KI (S := Unit) l yX16_goes cX16_goes 12 (some .boolean) 3 66 D ct [.int v0, .long v1, .long v2] [] 0 0 (fun (r : Int32) (_ : Unit) => rg r 0 1) (fun (_ : Unit) => []) := by
  refine KIq_of (by decide) (Nat.le_of_ble_eq_true rfl) (fun p e s m below meth c A Q C0 hA H locs hS hP hD hQ ls hl => ?_)
  obtain ⟨hx, hb, hr, hown, hin, hml, hlocks, hn, hK, hZ, hSK⟩ := C0
  have hl : lv_has ls 12 [(0, .int v0), (1, .long v1), (3, .long v2)] := hl
  refine lv_iload_n hx hb dX16_goes_0 rfl (lv_at hl 0 rfl) ?_
  refine lv_bipush (v := 7) hx hb dX16_goes_1 (by decide) ?_
  refine lv_iand hx hb dX16_goes_3 ?_
  refine lv_topi (fun z3_1 ez3_1 => ?_)
  have r3_2 : rg z3_1 0 7 := rg_andr ez3_1 (show rg (7 : Int32) 7 7 from rg_l (by decide)) (by decide)
  refine lv_iconst (v := 5) hx hb dX16_goes_4 (by decide) ?_
  have b13 : ∀ (j13_s0 : Int32) (H : Heap) (locs : List Loc) (ls : Array Slot), (rg j13_s0 0 1) → lv_has ls 12 [(0, .int v0), (1, .long v1), (3, .long v2)] → va_P D vwCl [] H → va_D A [] → va_S A s.heap H locs → W p l e ({ frames := 3, cells := 0, slots := 0, locals := 66 }) s m [.int v0, .long v1, .long v2].toArray below meth c H locs 0 0 Q (F0 m 13 ls [.int j13_s0]) := by
    intro j13_s0 H locs ls r13_1001 hl hP hD hS
    refine lv_istore (lv' := [(5, .int j13_s0), (0, .int v0), (1, .long v1), (3, .long v2)]) hx hb dX16_goes_13 hl (by decide) rfl (fun ls hl => ?_)
    refine lv_iload hx hb dX16_goes_15 (lv_at hl 0 rfl) ?_
    have b29 : ∀ (j29_s0 : Int64) (H : Heap) (locs : List Loc) (ls : Array Slot), lv_has ls 12 [(0, .int v0), (3, .long v2), (5, .int j13_s0)] → va_P D vwCl [] H → va_D A [] → va_S A s.heap H locs → W p l e ({ frames := 3, cells := 0, slots := 0, locals := 66 }) s m [.int v0, .long v1, .long v2].toArray below meth c H locs 0 0 Q (F0 m 29 ls [.long j29_s0]) := by
      intro j29_s0 H locs ls  hl hP hD hS
      refine lv_lstore (lv' := [(6, .long j29_s0), (0, .int v0), (3, .long v2), (5, .int j13_s0)]) hx hb dX16_goes_29 hl (by decide) rfl (fun ls hl => ?_)
      refine lv_iload hx hb dX16_goes_31 (lv_at hl 3 rfl) ?_
      have b45 : ∀ (j45_s0 : Int64) (H : Heap) (locs : List Loc) (ls : Array Slot), lv_has ls 12 [(0, .int v0), (5, .int j13_s0), (6, .long j29_s0)] → va_P D vwCl [] H → va_D A [] → va_S A s.heap H locs → W p l e ({ frames := 3, cells := 0, slots := 0, locals := 66 }) s m [.int v0, .long v1, .long v2].toArray below meth c H locs 0 0 Q (F0 m 45 ls [.long j45_s0]) := by
        intro j45_s0 H locs ls  hl hP hD hS
        refine lv_lstore (lv' := [(8, .long j45_s0), (0, .int v0), (5, .int j13_s0), (6, .long j29_s0)]) hx hb dX16_goes_45 hl (by decide) rfl (fun ls hl => ?_)
        refine lv_lload hx hb dX16_goes_47 (lv_at hl 3 rfl) ?_
        refine lv_lload hx hb dX16_goes_49 (lv_at hl 0 rfl) ?_
        refine go_i (k1 := 0) (n1 := 0) (wr := []) [] [] (rn_S (As := [.long j29_s0, .long j45_s0]) (rest := []) (c_JL_compareUnsigned l D ct j29_s0 j45_s0  _) (cb_of (n := 2) hn mw_2370 mw_25 mw_2368 mhJL_compareUnsigned ⟨(Nat.le_of_ble_eq_true rfl), (Nat.le_of_ble_eq_true rfl)⟩) hx hb hml hown hn hK hSK hZ hS mw_2369 rfl hl.1 (Nat.le_of_ble_eq_true rfl) dX16_goes_51 ⟨(Nat.le_of_ble_eq_true rfl), (Nat.le_of_ble_eq_true rfl)⟩) hP hD hS hA rfl rfl (by decide) (by decide) (by decide) (Nat.le_of_ble_eq_true rfl) (Nat.le_of_ble_eq_true rfl) (fun r51_1 u51_2 H locs hp51_3 hP hD hS => ?_)
        have hp51_4 := hp51_3
        have hp51_4 : rg r51_1 (-1) 1 := hp51_4
        have hP : va_P D vwCl [] _ := hP
        have hD : va_D A [] := hD
        refine lv_istore (lv' := [(10, .int r51_1), (8, .long j45_s0), (0, .int v0), (5, .int j13_s0), (6, .long j29_s0)]) hx hb dX16_goes_54 hl (by decide) rfl (fun ls hl => ?_)
        refine lv_iload hx hb dX16_goes_56 (lv_at hl 3 rfl) ?_
        have b80 : ∀ (j80_s0 : Int32) (H : Heap) (locs : List Loc) (ls : Array Slot), (rg j80_s0 (-1) 1) → lv_has ls 12 [(0, .int v0), (6, .long j29_s0), (8, .long j45_s0), (10, .int r51_1)] → va_P D vwCl [] H → va_D A [] → va_S A s.heap H locs → W p l e ({ frames := 3, cells := 0, slots := 0, locals := 66 }) s m [.int v0, .long v1, .long v2].toArray below meth c H locs 0 0 Q (F0 m 80 ls [.int j80_s0]) := by
          intro j80_s0 H locs ls r80_1001 hl hP hD hS
          refine lv_istore (lv' := [(11, .int j80_s0), (0, .int v0), (6, .long j29_s0), (8, .long j45_s0), (10, .int r51_1)]) hx hb dX16_goes_80 hl (by decide) rfl (fun ls hl => ?_)
          refine lv_iload_n hx hb dX16_goes_82 rfl (lv_at hl 1 rfl) ?_
          refine lv_iconst (v := 4) hx hb dX16_goes_83 (by decide) ?_
          refine lv_ishr hx hb dX16_goes_84 ?_
          refine lv_topi (fun z84_1 ez84_1 => ?_)
          have r84_2 : rg z84_1 (-134217728) 134217727 := rg_shr (k := 4) ez84_1 (by decide) (rg_any v0) (by decide)
          have b269 : ∀  (H : Heap) (locs : List Loc) (ls : Array Slot), lv_has ls 12 [(11, .int j80_s0)] → va_P D vwCl [] H → va_D A [] → va_S A s.heap H locs → W p l e ({ frames := 3, cells := 0, slots := 0, locals := 66 }) s m [.int v0, .long v1, .long v2].toArray below meth c H locs 0 0 Q (F0 m 269 ls []) := by
            intro  H locs ls  hl hP hD hS
            refine lv_iload hx hb dX16_goes_269 (lv_at hl 0 rfl) ?_
            refine lv_if_gt (tgt := 278) hx hb dX16_goes_271 (by decide) (fun c271_1 => ?_) (fun c271_1 => ?_)
            · have t271_2 := FF.mk (i_lt c271_1)
              have r271_3 : rg j80_s0 1 1 := rg_ltB t271_2 (show rg (0 : Int32) 0 0 from rg_l (by decide)) r80_1001 (by decide)
              refine lv_iconst (v := 0) hx hb dX16_goes_278 (by decide) ?_
              exact endq_i hQ hx hb hr hlocks dX16_goes_279 (by decide) () (rg_w (show rg (0 : Int32) 0 0 from rg_l (by decide)) (by decide)) hP hD hS [] rfl (by decide) rfl (Nat.le_of_ble_eq_true rfl) (Nat.le_of_ble_eq_true rfl)
            · have t271_2 := FF.mk (i_nlt c271_1)
              have r271_3 : rg j80_s0 (-1) 0 := rg_leA t271_2 r80_1001 (show rg (0 : Int32) 0 0 from rg_l (by decide)) (by decide)
              refine lv_iconst (v := 1) hx hb dX16_goes_274 (by decide) ?_
              refine lv_goto (tgt := 279) hx hb dX16_goes_275 (by decide) ?_
              exact endq_i hQ hx hb hr hlocks dX16_goes_279 (by decide) () (rg_w (show rg (1 : Int32) 1 1 from rg_l (by decide)) (by decide)) hP hD hS [] rfl (by decide) rfl (Nat.le_of_ble_eq_true rfl) (Nat.le_of_ble_eq_true rfl)
          by_cases h85_101 : z84_1.toInt = 0
          · have r85_102 : rg z84_1 0 0 := rg_at h85_101
            refine lv_tableIn (off := 67) (tgt := 152) hx hb dX16_goes_85 (by rw [h85_101]; decide) (by rw [h85_101]; decide) (by rw [h85_101]; rfl) (by decide) ?_
            refine lv_iconst (v := 1) hx hb dX16_goes_152 (by decide) ?_
            exact endq_i hQ hx hb hr hlocks dX16_goes_153 (by decide) () (rg_w (show rg (1 : Int32) 1 1 from rg_l (by decide)) (by decide)) hP hD hS [] rfl (by decide) rfl (Nat.le_of_ble_eq_true rfl) (Nat.le_of_ble_eq_true rfl)
          by_cases h85_111 : z84_1.toInt = 1
          · have r85_112 : rg z84_1 1 1 := rg_at h85_111
            refine lv_tableIn (off := 69) (tgt := 154) hx hb dX16_goes_85 (by rw [h85_111]; decide) (by rw [h85_111]; decide) (by rw [h85_111]; rfl) (by decide) ?_
            refine lv_iload hx hb dX16_goes_154 (lv_at hl 4 rfl) ?_
            refine lv_if_ne (tgt := 163) hx hb dX16_goes_156 (by decide) (fun c156_1 => ?_) (fun c156_1 => ?_)
            · have t156_2 := FF.mk (i_ne c156_1)
              refine lv_iconst (v := 0) hx hb dX16_goes_163 (by decide) ?_
              exact endq_i hQ hx hb hr hlocks dX16_goes_164 (by decide) () (rg_w (show rg (0 : Int32) 0 0 from rg_l (by decide)) (by decide)) hP hD hS [] rfl (by decide) rfl (Nat.le_of_ble_eq_true rfl) (Nat.le_of_ble_eq_true rfl)
            · have t156_2 := FF.mk (i_eq c156_1)
              have r156_3 : rg r51_1 0 0 := rg_eqA t156_2 hp51_4 (show rg (0 : Int32) 0 0 from rg_l (by decide)) (by decide)
              refine lv_iconst (v := 1) hx hb dX16_goes_159 (by decide) ?_
              refine lv_goto (tgt := 164) hx hb dX16_goes_160 (by decide) ?_
              exact endq_i hQ hx hb hr hlocks dX16_goes_164 (by decide) () (rg_w (show rg (1 : Int32) 1 1 from rg_l (by decide)) (by decide)) hP hD hS [] rfl (by decide) rfl (Nat.le_of_ble_eq_true rfl) (Nat.le_of_ble_eq_true rfl)
          by_cases h85_121 : z84_1.toInt = 2
          · have r85_122 : rg z84_1 2 2 := rg_at h85_121
            refine lv_tableIn (off := 80) (tgt := 165) hx hb dX16_goes_85 (by rw [h85_121]; decide) (by rw [h85_121]; decide) (by rw [h85_121]; rfl) (by decide) ?_
            refine lv_iload hx hb dX16_goes_165 (lv_at hl 4 rfl) ?_
            refine lv_if_le (tgt := 174) hx hb dX16_goes_167 (by decide) (fun c167_1 => ?_) (fun c167_1 => ?_)
            · have t167_2 := FF.mk (i_le c167_1)
              have r167_3 : rg r51_1 (-1) 0 := rg_leA t167_2 hp51_4 (show rg (0 : Int32) 0 0 from rg_l (by decide)) (by decide)
              refine lv_iconst (v := 0) hx hb dX16_goes_174 (by decide) ?_
              exact endq_i hQ hx hb hr hlocks dX16_goes_175 (by decide) () (rg_w (show rg (0 : Int32) 0 0 from rg_l (by decide)) (by decide)) hP hD hS [] rfl (by decide) rfl (Nat.le_of_ble_eq_true rfl) (Nat.le_of_ble_eq_true rfl)
            · have t167_2 := FF.mk (i_nle c167_1)
              have r167_3 : rg r51_1 1 1 := rg_ltB t167_2 (show rg (0 : Int32) 0 0 from rg_l (by decide)) hp51_4 (by decide)
              refine lv_iconst (v := 1) hx hb dX16_goes_170 (by decide) ?_
              refine lv_goto (tgt := 175) hx hb dX16_goes_171 (by decide) ?_
              exact endq_i hQ hx hb hr hlocks dX16_goes_175 (by decide) () (rg_w (show rg (1 : Int32) 1 1 from rg_l (by decide)) (by decide)) hP hD hS [] rfl (by decide) rfl (Nat.le_of_ble_eq_true rfl) (Nat.le_of_ble_eq_true rfl)
          by_cases h85_131 : z84_1.toInt = 3
          · have r85_132 : rg z84_1 3 3 := rg_at h85_131
            refine lv_tableIn (off := 91) (tgt := 176) hx hb dX16_goes_85 (by rw [h85_131]; decide) (by rw [h85_131]; decide) (by rw [h85_131]; rfl) (by decide) ?_
            refine lv_iload hx hb dX16_goes_176 (lv_at hl 4 rfl) ?_
            refine lv_if_lt (tgt := 185) hx hb dX16_goes_178 (by decide) (fun c178_1 => ?_) (fun c178_1 => ?_)
            · have t178_2 := FF.mk (i_lt c178_1)
              have r178_3 : rg r51_1 (-1) (-1) := rg_ltA t178_2 hp51_4 (show rg (0 : Int32) 0 0 from rg_l (by decide)) (by decide)
              refine lv_iconst (v := 0) hx hb dX16_goes_185 (by decide) ?_
              exact endq_i hQ hx hb hr hlocks dX16_goes_186 (by decide) () (rg_w (show rg (0 : Int32) 0 0 from rg_l (by decide)) (by decide)) hP hD hS [] rfl (by decide) rfl (Nat.le_of_ble_eq_true rfl) (Nat.le_of_ble_eq_true rfl)
            · have t178_2 := FF.mk (i_nlt c178_1)
              have r178_3 : rg r51_1 0 1 := rg_leB t178_2 (show rg (0 : Int32) 0 0 from rg_l (by decide)) hp51_4 (by decide)
              refine lv_iconst (v := 1) hx hb dX16_goes_181 (by decide) ?_
              refine lv_goto (tgt := 186) hx hb dX16_goes_182 (by decide) ?_
              exact endq_i hQ hx hb hr hlocks dX16_goes_186 (by decide) () (rg_w (show rg (1 : Int32) 1 1 from rg_l (by decide)) (by decide)) hP hD hS [] rfl (by decide) rfl (Nat.le_of_ble_eq_true rfl) (Nat.le_of_ble_eq_true rfl)
          by_cases h85_141 : z84_1.toInt = 4
          · have r85_142 : rg z84_1 4 4 := rg_at h85_141
            refine lv_tableIn (off := 102) (tgt := 187) hx hb dX16_goes_85 (by rw [h85_141]; decide) (by rw [h85_141]; decide) (by rw [h85_141]; rfl) (by decide) ?_
            refine lv_lload hx hb dX16_goes_187 (lv_at hl 2 rfl) ?_
            refine lv_lload hx hb dX16_goes_189 (lv_at hl 3 rfl) ?_
            refine lv_land hx hb dX16_goes_191 ?_
            refine lv_topl (fun z191_1 ez191_1 => ?_)
            refine lv_lconst (v := 0) hx hb dX16_goes_192 (by decide) ?_
            refine W.lcmp hx hb dX16_goes_193 ?_
            refine lv_topi (fun z193_1 ez193_1 => ?_)
            refine lv_if_eq (tgt := 201) hx hb dX16_goes_194 (by decide) (fun c194_1 => ?_) (fun c194_1 => ?_)
            · have t194_2 := FF.mk (l_eq ez193_1 c194_1)
              have r194_3 : rl z191_1 0 0 := rl_eqA t194_2 (rl_any z191_1) (show rl (0 : Int64) 0 0 from rl_l (by decide)) (by decide)
              refine lv_iconst (v := 0) hx hb dX16_goes_201 (by decide) ?_
              exact endq_i hQ hx hb hr hlocks dX16_goes_202 (by decide) () (rg_w (show rg (0 : Int32) 0 0 from rg_l (by decide)) (by decide)) hP hD hS [] rfl (by decide) rfl (Nat.le_of_ble_eq_true rfl) (Nat.le_of_ble_eq_true rfl)
            · have t194_2 := FF.mk (l_neq ez193_1 c194_1)
              refine lv_iconst (v := 1) hx hb dX16_goes_197 (by decide) ?_
              refine lv_goto (tgt := 202) hx hb dX16_goes_198 (by decide) ?_
              exact endq_i hQ hx hb hr hlocks dX16_goes_202 (by decide) () (rg_w (show rg (1 : Int32) 1 1 from rg_l (by decide)) (by decide)) hP hD hS [] rfl (by decide) rfl (Nat.le_of_ble_eq_true rfl) (Nat.le_of_ble_eq_true rfl)
          by_cases h85_151 : z84_1.toInt = 5
          · have r85_152 : rg z84_1 5 5 := rg_at h85_151
            refine lv_tableIn (off := 118) (tgt := 203) hx hb dX16_goes_85 (by rw [h85_151]; decide) (by rw [h85_151]; decide) (by rw [h85_151]; rfl) (by decide) ?_
            refine lv_iload hx hb dX16_goes_203 (lv_at hl 4 rfl) ?_
            refine lv_if_eq (tgt := 212) hx hb dX16_goes_205 (by decide) (fun c205_1 => ?_) (fun c205_1 => ?_)
            · have t205_2 := FF.mk (i_eq c205_1)
              have r205_3 : rg r51_1 0 0 := rg_eqA t205_2 hp51_4 (show rg (0 : Int32) 0 0 from rg_l (by decide)) (by decide)
              refine lv_iconst (v := 0) hx hb dX16_goes_212 (by decide) ?_
              exact endq_i hQ hx hb hr hlocks dX16_goes_213 (by decide) () (rg_w (show rg (0 : Int32) 0 0 from rg_l (by decide)) (by decide)) hP hD hS [] rfl (by decide) rfl (Nat.le_of_ble_eq_true rfl) (Nat.le_of_ble_eq_true rfl)
            · have t205_2 := FF.mk (i_ne c205_1)
              refine lv_iconst (v := 1) hx hb dX16_goes_208 (by decide) ?_
              refine lv_goto (tgt := 213) hx hb dX16_goes_209 (by decide) ?_
              exact endq_i hQ hx hb hr hlocks dX16_goes_213 (by decide) () (rg_w (show rg (1 : Int32) 1 1 from rg_l (by decide)) (by decide)) hP hD hS [] rfl (by decide) rfl (Nat.le_of_ble_eq_true rfl) (Nat.le_of_ble_eq_true rfl)
          by_cases h85_161 : z84_1.toInt = 6
          · have r85_162 : rg z84_1 6 6 := rg_at h85_161
            refine lv_tableIn (off := 129) (tgt := 214) hx hb dX16_goes_85 (by rw [h85_161]; decide) (by rw [h85_161]; decide) (by rw [h85_161]; rfl) (by decide) ?_
            refine lv_iload hx hb dX16_goes_214 (lv_at hl 0 rfl) ?_
            refine lv_if_le (tgt := 223) hx hb dX16_goes_216 (by decide) (fun c216_1 => ?_) (fun c216_1 => ?_)
            · have t216_2 := FF.mk (i_le c216_1)
              have r216_3 : rg j80_s0 (-1) 0 := rg_leA t216_2 r80_1001 (show rg (0 : Int32) 0 0 from rg_l (by decide)) (by decide)
              refine lv_iconst (v := 0) hx hb dX16_goes_223 (by decide) ?_
              exact endq_i hQ hx hb hr hlocks dX16_goes_224 (by decide) () (rg_w (show rg (0 : Int32) 0 0 from rg_l (by decide)) (by decide)) hP hD hS [] rfl (by decide) rfl (Nat.le_of_ble_eq_true rfl) (Nat.le_of_ble_eq_true rfl)
            · have t216_2 := FF.mk (i_nle c216_1)
              have r216_3 : rg j80_s0 1 1 := rg_ltB t216_2 (show rg (0 : Int32) 0 0 from rg_l (by decide)) r80_1001 (by decide)
              refine lv_iconst (v := 1) hx hb dX16_goes_219 (by decide) ?_
              refine lv_goto (tgt := 224) hx hb dX16_goes_220 (by decide) ?_
              exact endq_i hQ hx hb hr hlocks dX16_goes_224 (by decide) () (rg_w (show rg (1 : Int32) 1 1 from rg_l (by decide)) (by decide)) hP hD hS [] rfl (by decide) rfl (Nat.le_of_ble_eq_true rfl) (Nat.le_of_ble_eq_true rfl)
          by_cases h85_171 : z84_1.toInt = 7
          · have r85_172 : rg z84_1 7 7 := rg_at h85_171
            refine lv_tableIn (off := 140) (tgt := 225) hx hb dX16_goes_85 (by rw [h85_171]; decide) (by rw [h85_171]; decide) (by rw [h85_171]; rfl) (by decide) ?_
            refine lv_iload hx hb dX16_goes_225 (lv_at hl 0 rfl) ?_
            refine lv_if_lt (tgt := 234) hx hb dX16_goes_227 (by decide) (fun c227_1 => ?_) (fun c227_1 => ?_)
            · have t227_2 := FF.mk (i_lt c227_1)
              have r227_3 : rg j80_s0 (-1) (-1) := rg_ltA t227_2 r80_1001 (show rg (0 : Int32) 0 0 from rg_l (by decide)) (by decide)
              refine lv_iconst (v := 0) hx hb dX16_goes_234 (by decide) ?_
              exact endq_i hQ hx hb hr hlocks dX16_goes_235 (by decide) () (rg_w (show rg (0 : Int32) 0 0 from rg_l (by decide)) (by decide)) hP hD hS [] rfl (by decide) rfl (Nat.le_of_ble_eq_true rfl) (Nat.le_of_ble_eq_true rfl)
            · have t227_2 := FF.mk (i_nlt c227_1)
              have r227_3 : rg j80_s0 0 1 := rg_leB t227_2 (show rg (0 : Int32) 0 0 from rg_l (by decide)) r80_1001 (by decide)
              refine lv_iconst (v := 1) hx hb dX16_goes_230 (by decide) ?_
              refine lv_goto (tgt := 235) hx hb dX16_goes_231 (by decide) ?_
              exact endq_i hQ hx hb hr hlocks dX16_goes_235 (by decide) () (rg_w (show rg (1 : Int32) 1 1 from rg_l (by decide)) (by decide)) hP hD hS [] rfl (by decide) rfl (Nat.le_of_ble_eq_true rfl) (Nat.le_of_ble_eq_true rfl)
          by_cases h85_181 : z84_1.toInt = 8
          · have r85_182 : rg z84_1 8 8 := rg_at h85_181
            refine lv_tableIn (off := 184) (tgt := 269) hx hb dX16_goes_85 (by rw [h85_181]; decide) (by rw [h85_181]; decide) (by rw [h85_181]; rfl) (by decide) ?_
            exact b269  H locs ls  (lv_sub hl [0] rfl) hP hD hS
          by_cases h85_191 : z84_1.toInt = 9
          · have r85_192 : rg z84_1 9 9 := rg_at h85_191
            refine lv_tableIn (off := 184) (tgt := 269) hx hb dX16_goes_85 (by rw [h85_191]; decide) (by rw [h85_191]; decide) (by rw [h85_191]; rfl) (by decide) ?_
            exact b269  H locs ls  (lv_sub hl [0] rfl) hP hD hS
          by_cases h85_201 : z84_1.toInt = 10
          · have r85_202 : rg z84_1 10 10 := rg_at h85_201
            refine lv_tableIn (off := 151) (tgt := 236) hx hb dX16_goes_85 (by rw [h85_201]; decide) (by rw [h85_201]; decide) (by rw [h85_201]; rfl) (by decide) ?_
            refine lv_iload hx hb dX16_goes_236 (lv_at hl 4 rfl) ?_
            refine lv_if_ge (tgt := 245) hx hb dX16_goes_238 (by decide) (fun c238_1 => ?_) (fun c238_1 => ?_)
            · have t238_2 := FF.mk (i_le c238_1)
              have r238_3 : rg r51_1 0 1 := rg_leB t238_2 (show rg (0 : Int32) 0 0 from rg_l (by decide)) hp51_4 (by decide)
              refine lv_iconst (v := 0) hx hb dX16_goes_245 (by decide) ?_
              exact endq_i hQ hx hb hr hlocks dX16_goes_246 (by decide) () (rg_w (show rg (0 : Int32) 0 0 from rg_l (by decide)) (by decide)) hP hD hS [] rfl (by decide) rfl (Nat.le_of_ble_eq_true rfl) (Nat.le_of_ble_eq_true rfl)
            · have t238_2 := FF.mk (i_nle c238_1)
              have r238_3 : rg r51_1 (-1) (-1) := rg_ltA t238_2 hp51_4 (show rg (0 : Int32) 0 0 from rg_l (by decide)) (by decide)
              refine lv_iconst (v := 1) hx hb dX16_goes_241 (by decide) ?_
              refine lv_goto (tgt := 246) hx hb dX16_goes_242 (by decide) ?_
              exact endq_i hQ hx hb hr hlocks dX16_goes_246 (by decide) () (rg_w (show rg (1 : Int32) 1 1 from rg_l (by decide)) (by decide)) hP hD hS [] rfl (by decide) rfl (Nat.le_of_ble_eq_true rfl) (Nat.le_of_ble_eq_true rfl)
          by_cases h85_211 : z84_1.toInt = 11
          · have r85_212 : rg z84_1 11 11 := rg_at h85_211
            refine lv_tableIn (off := 162) (tgt := 247) hx hb dX16_goes_85 (by rw [h85_211]; decide) (by rw [h85_211]; decide) (by rw [h85_211]; rfl) (by decide) ?_
            refine lv_iload hx hb dX16_goes_247 (lv_at hl 4 rfl) ?_
            refine lv_if_gt (tgt := 256) hx hb dX16_goes_249 (by decide) (fun c249_1 => ?_) (fun c249_1 => ?_)
            · have t249_2 := FF.mk (i_lt c249_1)
              have r249_3 : rg r51_1 1 1 := rg_ltB t249_2 (show rg (0 : Int32) 0 0 from rg_l (by decide)) hp51_4 (by decide)
              refine lv_iconst (v := 0) hx hb dX16_goes_256 (by decide) ?_
              exact endq_i hQ hx hb hr hlocks dX16_goes_257 (by decide) () (rg_w (show rg (0 : Int32) 0 0 from rg_l (by decide)) (by decide)) hP hD hS [] rfl (by decide) rfl (Nat.le_of_ble_eq_true rfl) (Nat.le_of_ble_eq_true rfl)
            · have t249_2 := FF.mk (i_nlt c249_1)
              have r249_3 : rg r51_1 (-1) 0 := rg_leA t249_2 hp51_4 (show rg (0 : Int32) 0 0 from rg_l (by decide)) (by decide)
              refine lv_iconst (v := 1) hx hb dX16_goes_252 (by decide) ?_
              refine lv_goto (tgt := 257) hx hb dX16_goes_253 (by decide) ?_
              exact endq_i hQ hx hb hr hlocks dX16_goes_257 (by decide) () (rg_w (show rg (1 : Int32) 1 1 from rg_l (by decide)) (by decide)) hP hD hS [] rfl (by decide) rfl (Nat.le_of_ble_eq_true rfl) (Nat.le_of_ble_eq_true rfl)
          by_cases h85_221 : z84_1.toInt = 12
          · have r85_222 : rg z84_1 12 12 := rg_at h85_221
            refine lv_tableIn (off := 173) (tgt := 258) hx hb dX16_goes_85 (by rw [h85_221]; decide) (by rw [h85_221]; decide) (by rw [h85_221]; rfl) (by decide) ?_
            refine lv_iload hx hb dX16_goes_258 (lv_at hl 0 rfl) ?_
            refine lv_if_ge (tgt := 267) hx hb dX16_goes_260 (by decide) (fun c260_1 => ?_) (fun c260_1 => ?_)
            · have t260_2 := FF.mk (i_le c260_1)
              have r260_3 : rg j80_s0 0 1 := rg_leB t260_2 (show rg (0 : Int32) 0 0 from rg_l (by decide)) r80_1001 (by decide)
              refine lv_iconst (v := 0) hx hb dX16_goes_267 (by decide) ?_
              exact endq_i hQ hx hb hr hlocks dX16_goes_268 (by decide) () (rg_w (show rg (0 : Int32) 0 0 from rg_l (by decide)) (by decide)) hP hD hS [] rfl (by decide) rfl (Nat.le_of_ble_eq_true rfl) (Nat.le_of_ble_eq_true rfl)
            · have t260_2 := FF.mk (i_nle c260_1)
              have r260_3 : rg j80_s0 (-1) (-1) := rg_ltA t260_2 r80_1001 (show rg (0 : Int32) 0 0 from rg_l (by decide)) (by decide)
              refine lv_iconst (v := 1) hx hb dX16_goes_263 (by decide) ?_
              refine lv_goto (tgt := 268) hx hb dX16_goes_264 (by decide) ?_
              exact endq_i hQ hx hb hr hlocks dX16_goes_268 (by decide) () (rg_w (show rg (1 : Int32) 1 1 from rg_l (by decide)) (by decide)) hP hD hS [] rfl (by decide) rfl (Nat.le_of_ble_eq_true rfl) (Nat.le_of_ble_eq_true rfl)
          refine lv_tableOut (tgt := 269) hx hb dX16_goes_85 (by have q0 := r84_2; have q1 := q0.1; have q2 := q0.2; omega) (by decide) ?_
          have hl85_5001 := FF.mk h85_101
          have hl85_5002 := FF.mk h85_111
          have hl85_5003 := FF.mk h85_121
          have hl85_5004 := FF.mk h85_131
          have hl85_5005 := FF.mk h85_141
          have hl85_5006 := FF.mk h85_151
          have hl85_5007 := FF.mk h85_161
          have hl85_5008 := FF.mk h85_171
          have hl85_5009 := FF.mk h85_181
          have hl85_5010 := FF.mk h85_191
          have hl85_5011 := FF.mk h85_201
          have hl85_5012 := FF.mk h85_211
          have hl85_5013 := FF.mk h85_221
          exact b269  H locs ls  (lv_sub hl [0] rfl) hP hD hS
        refine lv_if_eq (tgt := 71) hx hb dX16_goes_58 (by decide) (fun c58_1 => ?_) (fun c58_1 => ?_)
        · have t58_2 := FF.mk (i_eq c58_1)
          have r58_3 : rg j13_s0 0 0 := rg_eqA t58_2 r13_1001 (show rg (0 : Int32) 0 0 from rg_l (by decide)) (by decide)
          refine lv_lload hx hb dX16_goes_71 (lv_at hl 4 rfl) ?_
          refine lv_l2i hx hb dX16_goes_73 rfl ?_
          refine lv_topi (fun z73_1 ez73_1 => ?_)
          refine lv_lload hx hb dX16_goes_74 (lv_at hl 1 rfl) ?_
          refine lv_l2i hx hb dX16_goes_76 rfl ?_
          refine lv_topi (fun z76_1 ez76_1 => ?_)
          refine go_i (k1 := 0) (n1 := 0) (wr := []) [] [] (rn_S (As := [.int z73_1, .int z76_1]) (rest := []) (c_JI_compare l D ct z73_1 z76_1  _) (cb_of (n := 2) hn mw_2378 mw_26 mw_2376 mhJI_compare ⟨(Nat.le_of_ble_eq_true rfl), (Nat.le_of_ble_eq_true rfl)⟩) hx hb hml hown hn hK hSK hZ hS mw_2377 rfl hl.1 (Nat.le_of_ble_eq_true rfl) dX16_goes_77 ⟨(Nat.le_of_ble_eq_true rfl), (Nat.le_of_ble_eq_true rfl)⟩) hP hD hS hA rfl rfl (by decide) (by decide) (by decide) (Nat.le_of_ble_eq_true rfl) (Nat.le_of_ble_eq_true rfl) (fun r77_1 u77_2 H locs hp77_3 hP hD hS => ?_)
          have hp77_4 := hp77_3
          have hp77_4 : rg r77_1 (-1) 1 := hp77_4
          have hP : va_P D vwCl [] _ := hP
          have hD : va_D A [] := hD
          exact b80 r77_1 H locs ls hp77_4 (lv_sub hl [2, 4, 1, 0] rfl) hP hD hS
        · have t58_2 := FF.mk (i_ne c58_1)
          have r58_3 : rg j13_s0 1 1 := rg_neAl t58_2 r13_1001 (show rg (0 : Int32) 0 0 from rg_l (by decide)) (by decide)
          refine lv_lload hx hb dX16_goes_61 (lv_at hl 4 rfl) ?_
          refine lv_lload hx hb dX16_goes_63 (lv_at hl 1 rfl) ?_
          refine go_i (k1 := 0) (n1 := 0) (wr := []) [] [] (rn_S (As := [.long j29_s0, .long j45_s0]) (rest := []) (c_JL_compare l D ct j29_s0 j45_s0  _) (cb_of (n := 2) hn mw_2374 mw_25 mw_2375 mhJL_compare ⟨(Nat.le_of_ble_eq_true rfl), (Nat.le_of_ble_eq_true rfl)⟩) hx hb hml hown hn hK hSK hZ hS mw_2373 rfl hl.1 (Nat.le_of_ble_eq_true rfl) dX16_goes_65 ⟨(Nat.le_of_ble_eq_true rfl), (Nat.le_of_ble_eq_true rfl)⟩) hP hD hS hA rfl rfl (by decide) (by decide) (by decide) (Nat.le_of_ble_eq_true rfl) (Nat.le_of_ble_eq_true rfl) (fun r65_1 u65_2 H locs hp65_3 hP hD hS => ?_)
          have hp65_4 := hp65_3
          have hp65_4 : rg r65_1 (-1) 1 := hp65_4
          have hP : va_P D vwCl [] _ := hP
          have hD : va_D A [] := hD
          refine lv_goto (tgt := 80) hx hb dX16_goes_68 (by decide) ?_
          exact b80 r65_1 H locs ls hp65_4 (lv_sub hl [2, 4, 1, 0] rfl) hP hD hS
      refine lv_if_eq (tgt := 40) hx hb dX16_goes_33 (by decide) (fun c33_1 => ?_) (fun c33_1 => ?_)
      · have t33_2 := FF.mk (i_eq c33_1)
        have r33_3 : rg j13_s0 0 0 := rg_eqA t33_2 r13_1001 (show rg (0 : Int32) 0 0 from rg_l (by decide)) (by decide)
        refine lv_lload_n hx hb dX16_goes_40 rfl (lv_at hl 2 rfl) ?_
        refine lv_ldc2 (v := 4294967295) hx hb hown (hn.get mw_1820 rfl) dX16_goes_41 ?_
        refine lv_land hx hb dX16_goes_44 ?_
        refine lv_topl (fun z44_1 ez44_1 => ?_)
        have r44_2 : rl z44_1 0 4294967295 := rgL_andr ez44_1 (show rl (4294967295 : Int64) 4294967295 4294967295 from rl_l (by decide)) (by decide)
        exact b45 z44_1 H locs ls  (lv_sub hl [1, 3, 0] rfl) hP hD hS
      · have t33_2 := FF.mk (i_ne c33_1)
        have r33_3 : rg j13_s0 1 1 := rg_neAl t33_2 r13_1001 (show rg (0 : Int32) 0 0 from rg_l (by decide)) (by decide)
        refine lv_lload_n hx hb dX16_goes_36 rfl (lv_at hl 2 rfl) ?_
        refine lv_goto (tgt := 45) hx hb dX16_goes_37 (by decide) ?_
        exact b45 v2 H locs ls  (lv_sub hl [1, 3, 0] rfl) hP hD hS
    refine lv_if_eq (tgt := 24) hx hb dX16_goes_17 (by decide) (fun c17_1 => ?_) (fun c17_1 => ?_)
    · have t17_2 := FF.mk (i_eq c17_1)
      have r17_3 : rg j13_s0 0 0 := rg_eqA t17_2 r13_1001 (show rg (0 : Int32) 0 0 from rg_l (by decide)) (by decide)
      refine lv_lload_n hx hb dX16_goes_24 rfl (lv_at hl 2 rfl) ?_
      refine lv_ldc2 (v := 4294967295) hx hb hown (hn.get mw_1820 rfl) dX16_goes_25 ?_
      refine lv_land hx hb dX16_goes_28 ?_
      refine lv_topl (fun z28_1 ez28_1 => ?_)
      have r28_2 : rl z28_1 0 4294967295 := rgL_andr ez28_1 (show rl (4294967295 : Int64) 4294967295 4294967295 from rl_l (by decide)) (by decide)
      exact b29 z28_1 H locs ls  (lv_sub hl [1, 3, 0] rfl) hP hD hS
    · have t17_2 := FF.mk (i_ne c17_1)
      have r17_3 : rg j13_s0 1 1 := rg_neAl t17_2 r13_1001 (show rg (0 : Int32) 0 0 from rg_l (by decide)) (by decide)
      refine lv_lload_n hx hb dX16_goes_20 rfl (lv_at hl 2 rfl) ?_
      refine lv_goto (tgt := 29) hx hb dX16_goes_21 (by decide) ?_
      exact b29 v1 H locs ls  (lv_sub hl [1, 3, 0] rfl) hP hD hS
  refine lv_icmp_ne (tgt := 12) hx hb dX16_goes_5 (by decide) (fun c5_1 => ?_) (fun c5_1 => ?_)
  · have t5_2 := FF.mk (i_ne c5_1)
    refine lv_iconst (v := 0) hx hb dX16_goes_12 (by decide) ?_
    exact b13 (0 : Int32) H locs ls (rg_w (show rg (0 : Int32) 0 0 from rg_l (by decide)) (by decide)) (lv_sub hl [0, 1, 2] rfl) hP hD hS
  · have t5_2 := FF.mk (i_eq c5_1)
    have r5_3 : rg z3_1 5 5 := rg_eqA t5_2 r3_2 (show rg (5 : Int32) 5 5 from rg_l (by decide)) (by decide)
    refine lv_iconst (v := 1) hx hb dX16_goes_8 (by decide) ?_
    refine lv_goto (tgt := 13) hx hb dX16_goes_9 (by decide) ?_
    exact b13 (1 : Int32) H locs ls (rg_w (show rg (1 : Int32) 1 1 from rg_l (by decide)) (by decide)) (lv_sub hl [0, 1, 2] rfl) hP hD hS
set_option maxHeartbeats 2000000 in
theorem c_X16_isStack (l : Launch) (D : va_G) (ct : Nat → ClassId) (v0 : Int64) (v1 : Int32) (h_v1 : rg v1 0 8) : KI (S := Unit) l yX16_isStack cX16_isStack 3 (some .boolean) 1 20 D ct [.long v0, .int v1] [] 0 0 (fun (r : Int32) (_ : Unit) => rg r 0 1 ∧ (r.toInt = 1 → 131072 ≤ v0.toInt ∧ v0.toInt ≤ 131136 - v1.toInt)) (fun (_ : Unit) => []) := by
  refine KIq_of (by decide) (Nat.le_of_ble_eq_true rfl) (fun p e s m below meth c A Q C0 hA H locs hS hP hD hQ ls hl => ?_)
  obtain ⟨hx, hb, hr, hown, hin, hml, hlocks, hn, hK, hZ, hSK⟩ := C0
  have hl : lv_has ls 3 [(0, .long v0), (2, .int v1)] := hl
  refine lv_lload_n hx hb dX16_isStack_0 rfl (lv_at hl 0 rfl) ?_
  refine lv_ldc2 (v := 131072) hx hb hown (hn.get mw_2385 rfl) dX16_isStack_1 ?_
  refine W.lcmp hx hb dX16_isStack_4 ?_
  refine lv_topi (fun z4_1 ez4_1 => ?_)
  refine lv_if_lt (tgt := 23) hx hb dX16_isStack_5 (by decide) (fun c5_1 => ?_) (fun c5_1 => ?_)
  · have t5_2 := FF.mk (l_lt ez4_1 c5_1)
    have r5_3 : rl v0 (-9223372036854775808) 131071 := rl_ltA t5_2 (rl_any v0) (show rl (131072 : Int64) 131072 131072 from rl_l (by decide)) (by decide)
    refine lv_iconst (v := 0) hx hb dX16_isStack_23 (by decide) ?_
    exact endq_i hQ hx hb hr hlocks dX16_isStack_24 (by decide) () ⟨(rg_w (show rg (0 : Int32) 0 0 from rg_l (by decide)) (by decide)), (show (0 : Int32).toInt = 1 → 131072 ≤ v0.toInt ∧ v0.toInt ≤ 131136 - v1.toInt by have q0 := (show (0 : Int32).toInt = 0 from by decide); omega)⟩ hP hD hS [] rfl (by decide) rfl (Nat.le_of_ble_eq_true rfl) (Nat.le_of_ble_eq_true rfl)
  · have t5_2 := FF.mk (l_nlt ez4_1 c5_1)
    have r5_3 : rl v0 131072 9223372036854775807 := rl_leB t5_2 (show rl (131072 : Int64) 131072 131072 from rl_l (by decide)) (rl_any v0) (by decide)
    refine lv_lload_n hx hb dX16_isStack_8 rfl (lv_at hl 0 rfl) ?_
    refine lv_ldc2 (v := 131136) hx hb hown (hn.get mw_2316 rfl) dX16_isStack_9 ?_
    refine lv_iload_n hx hb dX16_isStack_12 rfl (lv_at hl 1 rfl) ?_
    refine lv_i2l hx hb dX16_isStack_13 rfl ?_
    refine lv_topl (fun z13_1 ez13_1 => ?_)
    have r13_2 : rl z13_1 0 8 := rl_i2l ez13_1 h_v1
    refine lv_lsub hx hb dX16_isStack_14 ?_
    refine lv_topl (fun z14_1 ez14_1 => ?_)
    have r14_2 : rl z14_1 131128 131136 := rgL_sub ez14_1 (show rl (131136 : Int64) 131136 131136 from rl_l (by decide)) r13_2 (by decide)
    refine W.lcmp hx hb dX16_isStack_15 ?_
    refine lv_topi (fun z15_1 ez15_1 => ?_)
    refine lv_if_gt (tgt := 23) hx hb dX16_isStack_16 (by decide) (fun c16_1 => ?_) (fun c16_1 => ?_)
    · have t16_2 := FF.mk (l_gt ez15_1 c16_1)
      have r16_3 : rl v0 131129 9223372036854775807 := rl_ltB t16_2 r14_2 r5_3 (by decide)
      refine lv_iconst (v := 0) hx hb dX16_isStack_23 (by decide) ?_
      exact endq_i hQ hx hb hr hlocks dX16_isStack_24 (by decide) () ⟨(rg_w (show rg (0 : Int32) 0 0 from rg_l (by decide)) (by decide)), (show (0 : Int32).toInt = 1 → 131072 ≤ v0.toInt ∧ v0.toInt ≤ 131136 - v1.toInt by have q0 := (show (0 : Int32).toInt = 0 from by decide); omega)⟩ hP hD hS [] rfl (by decide) rfl (Nat.le_of_ble_eq_true rfl) (Nat.le_of_ble_eq_true rfl)
    · have t16_2 := FF.mk (l_ngt ez15_1 c16_1)
      have r16_3 : rl v0 131072 131136 := rl_leA t16_2 r5_3 r14_2 (by decide)
      refine lv_iconst (v := 1) hx hb dX16_isStack_19 (by decide) ?_
      refine lv_goto (tgt := 24) hx hb dX16_isStack_20 (by decide) ?_
      exact endq_i hQ hx hb hr hlocks dX16_isStack_24 (by decide) () ⟨(rg_w (show rg (1 : Int32) 1 1 from rg_l (by decide)) (by decide)), (show (1 : Int32).toInt = 1 → 131072 ≤ v0.toInt ∧ v0.toInt ≤ 131136 - v1.toInt by have q0 := r16_3.1; have q1 := (eqL_sub ez14_1 (show rl (131136 : Int64) 131136 131136 from rl_l (by decide)) r13_2 (by decide)); have q2 := (eq_i2l ez13_1); have q3 := FF.out t16_2; have q4 := (show (1 : Int32).toInt = 1 from by decide); have q5 := (show (131136 : Int64).toInt = 131136 from by decide); omega)⟩ hP hD hS [] rfl (by decide) rfl (Nat.le_of_ble_eq_true rfl) (Nat.le_of_ble_eq_true rfl)
set_option maxHeartbeats 2000000 in
theorem c_X16_load_ (l : Launch) (D : va_G) (ct : Nat → ClassId) (mm : Nat) (v0 : Int64) (v1 : Int32) (fs_mm : List Value) (ustk : Nat) (g_ustk : Nat → Int32) (h_v0 : rl v0 131072 131136) (h_v1 : rg v1 0 8) (hlen_mm : fs_mm.length = 78) (hf_mm_34 : fs_mm[34]? = some (.ref ustk)) (h_g_ustk : Rg g_ustk 64 0 255) (hq0 : v0.toInt ≤ 131136 - v1.toInt) : KL (S := Unit) l yX16_load_ cX16_load_ 7 (some .long) 1 20 D ct [.ref mm, .long v0, .int v1] [(mm, .inr (16, fs_mm)), (ustk, .inl (ct 1, 64, .inl g_ustk))] 0 0 (fun (r : Int64) (_ : Unit) => True) (fun (_ : Unit) => [(mm, .inr (16, fs_mm)), (ustk, .inl (ct 1, 64, .inl g_ustk))]) := by
  refine KLq_of (by decide) (Nat.le_of_ble_eq_true rfl) (fun p e s m below meth c A Q C0 hA H locs hS hP hD hQ ls hl => ?_)
  obtain ⟨hx, hb, hr, hown, hin, hml, hlocks, hn, hK, hZ, hSK⟩ := C0
  have hl : lv_has ls 7 [(0, .ref mm), (1, .long v0), (3, .int v1)] := hl
  replace hq0 := FF.mk hq0
  refine lv_lconst (v := 0) hx hb dX16_load__0 (by decide) ?_
  refine lv_lstore (lv' := [(4, .long 0), (0, .ref mm), (1, .long v0), (3, .int v1)]) hx hb dX16_load__1 hl (by decide) rfl (fun ls hl => ?_)
  refine lv_iload_n hx hb dX16_load__3 rfl (lv_at hl 3 rfl) ?_
  refine lv_iconst (v := 1) hx hb dX16_load__4 (by decide) ?_
  refine lv_isub hx hb dX16_load__5 ?_
  refine lv_topi (fun z5_1 ez5_1 => ?_)
  have r5_2 : rg z5_1 (-1) 7 := rg_sub ez5_1 h_v1 (show rg (1 : Int32) 1 1 from rg_l (by decide)) (by decide)
  refine lv_istore (lv' := [(6, .int z5_1), (4, .long 0), (0, .ref mm), (1, .long v0), (3, .int v1)]) hx hb dX16_load__6 hl (by decide) rfl (fun ls hl => ?_)
  have b8 : ∀ (n : Nat) (j8_l4 : Int64) (j8_l6 : Int32) (H : Heap) (locs : List Loc) (ls : Array Slot), (rg j8_l6 (-1) 7) → (FF (j8_l6.toInt ≤ v1.toInt - 1)) → (j8_l6.toInt + 2147483648).toNat < n → lv_has ls 7 [(0, .ref mm), (1, .long v0), (4, .long j8_l4), (6, .int j8_l6)] → va_P D vwCl [(mm, .inr (16, fs_mm)), (ustk, .inl (ct 1, 64, .inl g_ustk))] H → va_D A [(mm, .inr (16, fs_mm)), (ustk, .inl (ct 1, 64, .inl g_ustk))] → va_S A s.heap H locs → W p l e ({ frames := 1, cells := 0, slots := 0, locals := 20 }) s m [.ref mm, .long v0, .int v1].toArray below meth c H locs 0 0 Q (F0 m 8 ls []) := by
    intro n
    induction n with
    | zero => intros; rename_i hms _ _ _ _; exact absurd hms (Nat.not_lt_zero _)
    | succ n ih =>
      intro j8_l4 j8_l6 H locs ls r8_1001 hi8_1002 hms hl hP hD hS
      refine lv_iload hx hb dX16_load__8 (lv_at hl 3 rfl) ?_
      refine lv_if_lt (tgt := 42) hx hb dX16_load__10 (by decide) (fun c10_1 => ?_) (fun c10_1 => ?_)
      · have t10_2 := FF.mk (i_lt c10_1)
        have r10_3 : rg j8_l6 (-1) (-1) := rg_ltA t10_2 r8_1001 (show rg (0 : Int32) 0 0 from rg_l (by decide)) (by decide)
        refine lv_lload hx hb dX16_load__42 (lv_at hl 2 rfl) ?_
        exact endq_l hQ hx hb hr hlocks dX16_load__44 () trivial hP hD hS [0, 1] rfl (by decide) rfl (Nat.le_of_ble_eq_true rfl) (Nat.le_of_ble_eq_true rfl)
      · have t10_2 := FF.mk (i_nlt c10_1)
        have r10_3 : rg j8_l6 0 7 := rg_leB t10_2 (show rg (0 : Int32) 0 0 from rg_l (by decide)) r8_1001 (by decide)
        refine lv_lload hx hb dX16_load__13 (lv_at hl 2 rfl) ?_
        refine lv_bipush (v := 8) hx hb dX16_load__15 (by decide) ?_
        refine lv_lshl hx hb dX16_load__17 rfl ?_
        refine lv_topl (fun z17_1 ez17_1 => ?_)
        refine lv_aload_n hx hb dX16_load__18 rfl (lv_at hl 0 rfl) ?_
        refine va_get (D := D) (ci := 16) (v := .ref ustk) (C := RX16) (T := TX16) (N := 78) hx hb (htX16 hn) (fun _ h => h) hown hK hP 0 rfl rfl 34 (by decide) (hn.get mw_1573 rfl) (fun _ h9 => h9) hf_mm_34 dX16_load__19 ?_
        refine lv_lload_n hx hb dX16_load__22 rfl (lv_at hl 1 rfl) ?_
        refine lv_ldc2 (v := 131072) hx hb hown (hn.get mw_2385 rfl) dX16_load__23 ?_
        refine lv_lsub hx hb dX16_load__26 ?_
        refine lv_topl (fun z26_1 ez26_1 => ?_)
        have r26_2 : rl z26_1 0 64 := rgL_sub ez26_1 h_v0 (show rl (131072 : Int64) 131072 131072 from rl_l (by decide)) (by decide)
        refine lv_l2i hx hb dX16_load__27 rfl ?_
        refine lv_topi (fun z27_1 ez27_1 => ?_)
        have r27_2 : rg z27_1 0 64 := rg_l2i ez27_1 r26_2 (by decide)
        refine lv_iload hx hb dX16_load__28 (lv_at hl 3 rfl) ?_
        refine lv_iadd hx hb dX16_load__30 ?_
        refine lv_topi (fun z30_1 ez30_1 => ?_)
        have r30_2 : rg z30_1 0 71 := rg_add ez30_1 r27_2 r10_3 (by decide)
        have hi31_1 : vp_in z30_1 64 := (in_of (show 0 ≤ z30_1.toInt ∧ z30_1.toInt < 64 by have q0 := r30_2.1; have q1 := (eq_add ez30_1 r27_2 r10_3 (by decide)); have q2 := (eq_l2i ez27_1 r26_2 (by decide)); have q3 := (eqL_sub ez26_1 h_v0 (show rl (131072 : Int64) 131072 131072 from rl_l (by decide)) (by decide)); have q4 := FF.out hq0; have q5 := FF.out hi8_1002; have q6 := (show (131072 : Int64).toInt = 131072 from by decide); omega))
        refine va_iald hx hb hK hP 1 1 rfl rfl hi31_1 dX16_load__31 ?_
        refine lv_topi (fun z31_2 ez31_2 => ?_)
        have r31_3 : rg z31_2 0 255 := Rg_at h_g_ustk hi31_1 ez31_2
        refine lv_i2l hx hb dX16_load__32 rfl ?_
        refine lv_topl (fun z32_1 ez32_1 => ?_)
        have r32_2 : rl z32_1 0 255 := rl_i2l ez32_1 r31_3
        refine lv_lor hx hb dX16_load__33 ?_
        refine lv_topl (fun z33_1 ez33_1 => ?_)
        refine lv_lstore (lv' := [(4, .long z33_1), (0, .ref mm), (1, .long v0), (6, .int j8_l6)]) hx hb dX16_load__34 hl (by decide) rfl (fun ls hl => ?_)
        obtain ⟨x36_1, ex36_1⟩ : ∃ z : Int32, z = j8_l6 + (-1) := ⟨_, rfl⟩
        have r36_2 : rg x36_1 (-1) 6 := rg_add ex36_1 r10_3 (show rg ((-1) : Int32) (-1) (-1) from rg_l (by decide)) (by decide)
        refine lv_iinc (v := x36_1) (lv' := [(6, .int x36_1), (4, .long z33_1), (0, .ref mm), (1, .long v0)]) hx hb dX16_load__36 hl (k := 3) rfl (by rw [ex36_1]; rfl) (by decide) rfl (fun ls hl => ?_)
        refine lv_goto (tgt := 8) hx hb dX16_load__39 (by decide) ?_
        exact ih z33_1 x36_1 H locs ls (rg_w r36_2 (by decide)) (show x36_1.toInt ≤ v1.toInt - 1 by have q0 := (eq_add ex36_1 r10_3 (show rg ((-1) : Int32) (-1) (-1) from rg_l (by decide)) (by decide)); have q1 := FF.out hi8_1002; have q2 := (show (-1 : Int32).toInt = -1 from by decide); omega) (show (x36_1.toInt + 2147483648).toNat < n by have q0 := r10_3.1; have q1 := (eq_add ex36_1 r10_3 (show rg ((-1) : Int32) (-1) (-1) from rg_l (by decide)) (by decide)); have q2 := (show (-1 : Int32).toInt = -1 from by decide); have q3 := hms; omega) (lv_sub hl [2, 3, 1, 0] rfl) hP hD hS
  exact b8 _ (0 : Int64) z5_1 H locs ls r5_2 (show z5_1.toInt ≤ v1.toInt - 1 by have q0 := (eq_sub ez5_1 h_v1 (show rg (1 : Int32) 1 1 from rg_l (by decide)) (by decide)); have q1 := (show (1 : Int32).toInt = 1 from by decide); omega) (Nat.lt_succ_self _) (lv_sub hl [2, 3, 1, 0] rfl) hP hD hS
set_option maxHeartbeats 2000000 in
theorem c_X16_store (l : Launch) (D : va_G) (ct : Nat → ClassId) (mm : Nat) (v0 : Int64) (v1 : Int32) (v2 : Int64) (fs_mm : List Value) (ustk : Nat) (g_ustk : Nat → Int32) (h_v0 : rl v0 131072 131136) (h_v1 : rg v1 0 8) (hlen_mm : fs_mm.length = 78) (hf_mm_34 : fs_mm[34]? = some (.ref ustk)) (h_g_ustk : Rg g_ustk 64 0 255) (hq0 : v0.toInt ≤ 131136 - v1.toInt) : KV (S := (Nat → Int32)) l yX16_store cX16_store 7 none 1 20 D ct [.ref mm, .long v0, .int v1, .long v2] [(mm, .inr (16, fs_mm)), (ustk, .inl (ct 1, 64, .inl g_ustk))] 0 0 (fun (k_ustk : (Nat → Int32)) => Rg k_ustk 64 0 255) (fun (k_ustk : (Nat → Int32)) => [(mm, .inr (16, fs_mm)), (ustk, .inl (ct 1, 64, .inl k_ustk))]) := by
  refine KVq_of (by decide) (Nat.le_of_ble_eq_true rfl) (fun p e s m below meth c A Q C0 hA H locs hS hP hD hQ ls hl => ?_)
  obtain ⟨hx, hb, hr, hown, hin, hml, hlocks, hn, hK, hZ, hSK⟩ := C0
  have hl : lv_has ls 7 [(0, .ref mm), (1, .long v0), (3, .int v1), (4, .long v2)] := hl
  replace hq0 := FF.mk hq0
  refine lv_iconst (v := 0) hx hb dX16_store_0 (by decide) ?_
  refine lv_istore (lv' := [(6, .int 0), (0, .ref mm), (1, .long v0), (3, .int v1), (4, .long v2)]) hx hb dX16_store_1 hl (by decide) rfl (fun ls hl => ?_)
  have b3 : ∀ (n : Nat) (j3_l6 : Int32) (j3_custk : Nat → Int32) (H : Heap) (locs : List Loc) (ls : Array Slot), (rg j3_l6 0 8) → (Rg j3_custk 64 0 255) → ((2147483647 : Int) - j3_l6.toInt).toNat < n → lv_has ls 7 [(0, .ref mm), (1, .long v0), (3, .int v1), (4, .long v2), (6, .int j3_l6)] → va_P D vwCl [(mm, .inr (16, fs_mm)), (ustk, .inl (ct 1, 64, .inl j3_custk))] H → va_D A [(mm, .inr (16, fs_mm)), (ustk, .inl (ct 1, 64, .inl j3_custk))] → va_S A s.heap H locs → W p l e ({ frames := 1, cells := 0, slots := 0, locals := 20 }) s m [.ref mm, .long v0, .int v1, .long v2].toArray below meth c H locs 0 0 Q (F0 m 3 ls []) := by
    intro n
    induction n with
    | zero => intros; rename_i hms _ _ _ _; exact absurd hms (Nat.not_lt_zero _)
    | succ n ih =>
      intro j3_l6 j3_custk H locs ls r3_1001 hc3_1002 hms hl hP hD hS
      refine lv_iload hx hb dX16_store_3 (lv_at hl 4 rfl) ?_
      refine lv_iload_n hx hb dX16_store_5 rfl (lv_at hl 2 rfl) ?_
      refine lv_icmp_ge (tgt := 42) hx hb dX16_store_6 (by decide) (fun c6_1 => ?_) (fun c6_1 => ?_)
      · have t6_2 := FF.mk (i_le c6_1)
        exact endq_v hQ hx hb hr hlocks dX16_store_42 j3_custk hc3_1002 hP hD hS [0, 1] rfl (by decide) rfl (Nat.le_of_ble_eq_true rfl) (Nat.le_of_ble_eq_true rfl)
      · have t6_2 := FF.mk (i_nle c6_1)
        have r6_3 : rg j3_l6 0 7 := rg_ltA t6_2 r3_1001 h_v1 (by decide)
        have r6_4 : rg v1 1 8 := rg_ltB t6_2 r3_1001 h_v1 (by decide)
        refine lv_aload_n hx hb dX16_store_9 rfl (lv_at hl 0 rfl) ?_
        refine va_get (D := D) (ci := 16) (v := .ref ustk) (C := RX16) (T := TX16) (N := 78) hx hb (htX16 hn) (fun _ h => h) hown hK hP 0 rfl rfl 34 (by decide) (hn.get mw_1573 rfl) (fun _ h9 => h9) hf_mm_34 dX16_store_10 ?_
        refine lv_lload_n hx hb dX16_store_13 rfl (lv_at hl 1 rfl) ?_
        refine lv_ldc2 (v := 131072) hx hb hown (hn.get mw_2385 rfl) dX16_store_14 ?_
        refine lv_lsub hx hb dX16_store_17 ?_
        refine lv_topl (fun z17_1 ez17_1 => ?_)
        have r17_2 : rl z17_1 0 64 := rgL_sub ez17_1 h_v0 (show rl (131072 : Int64) 131072 131072 from rl_l (by decide)) (by decide)
        refine lv_l2i hx hb dX16_store_18 rfl ?_
        refine lv_topi (fun z18_1 ez18_1 => ?_)
        have r18_2 : rg z18_1 0 64 := rg_l2i ez18_1 r17_2 (by decide)
        refine lv_iload hx hb dX16_store_19 (lv_at hl 4 rfl) ?_
        refine lv_iadd hx hb dX16_store_21 ?_
        refine lv_topi (fun z21_1 ez21_1 => ?_)
        have r21_2 : rg z21_1 0 71 := rg_add ez21_1 r18_2 r6_3 (by decide)
        refine lv_lload hx hb dX16_store_22 (lv_at hl 3 rfl) ?_
        refine lv_bipush (v := 8) hx hb dX16_store_24 (by decide) ?_
        refine lv_iload hx hb dX16_store_26 (lv_at hl 4 rfl) ?_
        refine lv_imul hx hb dX16_store_28 ?_
        refine lv_topi (fun z28_1 ez28_1 => ?_)
        have r28_2 : rg z28_1 0 56 := rg_mul ez28_1 (show rg (8 : Int32) 8 8 from rg_l (by decide)) r6_3 (by decide)
        refine lv_lushr hx hb dX16_store_29 rfl ?_
        refine lv_topl (fun z29_1 ez29_1 => ?_)
        refine lv_ldc2 (v := 255) hx hb hown (hn.get mw_2157 rfl) dX16_store_30 ?_
        refine lv_land hx hb dX16_store_33 ?_
        refine lv_topl (fun z33_1 ez33_1 => ?_)
        have r33_2 : rl z33_1 0 255 := rgL_andr ez33_1 (show rl (255 : Int64) 255 255 from rl_l (by decide)) (by decide)
        refine lv_l2i hx hb dX16_store_34 rfl ?_
        refine lv_topi (fun z34_1 ez34_1 => ?_)
        have r34_2 : rg z34_1 0 255 := rg_l2i ez34_1 r33_2 (by decide)
        have hi35_1 : vp_in z21_1 64 := (in_of (show 0 ≤ z21_1.toInt ∧ z21_1.toInt < 64 by have q0 := r21_2.1; have q1 := (eq_add ez21_1 r18_2 r6_3 (by decide)); have q2 := (eq_l2i ez18_1 r17_2 (by decide)); have q3 := (eqL_sub ez17_1 h_v0 (show rl (131072 : Int64) 131072 131072 from rl_l (by decide)) (by decide)); have q4 := FF.out hq0; have q5 := FF.out t6_2; have q6 := (show (131072 : Int64).toInt = 131072 from by decide); omega))
        refine va_iast hx hb hK hP hD hS 1 1 rfl rfl hi35_1 dX16_store_35 (fun H locs hP hD hS => ?_)
        have hP : va_P D vwCl [(mm, .inr (16, fs_mm)), (ustk, .inl (ct 1, 64, .inl (upd j3_custk z21_1.toNatClampNeg z34_1)))] _ := hP
        have hD : va_D A [(mm, .inr (16, fs_mm)), (ustk, .inl (ct 1, 64, .inl (upd j3_custk z21_1.toNatClampNeg z34_1)))] := hD
        obtain ⟨f35_2, ef35_2⟩ : ∃ z, z = (upd j3_custk z21_1.toNatClampNeg z34_1) := ⟨_, rfl⟩
        rw [← ef35_2] at hP hD
        have hc35_3 : Rg f35_2 64 0 255 := Rg_upd ef35_2 hc3_1002 r34_2
        obtain ⟨x36_1, ex36_1⟩ : ∃ z : Int32, z = j3_l6 + 1 := ⟨_, rfl⟩
        have r36_2 : rg x36_1 1 8 := rg_add ex36_1 r6_3 (show rg (1 : Int32) 1 1 from rg_l (by decide)) (by decide)
        refine lv_iinc (v := x36_1) (lv' := [(6, .int x36_1), (0, .ref mm), (1, .long v0), (3, .int v1), (4, .long v2)]) hx hb dX16_store_36 hl (k := 4) rfl (by rw [ex36_1]; rfl) (by decide) rfl (fun ls hl => ?_)
        refine lv_goto (tgt := 3) hx hb dX16_store_39 (by decide) ?_
        exact ih x36_1 f35_2 H locs ls (rg_w r36_2 (by decide)) hc35_3 (show ((2147483647 : Int) - x36_1.toInt).toNat < n by have q0 := r6_3.2; have q1 := (eq_add ex36_1 r6_3 (show rg (1 : Int32) 1 1 from rg_l (by decide)) (by decide)); have q2 := (show (1 : Int32).toInt = 1 from by decide); have q3 := hms; omega) (lv_sub hl [1, 2, 3, 4, 0] rfl) hP hD hS
  exact b3 _ (0 : Int32) g_ustk H locs ls (rg_w (show rg (0 : Int32) 0 0 from rg_l (by decide)) (by decide)) h_g_ustk (Nat.lt_succ_self _) (lv_sub hl [1, 2, 3, 4, 0] rfl) hP hD hS
set_option maxHeartbeats 2000000 in
theorem c_X16_begins (l : Launch) (D : va_G) (ct : Nat → ClassId) (mm : Nat) (fs_mm : List Value) (ureg : Nat) (ustk : Nat) (g_ureg : Nat → Int64) (g_ustk : Nat → Int32) (hlen_mm : fs_mm.length = 78) (hf_mm_33 : fs_mm[33]? = some (.ref ureg)) (hf_mm_34 : fs_mm[34]? = some (.ref ustk)) (h_g_ustk : Rg g_ustk 64 0 255) : KV (S := List Value × (Nat → Int64) × (Nat → Int32)) l yX16_begins cX16_begins 2 none 1 20 D ct [.ref mm] [(mm, .inr (16, fs_mm)), (ureg, .inl (ct 2, 32, .inr (.inl g_ureg))), (ustk, .inl (ct 1, 64, .inl g_ustk))] 0 0 (fun (u : List Value × (Nat → Int64) × (Nat → Int32)) => match u with | (fs2_mm, k_ureg, k_ustk) => SB fs_mm fs2_mm [35, 36, 37] ∧ fs2_mm[35]? = some (.int 0) ∧ fs2_mm[36]? = some (.int 0) ∧ fs2_mm[37]? = some (.int 0) ∧ Rg k_ustk 64 0 255) (fun (u : List Value × (Nat → Int64) × (Nat → Int32)) => match u with | (fs2_mm, k_ureg, k_ustk) => [(mm, .inr (16, fs2_mm)), (ureg, .inl (ct 2, 32, .inr (.inl k_ureg))), (ustk, .inl (ct 1, 64, .inl k_ustk))]) := by
  refine KVq_of (by decide) (Nat.le_of_ble_eq_true rfl) (fun p e s m below meth c A Q C0 hA H locs hS hP hD hQ ls hl => ?_)
  obtain ⟨hx, hb, hr, hown, hin, hml, hlocks, hn, hK, hZ, hSK⟩ := C0
  have hl : lv_has ls 2 [(0, .ref mm)] := hl
  refine lv_iconst (v := 0) hx hb dX16_begins_0 (by decide) ?_
  refine lv_istore_n (lv' := [(1, .int 0), (0, .ref mm)]) hx hb dX16_begins_1 rfl hl (by decide) rfl (fun ls hl => ?_)
  have b2 : ∀ (n : Nat) (j2_l1 : Int32) (j2_cureg : Nat → Int64) (H : Heap) (locs : List Loc) (ls : Array Slot), (rg j2_l1 0 32) → ((2147483647 : Int) - j2_l1.toInt).toNat < n → lv_has ls 2 [(0, .ref mm), (1, .int j2_l1)] → va_P D vwCl [(mm, .inr (16, fs_mm)), (ureg, .inl (ct 2, 32, .inr (.inl j2_cureg))), (ustk, .inl (ct 1, 64, .inl g_ustk))] H → va_D A [(mm, .inr (16, fs_mm)), (ureg, .inl (ct 2, 32, .inr (.inl j2_cureg))), (ustk, .inl (ct 1, 64, .inl g_ustk))] → va_S A s.heap H locs → W p l e ({ frames := 1, cells := 0, slots := 0, locals := 20 }) s m [.ref mm].toArray below meth c H locs 0 0 Q (F0 m 2 ls []) := by
    intro n
    induction n with
    | zero => intros; rename_i hms _ _ _ _; exact absurd hms (Nat.not_lt_zero _)
    | succ n ih =>
      intro j2_l1 j2_cureg H locs ls r2_1001 hms hl hP hD hS
      refine lv_iload_n hx hb dX16_begins_2 rfl (lv_at hl 1 rfl) ?_
      refine lv_bipush (v := 32) hx hb dX16_begins_3 (by decide) ?_
      refine lv_icmp_ge (tgt := 21) hx hb dX16_begins_5 (by decide) (fun c5_1 => ?_) (fun c5_1 => ?_)
      · have t5_2 := FF.mk (i_le c5_1)
        have r5_3 : rg j2_l1 32 32 := rg_leB t5_2 (show rg (32 : Int32) 32 32 from rg_l (by decide)) r2_1001 (by decide)
        refine lv_iconst (v := 0) hx hb dX16_begins_21 (by decide) ?_
        refine lv_istore_n (lv' := [(1, .int 0), (0, .ref mm)]) hx hb dX16_begins_22 rfl hl (by decide) rfl (fun ls hl => ?_)
        have b23 : ∀ (n : Nat) (j23_l1 : Int32) (j23_custk : Nat → Int32) (H : Heap) (locs : List Loc) (ls : Array Slot), (rg j23_l1 0 64) → (Rg j23_custk 64 0 255) → ((2147483647 : Int) - j23_l1.toInt).toNat < n → lv_has ls 2 [(0, .ref mm), (1, .int j23_l1)] → va_P D vwCl [(mm, .inr (16, fs_mm)), (ureg, .inl (ct 2, 32, .inr (.inl j2_cureg))), (ustk, .inl (ct 1, 64, .inl j23_custk))] H → va_D A [(mm, .inr (16, fs_mm)), (ureg, .inl (ct 2, 32, .inr (.inl j2_cureg))), (ustk, .inl (ct 1, 64, .inl j23_custk))] → va_S A s.heap H locs → W p l e ({ frames := 1, cells := 0, slots := 0, locals := 20 }) s m [.ref mm].toArray below meth c H locs 0 0 Q (F0 m 23 ls []) := by
          intro n
          induction n with
          | zero => intros; rename_i hms _ _ _ _; exact absurd hms (Nat.not_lt_zero _)
          | succ n ih =>
            intro j23_l1 j23_custk H locs ls r23_1001 hc23_1002 hms hl hP hD hS
            refine lv_iload_n hx hb dX16_begins_23 rfl (lv_at hl 1 rfl) ?_
            refine lv_bipush (v := 64) hx hb dX16_begins_24 (by decide) ?_
            refine lv_icmp_ge (tgt := 42) hx hb dX16_begins_26 (by decide) (fun c26_1 => ?_) (fun c26_1 => ?_)
            · have t26_2 := FF.mk (i_le c26_1)
              have r26_3 : rg j23_l1 64 64 := rg_leB t26_2 (show rg (64 : Int32) 64 64 from rg_l (by decide)) r23_1001 (by decide)
              refine lv_aload_n hx hb dX16_begins_42 rfl (lv_at hl 0 rfl) ?_
              refine lv_iconst (v := 0) hx hb dX16_begins_43 (by decide) ?_
              refine va_put (D := D) (ci := 16) (v := .int 0) (ty := .int) (C := RX16) (T := TX16) (N := 78) hx hb (htX16 hn) (fun _ h => h) tyX16 tyX16_ok nmX16 hown hK hP hD hS 0 rfl rfl 35 (by decide) (hn.get mw_1574 rfl) (fun _ h9 => h9) rfl (by decide +kernel) rfl rfl (by rw [hlen_mm]; decide) dX16_begins_44 (fun H locs hP hD hS => ?_)
              have hP : va_P D vwCl [(mm, .inr (16, (fs_mm.set 35 (.int 0)))), (ureg, .inl (ct 2, 32, .inr (.inl j2_cureg))), (ustk, .inl (ct 1, 64, .inl j23_custk))] _ := hP
              have hD : va_D A [(mm, .inr (16, (fs_mm.set 35 (.int 0)))), (ureg, .inl (ct 2, 32, .inr (.inl j2_cureg))), (ustk, .inl (ct 1, 64, .inl j23_custk))] := hD
              obtain ⟨m44_1, em44_1⟩ : ∃ z, z = (fs_mm.set 35 (.int 0)) := ⟨_, rfl⟩
              rw [← em44_1] at hP hD
              have hsm44_1 : SB fs_mm m44_1 [35, 36, 37] := by rw [em44_1]; exact SB.set (SB.rf _ _) (by decide)
              have hfm44_1_35 : m44_1[35]? = some (.int 0) := by rw [em44_1]; exact fs_eq (by rw [hlen_mm]; decide)
              have hP : va_P D vwCl [(mm, .inr (16, m44_1)), (ureg, .inl (ct 2, 32, .inr (.inl j2_cureg))), (ustk, .inl (ct 1, 64, .inl j23_custk))] _ := hP
              have hD : va_D A [(mm, .inr (16, m44_1)), (ureg, .inl (ct 2, 32, .inr (.inl j2_cureg))), (ustk, .inl (ct 1, 64, .inl j23_custk))] := hD
              refine lv_aload_n hx hb dX16_begins_47 rfl (lv_at hl 0 rfl) ?_
              refine lv_iconst (v := 0) hx hb dX16_begins_48 (by decide) ?_
              refine va_put (D := D) (ci := 16) (v := .int 0) (ty := .int) (C := RX16) (T := TX16) (N := 78) hx hb (htX16 hn) (fun _ h => h) tyX16 tyX16_ok nmX16 hown hK hP hD hS 0 rfl rfl 36 (by decide) (hn.get mw_1575 rfl) (fun _ h9 => h9) rfl (by decide +kernel) rfl rfl (by rw [hsm44_1.1, hlen_mm]; decide) dX16_begins_49 (fun H locs hP hD hS => ?_)
              have hP : va_P D vwCl [(mm, .inr (16, (m44_1.set 36 (.int 0)))), (ureg, .inl (ct 2, 32, .inr (.inl j2_cureg))), (ustk, .inl (ct 1, 64, .inl j23_custk))] _ := hP
              have hD : va_D A [(mm, .inr (16, (m44_1.set 36 (.int 0)))), (ureg, .inl (ct 2, 32, .inr (.inl j2_cureg))), (ustk, .inl (ct 1, 64, .inl j23_custk))] := hD
              obtain ⟨m49_1, em49_1⟩ : ∃ z, z = (m44_1.set 36 (.int 0)) := ⟨_, rfl⟩
              rw [← em49_1] at hP hD
              have hsm49_1 : SB fs_mm m49_1 [35, 36, 37] := by rw [em49_1]; exact SB.set hsm44_1 (by decide)
              have hfm49_1_35 : m49_1[35]? = some (.int 0) := by rw [em49_1]; exact fs_ne (by decide) hfm44_1_35
              have hfm49_1_36 : m49_1[36]? = some (.int 0) := by rw [em49_1]; exact fs_eq (by rw [hsm44_1.1, hlen_mm]; decide)
              have hP : va_P D vwCl [(mm, .inr (16, m49_1)), (ureg, .inl (ct 2, 32, .inr (.inl j2_cureg))), (ustk, .inl (ct 1, 64, .inl j23_custk))] _ := hP
              have hD : va_D A [(mm, .inr (16, m49_1)), (ureg, .inl (ct 2, 32, .inr (.inl j2_cureg))), (ustk, .inl (ct 1, 64, .inl j23_custk))] := hD
              refine lv_aload_n hx hb dX16_begins_52 rfl (lv_at hl 0 rfl) ?_
              refine lv_iconst (v := 0) hx hb dX16_begins_53 (by decide) ?_
              refine va_put (D := D) (ci := 16) (v := .int 0) (ty := .int) (C := RX16) (T := TX16) (N := 78) hx hb (htX16 hn) (fun _ h => h) tyX16 tyX16_ok nmX16 hown hK hP hD hS 0 rfl rfl 37 (by decide) (hn.get mw_1576 rfl) (fun _ h9 => h9) rfl (by decide +kernel) rfl rfl (by rw [hsm49_1.1, hlen_mm]; decide) dX16_begins_54 (fun H locs hP hD hS => ?_)
              have hP : va_P D vwCl [(mm, .inr (16, (m49_1.set 37 (.int 0)))), (ureg, .inl (ct 2, 32, .inr (.inl j2_cureg))), (ustk, .inl (ct 1, 64, .inl j23_custk))] _ := hP
              have hD : va_D A [(mm, .inr (16, (m49_1.set 37 (.int 0)))), (ureg, .inl (ct 2, 32, .inr (.inl j2_cureg))), (ustk, .inl (ct 1, 64, .inl j23_custk))] := hD
              obtain ⟨m54_1, em54_1⟩ : ∃ z, z = (m49_1.set 37 (.int 0)) := ⟨_, rfl⟩
              rw [← em54_1] at hP hD
              have hsm54_1 : SB fs_mm m54_1 [35, 36, 37] := by rw [em54_1]; exact SB.set hsm49_1 (by decide)
              have hfm54_1_35 : m54_1[35]? = some (.int 0) := by rw [em54_1]; exact fs_ne (by decide) hfm49_1_35
              have hfm54_1_36 : m54_1[36]? = some (.int 0) := by rw [em54_1]; exact fs_ne (by decide) hfm49_1_36
              have hfm54_1_37 : m54_1[37]? = some (.int 0) := by rw [em54_1]; exact fs_eq (by rw [hsm49_1.1, hlen_mm]; decide)
              have hP : va_P D vwCl [(mm, .inr (16, m54_1)), (ureg, .inl (ct 2, 32, .inr (.inl j2_cureg))), (ustk, .inl (ct 1, 64, .inl j23_custk))] _ := hP
              have hD : va_D A [(mm, .inr (16, m54_1)), (ureg, .inl (ct 2, 32, .inr (.inl j2_cureg))), (ustk, .inl (ct 1, 64, .inl j23_custk))] := hD
              exact endq_v hQ hx hb hr hlocks dX16_begins_57 (m54_1, j2_cureg, j23_custk) ⟨hsm54_1, hfm54_1_35, hfm54_1_36, hfm54_1_37, hc23_1002⟩ hP hD hS [0, 1, 2] rfl (by decide) rfl (Nat.le_of_ble_eq_true rfl) (Nat.le_of_ble_eq_true rfl)
            · have t26_2 := FF.mk (i_nle c26_1)
              have r26_3 : rg j23_l1 0 63 := rg_ltA t26_2 r23_1001 (show rg (64 : Int32) 64 64 from rg_l (by decide)) (by decide)
              refine lv_aload_n hx hb dX16_begins_29 rfl (lv_at hl 0 rfl) ?_
              refine va_get (D := D) (ci := 16) (v := .ref ustk) (C := RX16) (T := TX16) (N := 78) hx hb (htX16 hn) (fun _ h => h) hown hK hP 0 rfl rfl 34 (by decide) (hn.get mw_1573 rfl) (fun _ h9 => h9) hf_mm_34 dX16_begins_30 ?_
              refine lv_iload_n hx hb dX16_begins_33 rfl (lv_at hl 1 rfl) ?_
              refine lv_iconst (v := 0) hx hb dX16_begins_34 (by decide) ?_
              have hi35_1 : vp_in j23_l1 64 := (in_rg r26_3 (by decide))
              refine va_iast hx hb hK hP hD hS 2 1 rfl rfl hi35_1 dX16_begins_35 (fun H locs hP hD hS => ?_)
              have hP : va_P D vwCl [(mm, .inr (16, fs_mm)), (ureg, .inl (ct 2, 32, .inr (.inl j2_cureg))), (ustk, .inl (ct 1, 64, .inl (upd j23_custk j23_l1.toNatClampNeg 0)))] _ := hP
              have hD : va_D A [(mm, .inr (16, fs_mm)), (ureg, .inl (ct 2, 32, .inr (.inl j2_cureg))), (ustk, .inl (ct 1, 64, .inl (upd j23_custk j23_l1.toNatClampNeg 0)))] := hD
              obtain ⟨f35_2, ef35_2⟩ : ∃ z, z = (upd j23_custk j23_l1.toNatClampNeg 0) := ⟨_, rfl⟩
              rw [← ef35_2] at hP hD
              have hc35_3 : Rg f35_2 64 0 255 := Rg_upd ef35_2 hc23_1002 (rg_w (show rg (0 : Int32) 0 0 from rg_l (by decide)) (by decide))
              obtain ⟨x36_1, ex36_1⟩ : ∃ z : Int32, z = j23_l1 + 1 := ⟨_, rfl⟩
              have r36_2 : rg x36_1 1 64 := rg_add ex36_1 r26_3 (show rg (1 : Int32) 1 1 from rg_l (by decide)) (by decide)
              refine lv_iinc (v := x36_1) (lv' := [(1, .int x36_1), (0, .ref mm)]) hx hb dX16_begins_36 hl (k := 1) rfl (by rw [ex36_1]; rfl) (by decide) rfl (fun ls hl => ?_)
              refine lv_goto (tgt := 23) hx hb dX16_begins_39 (by decide) ?_
              exact ih x36_1 f35_2 H locs ls (rg_w r36_2 (by decide)) hc35_3 (show ((2147483647 : Int) - x36_1.toInt).toNat < n by have q0 := r26_3.2; have q1 := (eq_add ex36_1 r26_3 (show rg (1 : Int32) 1 1 from rg_l (by decide)) (by decide)); have q2 := (show (1 : Int32).toInt = 1 from by decide); have q3 := hms; omega) (lv_sub hl [1, 0] rfl) hP hD hS
        exact b23 _ (0 : Int32) g_ustk H locs ls (rg_w (show rg (0 : Int32) 0 0 from rg_l (by decide)) (by decide)) h_g_ustk (Nat.lt_succ_self _) (lv_sub hl [1, 0] rfl) hP hD hS
      · have t5_2 := FF.mk (i_nle c5_1)
        have r5_3 : rg j2_l1 0 31 := rg_ltA t5_2 r2_1001 (show rg (32 : Int32) 32 32 from rg_l (by decide)) (by decide)
        refine lv_aload_n hx hb dX16_begins_8 rfl (lv_at hl 0 rfl) ?_
        refine va_get (D := D) (ci := 16) (v := .ref ureg) (C := RX16) (T := TX16) (N := 78) hx hb (htX16 hn) (fun _ h => h) hown hK hP 0 rfl rfl 33 (by decide) (hn.get mw_1572 rfl) (fun _ h9 => h9) hf_mm_33 dX16_begins_9 ?_
        refine lv_iload_n hx hb dX16_begins_12 rfl (lv_at hl 1 rfl) ?_
        refine lv_lconst (v := 0) hx hb dX16_begins_13 (by decide) ?_
        have hi14_1 : vp_in j2_l1 32 := (in_rg r5_3 (by decide))
        refine va_last hx hb hK hP hD hS 1 2 rfl rfl hi14_1 dX16_begins_14 (fun H locs hP hD hS => ?_)
        have hP : va_P D vwCl [(mm, .inr (16, fs_mm)), (ureg, .inl (ct 2, 32, .inr (.inl (vp_updL j2_cureg j2_l1.toNatClampNeg 0)))), (ustk, .inl (ct 1, 64, .inl g_ustk))] _ := hP
        have hD : va_D A [(mm, .inr (16, fs_mm)), (ureg, .inl (ct 2, 32, .inr (.inl (vp_updL j2_cureg j2_l1.toNatClampNeg 0)))), (ustk, .inl (ct 1, 64, .inl g_ustk))] := hD
        obtain ⟨f14_2, ef14_2⟩ : ∃ z, z = (vp_updL j2_cureg j2_l1.toNatClampNeg 0) := ⟨_, rfl⟩
        rw [← ef14_2] at hP hD
        obtain ⟨x15_1, ex15_1⟩ : ∃ z : Int32, z = j2_l1 + 1 := ⟨_, rfl⟩
        have r15_2 : rg x15_1 1 32 := rg_add ex15_1 r5_3 (show rg (1 : Int32) 1 1 from rg_l (by decide)) (by decide)
        refine lv_iinc (v := x15_1) (lv' := [(1, .int x15_1), (0, .ref mm)]) hx hb dX16_begins_15 hl (k := 1) rfl (by rw [ex15_1]; rfl) (by decide) rfl (fun ls hl => ?_)
        refine lv_goto (tgt := 2) hx hb dX16_begins_18 (by decide) ?_
        exact ih x15_1 f14_2 H locs ls (rg_w r15_2 (by decide)) (show ((2147483647 : Int) - x15_1.toInt).toNat < n by have q0 := r5_3.2; have q1 := (eq_add ex15_1 r5_3 (show rg (1 : Int32) 1 1 from rg_l (by decide)) (by decide)); have q2 := (show (1 : Int32).toInt = 1 from by decide); have q3 := hms; omega) (lv_sub hl [1, 0] rfl) hP hD hS
  exact b2 _ (0 : Int32) g_ureg H locs ls (rg_w (show rg (0 : Int32) 0 0 from rg_l (by decide)) (by decide)) (Nat.lt_succ_self _) (lv_sub hl [1, 0] rfl) hP hD hS
set_option maxHeartbeats 2000000 in
theorem c_X16_does (l : Launch) (D : va_G) (ct : Nat → ClassId) (mm : Nat) (v0 : Int64) (v1 : Int32) (fs_mm : List Value) (upb : Nat) (upl_ : Nat) (ureg : Nat) (ustk : Nat) (g_ureg : Nat → Int64) (g_ustk : Nat → Int32) (g_upl_ : Nat → Int32) (g_upb : Nat → Int32) (h_v1 : rg v1 0 15) (hlen_mm : fs_mm.length = 78) (hf_mm_2 : fs_mm[2]? = some (.ref upb)) (hf_mm_3 : fs_mm[3]? = some (.ref upl_)) (hf_mm_33 : fs_mm[33]? = some (.ref ureg)) (hf_mm_34 : fs_mm[34]? = some (.ref ustk)) (h_g_ustk : Rg g_ustk 64 0 255) (h_g_upl_ : Rg g_upl_ 16 0 256) (h_g_upb : Rg g_upb 4096 0 255) : KI (S := (Nat → Int64) × (Nat → Int32)) l yX16_does cX16_does 13 (some .int) 4 97 D ct [.ref mm, .long v0, .int v1] [(mm, .inr (16, fs_mm)), (ureg, .inl (ct 2, 32, .inr (.inl g_ureg))), (ustk, .inl (ct 1, 64, .inl g_ustk)), (upl_, .inl (ct 1, 16, .inl g_upl_)), (upb, .inl (ct 1, 4096, .inl g_upb))] 0 0 (fun (r : Int32) (u : (Nat → Int64) × (Nat → Int32)) => match u with | (k_ureg, k_ustk) => rg r 0 3 ∧ Rg k_ustk 64 0 255) (fun (u : (Nat → Int64) × (Nat → Int32)) => match u with | (k_ureg, k_ustk) => [(mm, .inr (16, fs_mm)), (ureg, .inl (ct 2, 32, .inr (.inl k_ureg))), (ustk, .inl (ct 1, 64, .inl k_ustk)), (upl_, .inl (ct 1, 16, .inl g_upl_)), (upb, .inl (ct 1, 4096, .inl g_upb))]) := by
  refine KIq_of (by decide) (Nat.le_of_ble_eq_true rfl) (fun p e s m below meth c A Q C0 hA H locs hS hP hD hQ ls hl => ?_)
  obtain ⟨hx, hb, hr, hown, hin, hml, hlocks, hn, hK, hZ, hSK⟩ := C0
  have hl : lv_has ls 13 [(0, .ref mm), (1, .long v0), (3, .int v1)] := hl
  refine lv_lload_n hx hb dX16_does_0 rfl (lv_at hl 1 rfl) ?_
  refine go_i (k1 := 0) (n1 := 0) (wr := [(mm, .inr (16, fs_mm)), (ureg, .inl (ct 2, 32, .inr (.inl g_ureg))), (ustk, .inl (ct 1, 64, .inl g_ustk)), (upl_, .inl (ct 1, 16, .inl g_upl_)), (upb, .inl (ct 1, 4096, .inl g_upb))]) [] [0, 1, 2, 3, 4] (rn_S (As := [.long v0]) (rest := []) (c_X16_codeOf l D ct v0  _) (cb_of (n := 1) hn mw_2322 mw_13 mw_2320 mhX16_codeOf ⟨(Nat.le_of_ble_eq_true rfl), (Nat.le_of_ble_eq_true rfl)⟩) hx hb hml hown hn hK hSK hZ hS mw_2321 rfl hl.1 (Nat.le_of_ble_eq_true rfl) dX16_does_1 ⟨(Nat.le_of_ble_eq_true rfl), (Nat.le_of_ble_eq_true rfl)⟩) hP hD hS hA rfl rfl (by decide) (by decide) (by decide) (Nat.le_of_ble_eq_true rfl) (Nat.le_of_ble_eq_true rfl) (fun r1_1 u1_2 H locs hp1_3 hP hD hS => ?_)
  obtain ⟨hp1_4, hp1_5⟩ := hp1_3
  have hp1_4 : rg r1_1 0 255 := hp1_4
  replace hp1_5 : FF (r1_1.toInt = v0.toInt % 256) := hp1_5
  have hP : va_P D vwCl [(mm, .inr (16, fs_mm)), (ureg, .inl (ct 2, 32, .inr (.inl g_ureg))), (ustk, .inl (ct 1, 64, .inl g_ustk)), (upl_, .inl (ct 1, 16, .inl g_upl_)), (upb, .inl (ct 1, 4096, .inl g_upb))] _ := hP
  have hD : va_D A [(mm, .inr (16, fs_mm)), (ureg, .inl (ct 2, 32, .inr (.inl g_ureg))), (ustk, .inl (ct 1, 64, .inl g_ustk)), (upl_, .inl (ct 1, 16, .inl g_upl_)), (upb, .inl (ct 1, 4096, .inl g_upb))] := hD
  refine lv_istore (lv' := [(4, .int r1_1), (0, .ref mm), (1, .long v0), (3, .int v1)]) hx hb dX16_does_4 hl (by decide) rfl (fun ls hl => ?_)
  refine lv_lload_n hx hb dX16_does_6 rfl (lv_at hl 2 rfl) ?_
  refine go_i (k1 := 0) (n1 := 0) (wr := [(mm, .inr (16, fs_mm)), (ureg, .inl (ct 2, 32, .inr (.inl g_ureg))), (ustk, .inl (ct 1, 64, .inl g_ustk)), (upl_, .inl (ct 1, 16, .inl g_upl_)), (upb, .inl (ct 1, 4096, .inl g_upb))]) [] [0, 1, 2, 3, 4] (rn_S (As := [.long v0]) (rest := []) (c_X16_dOf l D ct v0  _) (cb_of (n := 1) hn mw_2328 mw_13 mw_2326 mhX16_dOf ⟨(Nat.le_of_ble_eq_true rfl), (Nat.le_of_ble_eq_true rfl)⟩) hx hb hml hown hn hK hSK hZ hS mw_2327 rfl hl.1 (Nat.le_of_ble_eq_true rfl) dX16_does_7 ⟨(Nat.le_of_ble_eq_true rfl), (Nat.le_of_ble_eq_true rfl)⟩) hP hD hS hA rfl rfl (by decide) (by decide) (by decide) (Nat.le_of_ble_eq_true rfl) (Nat.le_of_ble_eq_true rfl) (fun r7_1 u7_2 H locs hp7_3 hP hD hS => ?_)
  obtain ⟨hp7_4, hp7_5⟩ := hp7_3
  have hp7_4 : rg r7_1 0 15 := hp7_4
  replace hp7_5 : FF (r7_1.toInt = (v0.toInt / 256) % 16) := hp7_5
  have hP : va_P D vwCl [(mm, .inr (16, fs_mm)), (ureg, .inl (ct 2, 32, .inr (.inl g_ureg))), (ustk, .inl (ct 1, 64, .inl g_ustk)), (upl_, .inl (ct 1, 16, .inl g_upl_)), (upb, .inl (ct 1, 4096, .inl g_upb))] _ := hP
  have hD : va_D A [(mm, .inr (16, fs_mm)), (ureg, .inl (ct 2, 32, .inr (.inl g_ureg))), (ustk, .inl (ct 1, 64, .inl g_ustk)), (upl_, .inl (ct 1, 16, .inl g_upl_)), (upb, .inl (ct 1, 4096, .inl g_upb))] := hD
  refine lv_istore (lv' := [(5, .int r7_1), (4, .int r1_1), (0, .ref mm), (1, .long v0), (3, .int v1)]) hx hb dX16_does_10 hl (by decide) rfl (fun ls hl => ?_)
  refine lv_lload_n hx hb dX16_does_12 rfl (lv_at hl 3 rfl) ?_
  refine go_i (k1 := 0) (n1 := 0) (wr := [(mm, .inr (16, fs_mm)), (ureg, .inl (ct 2, 32, .inr (.inl g_ureg))), (ustk, .inl (ct 1, 64, .inl g_ustk)), (upl_, .inl (ct 1, 16, .inl g_upl_)), (upb, .inl (ct 1, 4096, .inl g_upb))]) [] [0, 1, 2, 3, 4] (rn_S (As := [.long v0]) (rest := []) (c_X16_sOf l D ct v0  _) (cb_of (n := 1) hn mw_2331 mw_13 mw_2329 mhX16_sOf ⟨(Nat.le_of_ble_eq_true rfl), (Nat.le_of_ble_eq_true rfl)⟩) hx hb hml hown hn hK hSK hZ hS mw_2330 rfl hl.1 (Nat.le_of_ble_eq_true rfl) dX16_does_13 ⟨(Nat.le_of_ble_eq_true rfl), (Nat.le_of_ble_eq_true rfl)⟩) hP hD hS hA rfl rfl (by decide) (by decide) (by decide) (Nat.le_of_ble_eq_true rfl) (Nat.le_of_ble_eq_true rfl) (fun r13_1 u13_2 H locs hp13_3 hP hD hS => ?_)
  obtain ⟨hp13_4, hp13_5⟩ := hp13_3
  have hp13_4 : rg r13_1 0 15 := hp13_4
  replace hp13_5 : FF (r13_1.toInt = (v0.toInt / 4096) % 16) := hp13_5
  have hP : va_P D vwCl [(mm, .inr (16, fs_mm)), (ureg, .inl (ct 2, 32, .inr (.inl g_ureg))), (ustk, .inl (ct 1, 64, .inl g_ustk)), (upl_, .inl (ct 1, 16, .inl g_upl_)), (upb, .inl (ct 1, 4096, .inl g_upb))] _ := hP
  have hD : va_D A [(mm, .inr (16, fs_mm)), (ureg, .inl (ct 2, 32, .inr (.inl g_ureg))), (ustk, .inl (ct 1, 64, .inl g_ustk)), (upl_, .inl (ct 1, 16, .inl g_upl_)), (upb, .inl (ct 1, 4096, .inl g_upb))] := hD
  refine lv_istore (lv' := [(6, .int r13_1), (5, .int r7_1), (4, .int r1_1), (0, .ref mm), (1, .long v0), (3, .int v1)]) hx hb dX16_does_16 hl (by decide) rfl (fun ls hl => ?_)
  refine lv_iload hx hb dX16_does_18 (lv_at hl 2 rfl) ?_
  refine go_i (k1 := 0) (n1 := 0) (wr := [(mm, .inr (16, fs_mm)), (ureg, .inl (ct 2, 32, .inr (.inl g_ureg))), (ustk, .inl (ct 1, 64, .inl g_ustk)), (upl_, .inl (ct 1, 16, .inl g_upl_)), (upb, .inl (ct 1, 4096, .inl g_upb))]) [] [0, 1, 2, 3, 4] (rn_S (As := [.int r1_1]) (rest := []) (c_X16_sortOf l D ct r1_1 hp1_4 _) (cb_of (n := 1) hn mw_2325 mw_13 mw_2323 mhX16_sortOf ⟨(Nat.le_of_ble_eq_true rfl), (Nat.le_of_ble_eq_true rfl)⟩) hx hb hml hown hn hK hSK hZ hS mw_2324 rfl hl.1 (Nat.le_of_ble_eq_true rfl) dX16_does_20 ⟨(Nat.le_of_ble_eq_true rfl), (Nat.le_of_ble_eq_true rfl)⟩) hP hD hS hA rfl rfl (by decide) (by decide) (by decide) (Nat.le_of_ble_eq_true rfl) (Nat.le_of_ble_eq_true rfl) (fun r20_1 u20_2 H locs hp20_3 hP hD hS => ?_)
  obtain ⟨hp20_4, hp20_5, hp20_6, hp20_7⟩ := hp20_3
  have hp20_4 : rg r20_1 (-1) 6 := hp20_4
  replace hp20_5 : FF (r20_1.toInt = srt r1_1.toInt) := hp20_5
  replace hp20_6 : FF (r20_1.toInt = 5 ∨ r20_1.toInt = 6 → (r1_1.toInt = 32 ∨ r1_1.toInt = 40 ∨ r1_1.toInt = 48 ∨ r1_1.toInt = 64 ∨ r1_1.toInt = 72 ∨ r1_1.toInt = 80)) := hp20_6
  replace hp20_7 : FF (r1_1.toInt = 149 → r20_1.toInt = 1) := hp20_7
  have hP : va_P D vwCl [(mm, .inr (16, fs_mm)), (ureg, .inl (ct 2, 32, .inr (.inl g_ureg))), (ustk, .inl (ct 1, 64, .inl g_ustk)), (upl_, .inl (ct 1, 16, .inl g_upl_)), (upb, .inl (ct 1, 4096, .inl g_upb))] _ := hP
  have hD : va_D A [(mm, .inr (16, fs_mm)), (ureg, .inl (ct 2, 32, .inr (.inl g_ureg))), (ustk, .inl (ct 1, 64, .inl g_ustk)), (upl_, .inl (ct 1, 16, .inl g_upl_)), (upb, .inl (ct 1, 4096, .inl g_upb))] := hD
  refine lv_iconst (v := 1) hx hb dX16_does_23 (by decide) ?_
  have b50 : ∀ (j50_s0 : Int64) (H : Heap) (locs : List Loc) (ls : Array Slot), lv_has ls 13 [(0, .ref mm), (1, .long v0), (3, .int v1), (4, .int r1_1), (5, .int r7_1), (6, .int r13_1)] → va_P D vwCl [(mm, .inr (16, fs_mm)), (ureg, .inl (ct 2, 32, .inr (.inl g_ureg))), (ustk, .inl (ct 1, 64, .inl g_ustk)), (upl_, .inl (ct 1, 16, .inl g_upl_)), (upb, .inl (ct 1, 4096, .inl g_upb))] H → va_D A [(mm, .inr (16, fs_mm)), (ureg, .inl (ct 2, 32, .inr (.inl g_ureg))), (ustk, .inl (ct 1, 64, .inl g_ustk)), (upl_, .inl (ct 1, 16, .inl g_upl_)), (upb, .inl (ct 1, 4096, .inl g_upb))] → va_S A s.heap H locs → W p l e ({ frames := 4, cells := 0, slots := 0, locals := 97 }) s m [.ref mm, .long v0, .int v1].toArray below meth c H locs 0 0 Q (F0 m 50 ls [.long j50_s0]) := by
    intro j50_s0 H locs ls  hl hP hD hS
    refine lv_lstore (lv' := [(7, .long j50_s0), (0, .ref mm), (1, .long v0), (3, .int v1), (4, .int r1_1), (5, .int r7_1), (6, .int r13_1)]) hx hb dX16_does_50 hl (by decide) rfl (fun ls hl => ?_)
    refine lv_iload hx hb dX16_does_52 (lv_at hl 4 rfl) ?_
    refine go_i (k1 := 0) (n1 := 0) (wr := [(mm, .inr (16, fs_mm)), (ureg, .inl (ct 2, 32, .inr (.inl g_ureg))), (ustk, .inl (ct 1, 64, .inl g_ustk)), (upl_, .inl (ct 1, 16, .inl g_upl_)), (upb, .inl (ct 1, 4096, .inl g_upb))]) [] [0, 1, 2, 3, 4] (rn_S (As := [.int r1_1]) (rest := []) (c_X16_sortOf l D ct r1_1 hp1_4 _) (cb_of (n := 1) hn mw_2325 mw_13 mw_2323 mhX16_sortOf ⟨(Nat.le_of_ble_eq_true rfl), (Nat.le_of_ble_eq_true rfl)⟩) hx hb hml hown hn hK hSK hZ hS mw_2324 rfl hl.1 (Nat.le_of_ble_eq_true rfl) dX16_does_54 ⟨(Nat.le_of_ble_eq_true rfl), (Nat.le_of_ble_eq_true rfl)⟩) hP hD hS hA rfl rfl (by decide) (by decide) (by decide) (Nat.le_of_ble_eq_true rfl) (Nat.le_of_ble_eq_true rfl) (fun r54_1 u54_2 H locs hp54_3 hP hD hS => ?_)
    obtain ⟨hp54_4, hp54_5, hp54_6, hp54_7⟩ := hp54_3
    have hp54_4 : rg r54_1 (-1) 6 := hp54_4
    replace hp54_5 : FF (r54_1.toInt = srt r1_1.toInt) := hp54_5
    replace hp54_6 : FF (r54_1.toInt = 5 ∨ r54_1.toInt = 6 → (r1_1.toInt = 32 ∨ r1_1.toInt = 40 ∨ r1_1.toInt = 48 ∨ r1_1.toInt = 64 ∨ r1_1.toInt = 72 ∨ r1_1.toInt = 80)) := hp54_6
    replace hp54_7 : FF (r1_1.toInt = 149 → r54_1.toInt = 1) := hp54_7
    have hP : va_P D vwCl [(mm, .inr (16, fs_mm)), (ureg, .inl (ct 2, 32, .inr (.inl g_ureg))), (ustk, .inl (ct 1, 64, .inl g_ustk)), (upl_, .inl (ct 1, 16, .inl g_upl_)), (upb, .inl (ct 1, 4096, .inl g_upb))] _ := hP
    have hD : va_D A [(mm, .inr (16, fs_mm)), (ureg, .inl (ct 2, 32, .inr (.inl g_ureg))), (ustk, .inl (ct 1, 64, .inl g_ustk)), (upl_, .inl (ct 1, 16, .inl g_upl_)), (upb, .inl (ct 1, 4096, .inl g_upb))] := hD
    have b207 : ∀  (H : Heap) (locs : List Loc) (ls : Array Slot), lv_has ls 13 [(0, .ref mm), (1, .long v0), (4, .int r1_1), (5, .int r7_1), (6, .int r13_1), (7, .long j50_s0)] → va_P D vwCl [(mm, .inr (16, fs_mm)), (ureg, .inl (ct 2, 32, .inr (.inl g_ureg))), (ustk, .inl (ct 1, 64, .inl g_ustk)), (upl_, .inl (ct 1, 16, .inl g_upl_)), (upb, .inl (ct 1, 4096, .inl g_upb))] H → va_D A [(mm, .inr (16, fs_mm)), (ureg, .inl (ct 2, 32, .inr (.inl g_ureg))), (ustk, .inl (ct 1, 64, .inl g_ustk)), (upl_, .inl (ct 1, 16, .inl g_upl_)), (upb, .inl (ct 1, 4096, .inl g_upb))] → va_S A s.heap H locs → W p l e ({ frames := 4, cells := 0, slots := 0, locals := 97 }) s m [.ref mm, .long v0, .int v1].toArray below meth c H locs 0 0 Q (F0 m 207 ls []) := by
      intro  H locs ls  hl hP hD hS
      refine lv_aload_n hx hb dX16_does_207 rfl (lv_at hl 0 rfl) ?_
      refine va_get (D := D) (ci := 16) (v := .ref ureg) (C := RX16) (T := TX16) (N := 78) hx hb (htX16 hn) (fun _ h => h) hown hK hP 0 rfl rfl 33 (by decide) (hn.get mw_1572 rfl) (fun _ h9 => h9) hf_mm_33 dX16_does_208 ?_
      refine lv_iload hx hb dX16_does_211 (lv_at hl 3 rfl) ?_
      have hi213_1 : vp_in r7_1 32 := (in_rg hp7_4 (by decide))
      refine va_lald hx hb hK hP 1 2 rfl rfl hi213_1 dX16_does_213 ?_
      refine lv_topl (fun z213_2 ez213_2 => ?_)
      refine lv_lload_n hx hb dX16_does_214 rfl (lv_at hl 1 rfl) ?_
      refine go_i (k1 := 0) (n1 := 0) (wr := [(mm, .inr (16, fs_mm)), (ureg, .inl (ct 2, 32, .inr (.inl g_ureg))), (ustk, .inl (ct 1, 64, .inl g_ustk)), (upl_, .inl (ct 1, 16, .inl g_upl_)), (upb, .inl (ct 1, 4096, .inl g_upb))]) [] [0, 1, 2, 3, 4] (rn_S (As := [.long v0]) (rest := [.long z213_2]) (c_X16_offOf l D ct v0  _) (cb_of (n := 1) hn mw_2343 mw_13 mw_2341 mhX16_offOf ⟨(Nat.le_of_ble_eq_true rfl), (Nat.le_of_ble_eq_true rfl)⟩) hx hb hml hown hn hK hSK hZ hS mw_2342 rfl hl.1 (Nat.le_of_ble_eq_true rfl) dX16_does_215 ⟨(Nat.le_of_ble_eq_true rfl), (Nat.le_of_ble_eq_true rfl)⟩) hP hD hS hA rfl rfl (by decide) (by decide) (by decide) (Nat.le_of_ble_eq_true rfl) (Nat.le_of_ble_eq_true rfl) (fun r215_1 u215_2 H locs hp215_3 hP hD hS => ?_)
      obtain ⟨hp215_4, hp215_5⟩ := hp215_3
      have hp215_4 : rg r215_1 (-32768) 32767 := hp215_4
      replace hp215_5 : FF (r215_1.toInt = (v0.toInt / 65536 + 32768) % 65536 - 32768) := hp215_5
      have hP : va_P D vwCl [(mm, .inr (16, fs_mm)), (ureg, .inl (ct 2, 32, .inr (.inl g_ureg))), (ustk, .inl (ct 1, 64, .inl g_ustk)), (upl_, .inl (ct 1, 16, .inl g_upl_)), (upb, .inl (ct 1, 4096, .inl g_upb))] _ := hP
      have hD : va_D A [(mm, .inr (16, fs_mm)), (ureg, .inl (ct 2, 32, .inr (.inl g_ureg))), (ustk, .inl (ct 1, 64, .inl g_ustk)), (upl_, .inl (ct 1, 16, .inl g_upl_)), (upb, .inl (ct 1, 4096, .inl g_upb))] := hD
      refine lv_i2l hx hb dX16_does_218 rfl ?_
      refine lv_topl (fun z218_1 ez218_1 => ?_)
      have r218_2 : rl z218_1 (-32768) 32767 := rl_i2l ez218_1 hp215_4
      refine lv_ladd hx hb dX16_does_219 ?_
      refine lv_topl (fun z219_1 ez219_1 => ?_)
      refine lv_iload hx hb dX16_does_220 (lv_at hl 2 rfl) ?_
      refine go_i (k1 := 0) (n1 := 0) (wr := [(mm, .inr (16, fs_mm)), (ureg, .inl (ct 2, 32, .inr (.inl g_ureg))), (ustk, .inl (ct 1, 64, .inl g_ustk)), (upl_, .inl (ct 1, 16, .inl g_upl_)), (upb, .inl (ct 1, 4096, .inl g_upb))]) [] [0, 1, 2, 3, 4] (rn_S (As := [.int r1_1]) (rest := [.long z219_1]) (c_X16_sizeOf l D ct r1_1  _) (cb_of (n := 1) hn mw_2381 mw_13 mw_2379 mhX16_sizeOf ⟨(Nat.le_of_ble_eq_true rfl), (Nat.le_of_ble_eq_true rfl)⟩) hx hb hml hown hn hK hSK hZ hS mw_2380 rfl hl.1 (Nat.le_of_ble_eq_true rfl) dX16_does_222 ⟨(Nat.le_of_ble_eq_true rfl), (Nat.le_of_ble_eq_true rfl)⟩) hP hD hS hA rfl rfl (by decide) (by decide) (by decide) (Nat.le_of_ble_eq_true rfl) (Nat.le_of_ble_eq_true rfl) (fun r222_1 u222_2 H locs hp222_3 hP hD hS => ?_)
      obtain ⟨hp222_4, hp222_5, hp222_6, hp222_7, hp222_8⟩ := hp222_3
      have hp222_4 : rg r222_1 1 8 := hp222_4
      replace hp222_5 : FF ((r1_1.toInt / 8) % 4 = 0 → r222_1.toInt = 4) := hp222_5
      replace hp222_6 : FF ((r1_1.toInt / 8) % 4 = 1 → r222_1.toInt = 2) := hp222_6
      replace hp222_7 : FF ((r1_1.toInt / 8) % 4 = 2 → r222_1.toInt = 1) := hp222_7
      replace hp222_8 : FF ((r1_1.toInt / 8) % 4 = 3 → r222_1.toInt = 8) := hp222_8
      have hP : va_P D vwCl [(mm, .inr (16, fs_mm)), (ureg, .inl (ct 2, 32, .inr (.inl g_ureg))), (ustk, .inl (ct 1, 64, .inl g_ustk)), (upl_, .inl (ct 1, 16, .inl g_upl_)), (upb, .inl (ct 1, 4096, .inl g_upb))] _ := hP
      have hD : va_D A [(mm, .inr (16, fs_mm)), (ureg, .inl (ct 2, 32, .inr (.inl g_ureg))), (ustk, .inl (ct 1, 64, .inl g_ustk)), (upl_, .inl (ct 1, 16, .inl g_upl_)), (upb, .inl (ct 1, 4096, .inl g_upb))] := hD
      refine go_i (k1 := 0) (n1 := 0) (wr := [(mm, .inr (16, fs_mm)), (ureg, .inl (ct 2, 32, .inr (.inl g_ureg))), (ustk, .inl (ct 1, 64, .inl g_ustk)), (upl_, .inl (ct 1, 16, .inl g_upl_)), (upb, .inl (ct 1, 4096, .inl g_upb))]) [] [0, 1, 2, 3, 4] (rn_S (As := [.long z219_1, .int r222_1]) (rest := []) (c_X16_isStack l D ct z219_1 r222_1 (rg_w hp222_4 (by decide)) _) (cb_of (n := 2) hn mw_2384 mw_13 mw_2382 mhX16_isStack ⟨(Nat.le_of_ble_eq_true rfl), (Nat.le_of_ble_eq_true rfl)⟩) hx hb hml hown hn hK hSK hZ hS mw_2383 rfl hl.1 (Nat.le_of_ble_eq_true rfl) dX16_does_225 ⟨(Nat.le_of_ble_eq_true rfl), (Nat.le_of_ble_eq_true rfl)⟩) hP hD hS hA rfl rfl (by decide) (by decide) (by decide) (Nat.le_of_ble_eq_true rfl) (Nat.le_of_ble_eq_true rfl) (fun r225_1 u225_2 H locs hp225_3 hP hD hS => ?_)
      obtain ⟨hp225_4, hp225_5⟩ := hp225_3
      have hp225_4 : rg r225_1 0 1 := hp225_4
      replace hp225_5 : FF (r225_1.toInt = 1 → 131072 ≤ z219_1.toInt ∧ z219_1.toInt ≤ 131136 - r222_1.toInt) := hp225_5
      have hP : va_P D vwCl [(mm, .inr (16, fs_mm)), (ureg, .inl (ct 2, 32, .inr (.inl g_ureg))), (ustk, .inl (ct 1, 64, .inl g_ustk)), (upl_, .inl (ct 1, 16, .inl g_upl_)), (upb, .inl (ct 1, 4096, .inl g_upb))] _ := hP
      have hD : va_D A [(mm, .inr (16, fs_mm)), (ureg, .inl (ct 2, 32, .inr (.inl g_ureg))), (ustk, .inl (ct 1, 64, .inl g_ustk)), (upl_, .inl (ct 1, 16, .inl g_upl_)), (upb, .inl (ct 1, 4096, .inl g_upb))] := hD
      refine lv_if_ne (tgt := 233) hx hb dX16_does_228 (by decide) (fun c228_1 => ?_) (fun c228_1 => ?_)
      · have t228_2 := FF.mk (i_ne c228_1)
        have r228_3 : rg r225_1 1 1 := rg_neAl t228_2 hp225_4 (show rg (0 : Int32) 0 0 from rg_l (by decide)) (by decide)
        refine lv_aload_n hx hb dX16_does_233 rfl (lv_at hl 0 rfl) ?_
        refine lv_aload_n hx hb dX16_does_234 rfl (lv_at hl 0 rfl) ?_
        refine va_get (D := D) (ci := 16) (v := .ref ureg) (C := RX16) (T := TX16) (N := 78) hx hb (htX16 hn) (fun _ h => h) hown hK hP 0 rfl rfl 33 (by decide) (hn.get mw_1572 rfl) (fun _ h9 => h9) hf_mm_33 dX16_does_235 ?_
        refine lv_iload hx hb dX16_does_238 (lv_at hl 3 rfl) ?_
        have hi240_1 : vp_in r7_1 32 := (in_rg hp7_4 (by decide))
        refine va_lald hx hb hK hP 1 2 rfl rfl hi240_1 dX16_does_240 ?_
        refine lv_topl (fun z240_2 ez240_2 => ?_)
        obtain rfl : z213_2 = z240_2 := ez213_2.trans ez240_2.symm
        refine lv_lload_n hx hb dX16_does_241 rfl (lv_at hl 1 rfl) ?_
        refine go_i (k1 := 0) (n1 := 0) (wr := [(mm, .inr (16, fs_mm)), (ureg, .inl (ct 2, 32, .inr (.inl g_ureg))), (ustk, .inl (ct 1, 64, .inl g_ustk)), (upl_, .inl (ct 1, 16, .inl g_upl_)), (upb, .inl (ct 1, 4096, .inl g_upb))]) [] [0, 1, 2, 3, 4] (rn_S (As := [.long v0]) (rest := [.long z213_2, .ref mm]) (c_X16_offOf l D ct v0  _) (cb_of (n := 1) hn mw_2343 mw_13 mw_2341 mhX16_offOf ⟨(Nat.le_of_ble_eq_true rfl), (Nat.le_of_ble_eq_true rfl)⟩) hx hb hml hown hn hK hSK hZ hS mw_2342 rfl hl.1 (Nat.le_of_ble_eq_true rfl) dX16_does_242 ⟨(Nat.le_of_ble_eq_true rfl), (Nat.le_of_ble_eq_true rfl)⟩) hP hD hS hA rfl rfl (by decide) (by decide) (by decide) (Nat.le_of_ble_eq_true rfl) (Nat.le_of_ble_eq_true rfl) (fun r242_1 u242_2 H locs hp242_3 hP hD hS => ?_)
        obtain ⟨hp242_4, hp242_5⟩ := hp242_3
        have hp242_4 : rg r242_1 (-32768) 32767 := hp242_4
        replace hp242_5 : FF (r242_1.toInt = (v0.toInt / 65536 + 32768) % 65536 - 32768) := hp242_5
        have hP : va_P D vwCl [(mm, .inr (16, fs_mm)), (ureg, .inl (ct 2, 32, .inr (.inl g_ureg))), (ustk, .inl (ct 1, 64, .inl g_ustk)), (upl_, .inl (ct 1, 16, .inl g_upl_)), (upb, .inl (ct 1, 4096, .inl g_upb))] _ := hP
        have hD : va_D A [(mm, .inr (16, fs_mm)), (ureg, .inl (ct 2, 32, .inr (.inl g_ureg))), (ustk, .inl (ct 1, 64, .inl g_ustk)), (upl_, .inl (ct 1, 16, .inl g_upl_)), (upb, .inl (ct 1, 4096, .inl g_upb))] := hD
        refine lv_i2l hx hb dX16_does_245 rfl ?_
        refine lv_topl (fun z245_1 ez245_1 => ?_)
        have r245_2 : rl z245_1 (-32768) 32767 := rl_i2l ez245_1 hp242_4
        refine lv_ladd hx hb dX16_does_246 ?_
        refine lv_topl (fun z246_1 ez246_1 => ?_)
        refine lv_iload hx hb dX16_does_247 (lv_at hl 2 rfl) ?_
        refine go_i (k1 := 0) (n1 := 0) (wr := [(mm, .inr (16, fs_mm)), (ureg, .inl (ct 2, 32, .inr (.inl g_ureg))), (ustk, .inl (ct 1, 64, .inl g_ustk)), (upl_, .inl (ct 1, 16, .inl g_upl_)), (upb, .inl (ct 1, 4096, .inl g_upb))]) [] [0, 1, 2, 3, 4] (rn_S (As := [.int r1_1]) (rest := [.long z246_1, .ref mm]) (c_X16_sizeOf l D ct r1_1  _) (cb_of (n := 1) hn mw_2381 mw_13 mw_2379 mhX16_sizeOf ⟨(Nat.le_of_ble_eq_true rfl), (Nat.le_of_ble_eq_true rfl)⟩) hx hb hml hown hn hK hSK hZ hS mw_2380 rfl hl.1 (Nat.le_of_ble_eq_true rfl) dX16_does_249 ⟨(Nat.le_of_ble_eq_true rfl), (Nat.le_of_ble_eq_true rfl)⟩) hP hD hS hA rfl rfl (by decide) (by decide) (by decide) (Nat.le_of_ble_eq_true rfl) (Nat.le_of_ble_eq_true rfl) (fun r249_1 u249_2 H locs hp249_3 hP hD hS => ?_)
        obtain ⟨hp249_4, hp249_5, hp249_6, hp249_7, hp249_8⟩ := hp249_3
        have hp249_4 : rg r249_1 1 8 := hp249_4
        replace hp249_5 : FF ((r1_1.toInt / 8) % 4 = 0 → r249_1.toInt = 4) := hp249_5
        replace hp249_6 : FF ((r1_1.toInt / 8) % 4 = 1 → r249_1.toInt = 2) := hp249_6
        replace hp249_7 : FF ((r1_1.toInt / 8) % 4 = 2 → r249_1.toInt = 1) := hp249_7
        replace hp249_8 : FF ((r1_1.toInt / 8) % 4 = 3 → r249_1.toInt = 8) := hp249_8
        have hP : va_P D vwCl [(mm, .inr (16, fs_mm)), (ureg, .inl (ct 2, 32, .inr (.inl g_ureg))), (ustk, .inl (ct 1, 64, .inl g_ustk)), (upl_, .inl (ct 1, 16, .inl g_upl_)), (upb, .inl (ct 1, 4096, .inl g_upb))] _ := hP
        have hD : va_D A [(mm, .inr (16, fs_mm)), (ureg, .inl (ct 2, 32, .inr (.inl g_ureg))), (ustk, .inl (ct 1, 64, .inl g_ustk)), (upl_, .inl (ct 1, 16, .inl g_upl_)), (upb, .inl (ct 1, 4096, .inl g_upb))] := hD
        refine lv_iload hx hb dX16_does_252 (lv_at hl 2 rfl) ?_
        refine go_i (k1 := 0) (n1 := 0) (wr := [(mm, .inr (16, fs_mm)), (ureg, .inl (ct 2, 32, .inr (.inl g_ureg))), (ustk, .inl (ct 1, 64, .inl g_ustk)), (upl_, .inl (ct 1, 16, .inl g_upl_)), (upb, .inl (ct 1, 4096, .inl g_upb))]) [] [0, 1, 2, 3, 4] (rn_S (As := [.int r1_1]) (rest := [.int r249_1, .long z246_1, .ref mm]) (c_X16_sortOf l D ct r1_1 hp1_4 _) (cb_of (n := 1) hn mw_2325 mw_13 mw_2323 mhX16_sortOf ⟨(Nat.le_of_ble_eq_true rfl), (Nat.le_of_ble_eq_true rfl)⟩) hx hb hml hown hn hK hSK hZ hS mw_2324 rfl hl.1 (Nat.le_of_ble_eq_true rfl) dX16_does_254 ⟨(Nat.le_of_ble_eq_true rfl), (Nat.le_of_ble_eq_true rfl)⟩) hP hD hS hA rfl rfl (by decide) (by decide) (by decide) (Nat.le_of_ble_eq_true rfl) (Nat.le_of_ble_eq_true rfl) (fun r254_1 u254_2 H locs hp254_3 hP hD hS => ?_)
        obtain ⟨hp254_4, hp254_5, hp254_6, hp254_7⟩ := hp254_3
        have hp254_4 : rg r254_1 (-1) 6 := hp254_4
        replace hp254_5 : FF (r254_1.toInt = srt r1_1.toInt) := hp254_5
        replace hp254_6 : FF (r254_1.toInt = 5 ∨ r254_1.toInt = 6 → (r1_1.toInt = 32 ∨ r1_1.toInt = 40 ∨ r1_1.toInt = 48 ∨ r1_1.toInt = 64 ∨ r1_1.toInt = 72 ∨ r1_1.toInt = 80)) := hp254_6
        replace hp254_7 : FF (r1_1.toInt = 149 → r254_1.toInt = 1) := hp254_7
        have hP : va_P D vwCl [(mm, .inr (16, fs_mm)), (ureg, .inl (ct 2, 32, .inr (.inl g_ureg))), (ustk, .inl (ct 1, 64, .inl g_ustk)), (upl_, .inl (ct 1, 16, .inl g_upl_)), (upb, .inl (ct 1, 4096, .inl g_upb))] _ := hP
        have hD : va_D A [(mm, .inr (16, fs_mm)), (ureg, .inl (ct 2, 32, .inr (.inl g_ureg))), (ustk, .inl (ct 1, 64, .inl g_ustk)), (upl_, .inl (ct 1, 16, .inl g_upl_)), (upb, .inl (ct 1, 4096, .inl g_upb))] := hD
        refine lv_iconst (v := 3) hx hb dX16_does_257 (by decide) ?_
        have b273 : ∀ (j273_s0 : Int64) (H : Heap) (locs : List Loc) (ls : Array Slot), lv_has ls 13 [] → va_P D vwCl [(mm, .inr (16, fs_mm)), (ureg, .inl (ct 2, 32, .inr (.inl g_ureg))), (ustk, .inl (ct 1, 64, .inl g_ustk)), (upl_, .inl (ct 1, 16, .inl g_upl_)), (upb, .inl (ct 1, 4096, .inl g_upb))] H → va_D A [(mm, .inr (16, fs_mm)), (ureg, .inl (ct 2, 32, .inr (.inl g_ureg))), (ustk, .inl (ct 1, 64, .inl g_ustk)), (upl_, .inl (ct 1, 16, .inl g_upl_)), (upb, .inl (ct 1, 4096, .inl g_upb))] → va_S A s.heap H locs → W p l e ({ frames := 4, cells := 0, slots := 0, locals := 97 }) s m [.ref mm, .long v0, .int v1].toArray below meth c H locs 0 0 Q (F0 m 273 ls [.long j273_s0, .int r249_1, .long z246_1, .ref mm]) := by
          intro j273_s0 H locs ls  hl hP hD hS
          refine go_v (k1 := 0) (n1 := 0) (wr := [(ureg, .inl (ct 2, 32, .inr (.inl g_ureg))), (upl_, .inl (ct 1, 16, .inl g_upl_)), (upb, .inl (ct 1, 4096, .inl g_upb))]) [0, 2] [1, 3, 4] (rn_V (As := [.long z246_1, .int r249_1, .long j273_s0]) (rest := []) (c_X16_store l D ct mm z246_1 r249_1 j273_s0 fs_mm ustk g_ustk (rl_of (show 131072 ≤ z246_1.toInt ∧ z246_1.toInt ≤ 131136 by have q0 := (rl_any z246_1).1; have q1 := (rl_any z246_1).2; have q2 := r245_2.1; have q3 := r245_2.2; have q4 := (eq_i2l ez245_1); have q5 := hp242_4.1; have q6 := hp242_4.2; have q7 := (rl_any z213_2).1; have q8 := (rl_any z213_2).2; have q9 := (congrArg Int64.toInt ez213_2); have q10 := (rl_any (g_ureg r7_1.toNatClampNeg)).1; have q11 := (rl_any (g_ureg r7_1.toNatClampNeg)).2; have q12 := r218_2.1; have q13 := r218_2.2; have q14 := (eq_i2l ez218_1); have q15 := hp215_4.1; have q16 := hp215_4.2; have q17 := (rl_any z219_1).1; have q18 := (rl_any z219_1).2; have q19 := (rl_any v0).1; have q20 := (rl_any v0).2; have q21 := hp1_4.1; have q22 := hp1_4.2; have q23 := hp7_4.1; have q24 := hp7_4.2; have q25 := hp13_4.1; have q26 := hp13_4.2; have q27 := hp222_4.1; have q28 := hp222_4.2; have q29 := r228_3.1; have q30 := r228_3.2; have q31 := hp20_4.1; have q32 := hp20_4.2; have q33 := hp54_4.1; have q34 := hp54_4.2; have q35 := (show rg (0 : Int32) 0 0 from rg_l (by decide)).1; have q36 := (show rg (0 : Int32) 0 0 from rg_l (by decide)).2; have q37 := hp249_4.1; have q38 := hp249_4.2; have q39 := hp254_4.1; have q40 := hp254_4.2; have q41 := FF.out hp1_5; have q42 := FF.out hp7_5; have q43 := FF.out hp13_5; have q44 := FF.out hp20_5; have q45 := FF.out hp20_6; have q46 := FF.out hp20_7; have q47 := FF.out hp54_5; have q48 := FF.out hp54_6; have q49 := FF.out hp54_7; have q50 := FF.out hp215_5; have q51 := FF.out (emL_add ez219_1); have q52 := FF.out hp222_5; have q53 := FF.out hp222_6; have q54 := FF.out hp222_7; have q55 := FF.out hp222_8; have q56 := FF.out hp225_5; have q57 := FF.out t228_2; have q58 := FF.out hp242_5; have q59 := FF.out (emL_add ez246_1); have q60 := FF.out hp249_5; have q61 := FF.out hp249_6; have q62 := FF.out hp249_7; have q63 := FF.out hp249_8; have q64 := FF.out hp254_5; have q65 := FF.out hp254_6; have q66 := FF.out hp254_7; have q67 := (show (0 : Int32).toInt = 0 from by decide); omega)) (rg_w hp249_4 (by decide)) hlen_mm hf_mm_34 h_g_ustk (show z246_1.toInt ≤ 131136 - r249_1.toInt by have q0 := hp249_4.1; have q1 := hp249_4.2; have q2 := (rl_any z246_1).1; have q3 := (rl_any z246_1).2; have q4 := r245_2.1; have q5 := r245_2.2; have q6 := (eq_i2l ez245_1); have q7 := hp242_4.1; have q8 := hp242_4.2; have q9 := (rl_any z213_2).1; have q10 := (rl_any z213_2).2; have q11 := (congrArg Int64.toInt ez213_2); have q12 := (rl_any (g_ureg r7_1.toNatClampNeg)).1; have q13 := (rl_any (g_ureg r7_1.toNatClampNeg)).2; have q14 := hp1_4.1; have q15 := hp1_4.2; have q16 := (rl_any v0).1; have q17 := (rl_any v0).2; have q18 := hp20_4.1; have q19 := hp20_4.2; have q20 := hp54_4.1; have q21 := hp54_4.2; have q22 := r218_2.1; have q23 := r218_2.2; have q24 := (eq_i2l ez218_1); have q25 := hp215_4.1; have q26 := hp215_4.2; have q27 := (rl_any z219_1).1; have q28 := (rl_any z219_1).2; have q29 := hp222_4.1; have q30 := hp222_4.2; have q31 := hp254_4.1; have q32 := hp254_4.2; have q33 := hp7_4.1; have q34 := hp7_4.2; have q35 := hp13_4.1; have q36 := hp13_4.2; have q37 := r228_3.1; have q38 := r228_3.2; have q39 := (show rg (0 : Int32) 0 0 from rg_l (by decide)).1; have q40 := (show rg (0 : Int32) 0 0 from rg_l (by decide)).2; have q41 := FF.out hp1_5; have q42 := FF.out hp7_5; have q43 := FF.out hp13_5; have q44 := FF.out hp20_5; have q45 := FF.out hp20_6; have q46 := FF.out hp20_7; have q47 := FF.out hp54_5; have q48 := FF.out hp54_6; have q49 := FF.out hp54_7; have q50 := FF.out hp215_5; have q51 := FF.out (emL_add ez219_1); have q52 := FF.out hp222_5; have q53 := FF.out hp222_6; have q54 := FF.out hp222_7; have q55 := FF.out hp222_8; have q56 := FF.out hp225_5; have q57 := FF.out t228_2; have q58 := FF.out hp242_5; have q59 := FF.out (emL_add ez246_1); have q60 := FF.out hp249_5; have q61 := FF.out hp249_6; have q62 := FF.out hp249_7; have q63 := FF.out hp249_8; have q64 := FF.out hp254_5; have q65 := FF.out hp254_6; have q66 := FF.out hp254_7; have q67 := (show (0 : Int32).toInt = 0 from by decide); omega) _) (cb_of (n := 3) hn mw_2393 mw_13 mw_2390 mhX16_store ⟨(Nat.le_of_ble_eq_true rfl), (Nat.le_of_ble_eq_true rfl)⟩) hx hb hml hown hn hK hSK hZ hS mw_2392 mw_s225 (ci := 16) (q0 := 0) rfl rfl rfl rfl hl.1 (Nat.le_of_ble_eq_true rfl) dX16_does_273 ⟨(Nat.le_of_ble_eq_true rfl), (Nat.le_of_ble_eq_true rfl)⟩) hP hD hS hA rfl rfl (by decide) (by decide) (by decide) (Nat.le_of_ble_eq_true rfl) (Nat.le_of_ble_eq_true rfl) (fun u273_2 H locs hp273_3 hP hD hS => ?_)
          have hp273_4 := hp273_3
          have hP : va_P D vwCl [(ureg, .inl (ct 2, 32, .inr (.inl g_ureg))), (upl_, .inl (ct 1, 16, .inl g_upl_)), (upb, .inl (ct 1, 4096, .inl g_upb)), (mm, .inr (16, fs_mm)), (ustk, .inl (ct 1, 64, .inl u273_2))] _ := hP
          have hD : va_D A [(ureg, .inl (ct 2, 32, .inr (.inl g_ureg))), (upl_, .inl (ct 1, 16, .inl g_upl_)), (upb, .inl (ct 1, 4096, .inl g_upb)), (mm, .inr (16, fs_mm)), (ustk, .inl (ct 1, 64, .inl u273_2))] := hD
          refine lv_iconst (v := 0) hx hb dX16_does_276 (by decide) ?_
          exact endq_i hQ hx hb hr hlocks dX16_does_277 rfl (g_ureg, u273_2) ⟨(rg_w (show rg (0 : Int32) 0 0 from rg_l (by decide)) (by decide)), hp273_4⟩ hP hD hS [3, 0, 4, 1, 2] rfl (by decide) rfl (Nat.le_of_ble_eq_true rfl) (Nat.le_of_ble_eq_true rfl)
        refine lv_icmp_ne (tgt := 271) hx hb dX16_does_258 (by decide) (fun c258_1 => ?_) (fun c258_1 => ?_)
        · have t258_2 := FF.mk (i_ne c258_1)
          refine lv_lload hx hb dX16_does_271 (lv_at hl 5 rfl) ?_
          exact b273 j50_s0 H locs ls  (lv_sub hl [] rfl) hP hD hS
        · have t258_2 := FF.mk (i_eq c258_1)
          have r258_3 : rg r254_1 3 3 := rg_eqA t258_2 hp254_4 (show rg (3 : Int32) 3 3 from rg_l (by decide)) (by decide)
          refine lv_aload_n hx hb dX16_does_261 rfl (lv_at hl 0 rfl) ?_
          refine va_get (D := D) (ci := 16) (v := .ref ureg) (C := RX16) (T := TX16) (N := 78) hx hb (htX16 hn) (fun _ h => h) hown hK hP 0 rfl rfl 33 (by decide) (hn.get mw_1572 rfl) (fun _ h9 => h9) hf_mm_33 dX16_does_262 ?_
          refine lv_iload hx hb dX16_does_265 (lv_at hl 4 rfl) ?_
          have hi267_1 : vp_in r13_1 32 := (in_rg hp13_4 (by decide))
          refine va_lald hx hb hK hP 1 2 rfl rfl hi267_1 dX16_does_267 ?_
          refine lv_topl (fun z267_2 ez267_2 => ?_)
          refine lv_goto (tgt := 273) hx hb dX16_does_268 (by decide) ?_
          exact b273 z267_2 H locs ls  (lv_sub hl [] rfl) hP hD hS
      · have t228_2 := FF.mk (i_eq c228_1)
        have r228_3 : rg r225_1 0 0 := rg_eqA t228_2 hp225_4 (show rg (0 : Int32) 0 0 from rg_l (by decide)) (by decide)
        refine lv_iconst (v := 3) hx hb dX16_does_231 (by decide) ?_
        exact endq_i hQ hx hb hr hlocks dX16_does_232 rfl (g_ureg, g_ustk) ⟨(rg_w (show rg (3 : Int32) 3 3 from rg_l (by decide)) (by decide)), h_g_ustk⟩ hP hD hS [0, 1, 2, 3, 4] rfl (by decide) rfl (Nat.le_of_ble_eq_true rfl) (Nat.le_of_ble_eq_true rfl)
    by_cases h57_101 : r54_1.toInt = 0
    · have r57_102 : rg r54_1 0 0 := rg_at h57_101
      refine lv_tableIn (off := 35) (tgt := 92) hx hb dX16_does_57 (by rw [h57_101]; decide) (by rw [h57_101]; decide) (by rw [h57_101]; rfl) (by decide) ?_
      refine lv_aload_n hx hb dX16_does_92 rfl (lv_at hl 1 rfl) ?_
      refine va_get (D := D) (ci := 16) (v := .ref ureg) (C := RX16) (T := TX16) (N := 78) hx hb (htX16 hn) (fun _ h => h) hown hK hP 0 rfl rfl 33 (by decide) (hn.get mw_1572 rfl) (fun _ h9 => h9) hf_mm_33 dX16_does_93 ?_
      refine lv_iload hx hb dX16_does_96 (lv_at hl 5 rfl) ?_
      refine lv_iload hx hb dX16_does_98 (lv_at hl 4 rfl) ?_
      refine lv_aload_n hx hb dX16_does_100 rfl (lv_at hl 1 rfl) ?_
      refine va_get (D := D) (ci := 16) (v := .ref ureg) (C := RX16) (T := TX16) (N := 78) hx hb (htX16 hn) (fun _ h => h) hown hK hP 0 rfl rfl 33 (by decide) (hn.get mw_1572 rfl) (fun _ h9 => h9) hf_mm_33 dX16_does_101 ?_
      refine lv_iload hx hb dX16_does_104 (lv_at hl 5 rfl) ?_
      have hi106_1 : vp_in r7_1 32 := (in_rg hp7_4 (by decide))
      refine va_lald hx hb hK hP 1 2 rfl rfl hi106_1 dX16_does_106 ?_
      refine lv_topl (fun z106_2 ez106_2 => ?_)
      refine lv_lload hx hb dX16_does_107 (lv_at hl 0 rfl) ?_
      refine go_l (k1 := 0) (n1 := 0) (wr := [(mm, .inr (16, fs_mm)), (ureg, .inl (ct 2, 32, .inr (.inl g_ureg))), (ustk, .inl (ct 1, 64, .inl g_ustk)), (upl_, .inl (ct 1, 16, .inl g_upl_)), (upb, .inl (ct 1, 4096, .inl g_upb))]) [] [0, 1, 2, 3, 4] (rn_S (As := [.int r1_1, .long z106_2, .long j50_s0]) (rest := [.int r7_1, .ref ureg]) (c_X16_worked l D ct r1_1 z106_2 j50_s0  _) (cb_of (n := 3) hn mw_2353 mw_13 mw_2351 mhX16_worked ⟨(Nat.le_of_ble_eq_true rfl), (Nat.le_of_ble_eq_true rfl)⟩) hx hb hml hown hn hK hSK hZ hS mw_2352 rfl hl.1 (Nat.le_of_ble_eq_true rfl) dX16_does_109 ⟨(Nat.le_of_ble_eq_true rfl), (Nat.le_of_ble_eq_true rfl)⟩) hP hD hS hA rfl rfl (by decide) (by decide) (by decide) (Nat.le_of_ble_eq_true rfl) (Nat.le_of_ble_eq_true rfl) (fun r109_1 u109_2 H locs hp109_3 hP hD hS => ?_)
      have hP : va_P D vwCl [(mm, .inr (16, fs_mm)), (ureg, .inl (ct 2, 32, .inr (.inl g_ureg))), (ustk, .inl (ct 1, 64, .inl g_ustk)), (upl_, .inl (ct 1, 16, .inl g_upl_)), (upb, .inl (ct 1, 4096, .inl g_upb))] _ := hP
      have hD : va_D A [(mm, .inr (16, fs_mm)), (ureg, .inl (ct 2, 32, .inr (.inl g_ureg))), (ustk, .inl (ct 1, 64, .inl g_ustk)), (upl_, .inl (ct 1, 16, .inl g_upl_)), (upb, .inl (ct 1, 4096, .inl g_upb))] := hD
      have hi112_1 : vp_in r7_1 32 := (in_rg hp7_4 (by decide))
      refine va_last hx hb hK hP hD hS 1 2 rfl rfl hi112_1 dX16_does_112 (fun H locs hP hD hS => ?_)
      have hP : va_P D vwCl [(mm, .inr (16, fs_mm)), (ureg, .inl (ct 2, 32, .inr (.inl (vp_updL g_ureg r7_1.toNatClampNeg r109_1)))), (ustk, .inl (ct 1, 64, .inl g_ustk)), (upl_, .inl (ct 1, 16, .inl g_upl_)), (upb, .inl (ct 1, 4096, .inl g_upb))] _ := hP
      have hD : va_D A [(mm, .inr (16, fs_mm)), (ureg, .inl (ct 2, 32, .inr (.inl (vp_updL g_ureg r7_1.toNatClampNeg r109_1)))), (ustk, .inl (ct 1, 64, .inl g_ustk)), (upl_, .inl (ct 1, 16, .inl g_upl_)), (upb, .inl (ct 1, 4096, .inl g_upb))] := hD
      obtain ⟨f112_2, ef112_2⟩ : ∃ z, z = (vp_updL g_ureg r7_1.toNatClampNeg r109_1) := ⟨_, rfl⟩
      rw [← ef112_2] at hP hD
      refine lv_iconst (v := 0) hx hb dX16_does_113 (by decide) ?_
      exact endq_i hQ hx hb hr hlocks dX16_does_114 rfl (f112_2, g_ustk) ⟨(rg_w (show rg (0 : Int32) 0 0 from rg_l (by decide)) (by decide)), h_g_ustk⟩ hP hD hS [0, 1, 2, 3, 4] rfl (by decide) rfl (Nat.le_of_ble_eq_true rfl) (Nat.le_of_ble_eq_true rfl)
    by_cases h57_111 : r54_1.toInt = 1
    · have r57_112 : rg r54_1 1 1 := rg_at h57_111
      refine lv_tableIn (off := 58) (tgt := 115) hx hb dX16_does_57 (by rw [h57_111]; decide) (by rw [h57_111]; decide) (by rw [h57_111]; rfl) (by decide) ?_
      refine lv_iload hx hb dX16_does_115 (lv_at hl 4 rfl) ?_
      refine go_i (k1 := 0) (n1 := 0) (wr := [(mm, .inr (16, fs_mm)), (ureg, .inl (ct 2, 32, .inr (.inl g_ureg))), (ustk, .inl (ct 1, 64, .inl g_ustk)), (upl_, .inl (ct 1, 16, .inl g_upl_)), (upb, .inl (ct 1, 4096, .inl g_upb))]) [] [0, 1, 2, 3, 4] (rn_S (As := [.int r1_1]) (rest := []) (c_X16_isEnd l D ct r1_1  _) (cb_of (n := 1) hn mw_2334 mw_13 mw_2332 mhX16_isEnd ⟨(Nat.le_of_ble_eq_true rfl), (Nat.le_of_ble_eq_true rfl)⟩) hx hb hml hown hn hK hSK hZ hS mw_2333 rfl hl.1 (Nat.le_of_ble_eq_true rfl) dX16_does_117 ⟨(Nat.le_of_ble_eq_true rfl), (Nat.le_of_ble_eq_true rfl)⟩) hP hD hS hA rfl rfl (by decide) (by decide) (by decide) (Nat.le_of_ble_eq_true rfl) (Nat.le_of_ble_eq_true rfl) (fun r117_1 u117_2 H locs hp117_3 hP hD hS => ?_)
      obtain ⟨hp117_4, hp117_5, hp117_6⟩ := hp117_3
      have hp117_4 : rg r117_1 0 1 := hp117_4
      replace hp117_5 : FF (r117_1.toInt = 1 → r1_1.toInt = 149) := hp117_5
      replace hp117_6 : FF (r117_1.toInt = 0 → r1_1.toInt ≠ 149) := hp117_6
      have hP : va_P D vwCl [(mm, .inr (16, fs_mm)), (ureg, .inl (ct 2, 32, .inr (.inl g_ureg))), (ustk, .inl (ct 1, 64, .inl g_ustk)), (upl_, .inl (ct 1, 16, .inl g_upl_)), (upb, .inl (ct 1, 4096, .inl g_upb))] _ := hP
      have hD : va_D A [(mm, .inr (16, fs_mm)), (ureg, .inl (ct 2, 32, .inr (.inl g_ureg))), (ustk, .inl (ct 1, 64, .inl g_ustk)), (upl_, .inl (ct 1, 16, .inl g_upl_)), (upb, .inl (ct 1, 4096, .inl g_upb))] := hD
      refine lv_if_eq (tgt := 127) hx hb dX16_does_120 (by decide) (fun c120_1 => ?_) (fun c120_1 => ?_)
      · have t120_2 := FF.mk (i_eq c120_1)
        have r120_3 : rg r117_1 0 0 := rg_eqA t120_2 hp117_4 (show rg (0 : Int32) 0 0 from rg_l (by decide)) (by decide)
        refine lv_iload hx hb dX16_does_127 (lv_at hl 4 rfl) ?_
        refine lv_aload_n hx hb dX16_does_129 rfl (lv_at hl 1 rfl) ?_
        refine va_get (D := D) (ci := 16) (v := .ref ureg) (C := RX16) (T := TX16) (N := 78) hx hb (htX16 hn) (fun _ h => h) hown hK hP 0 rfl rfl 33 (by decide) (hn.get mw_1572 rfl) (fun _ h9 => h9) hf_mm_33 dX16_does_130 ?_
        refine lv_iload hx hb dX16_does_133 (lv_at hl 5 rfl) ?_
        have hi135_1 : vp_in r7_1 32 := (in_rg hp7_4 (by decide))
        refine va_lald hx hb hK hP 1 2 rfl rfl hi135_1 dX16_does_135 ?_
        refine lv_topl (fun z135_2 ez135_2 => ?_)
        refine lv_lload hx hb dX16_does_136 (lv_at hl 0 rfl) ?_
        refine go_i (k1 := 0) (n1 := 0) (wr := [(mm, .inr (16, fs_mm)), (ureg, .inl (ct 2, 32, .inr (.inl g_ureg))), (ustk, .inl (ct 1, 64, .inl g_ustk)), (upl_, .inl (ct 1, 16, .inl g_upl_)), (upb, .inl (ct 1, 4096, .inl g_upb))]) [] [0, 1, 2, 3, 4] (rn_S (As := [.int r1_1, .long z135_2, .long j50_s0]) (rest := []) (c_X16_goes l D ct r1_1 z135_2 j50_s0  _) (cb_of (n := 3) hn mw_2367 mw_13 mw_2365 mhX16_goes ⟨(Nat.le_of_ble_eq_true rfl), (Nat.le_of_ble_eq_true rfl)⟩) hx hb hml hown hn hK hSK hZ hS mw_2366 rfl hl.1 (Nat.le_of_ble_eq_true rfl) dX16_does_138 ⟨(Nat.le_of_ble_eq_true rfl), (Nat.le_of_ble_eq_true rfl)⟩) hP hD hS hA rfl rfl (by decide) (by decide) (by decide) (Nat.le_of_ble_eq_true rfl) (Nat.le_of_ble_eq_true rfl) (fun r138_1 u138_2 H locs hp138_3 hP hD hS => ?_)
        have hp138_4 := hp138_3
        have hp138_4 : rg r138_1 0 1 := hp138_4
        have hP : va_P D vwCl [(mm, .inr (16, fs_mm)), (ureg, .inl (ct 2, 32, .inr (.inl g_ureg))), (ustk, .inl (ct 1, 64, .inl g_ustk)), (upl_, .inl (ct 1, 16, .inl g_upl_)), (upb, .inl (ct 1, 4096, .inl g_upb))] _ := hP
        have hD : va_D A [(mm, .inr (16, fs_mm)), (ureg, .inl (ct 2, 32, .inr (.inl g_ureg))), (ustk, .inl (ct 1, 64, .inl g_ustk)), (upl_, .inl (ct 1, 16, .inl g_upl_)), (upb, .inl (ct 1, 4096, .inl g_upb))] := hD
        refine lv_if_eq (tgt := 148) hx hb dX16_does_141 (by decide) (fun c141_1 => ?_) (fun c141_1 => ?_)
        · have t141_2 := FF.mk (i_eq c141_1)
          have r141_3 : rg r138_1 0 0 := rg_eqA t141_2 hp138_4 (show rg (0 : Int32) 0 0 from rg_l (by decide)) (by decide)
          refine lv_iconst (v := 0) hx hb dX16_does_148 (by decide) ?_
          exact endq_i hQ hx hb hr hlocks dX16_does_149 rfl (g_ureg, g_ustk) ⟨(rg_w (show rg (0 : Int32) 0 0 from rg_l (by decide)) (by decide)), h_g_ustk⟩ hP hD hS [0, 1, 2, 3, 4] rfl (by decide) rfl (Nat.le_of_ble_eq_true rfl) (Nat.le_of_ble_eq_true rfl)
        · have t141_2 := FF.mk (i_ne c141_1)
          have r141_3 : rg r138_1 1 1 := rg_neAl t141_2 hp138_4 (show rg (0 : Int32) 0 0 from rg_l (by decide)) (by decide)
          refine lv_iconst (v := 1) hx hb dX16_does_144 (by decide) ?_
          refine lv_goto (tgt := 149) hx hb dX16_does_145 (by decide) ?_
          exact endq_i hQ hx hb hr hlocks dX16_does_149 rfl (g_ureg, g_ustk) ⟨(rg_w (show rg (1 : Int32) 1 1 from rg_l (by decide)) (by decide)), h_g_ustk⟩ hP hD hS [0, 1, 2, 3, 4] rfl (by decide) rfl (Nat.le_of_ble_eq_true rfl) (Nat.le_of_ble_eq_true rfl)
      · have t120_2 := FF.mk (i_ne c120_1)
        have r120_3 : rg r117_1 1 1 := rg_neAl t120_2 hp117_4 (show rg (0 : Int32) 0 0 from rg_l (by decide)) (by decide)
        refine lv_iconst (v := 2) hx hb dX16_does_123 (by decide) ?_
        refine lv_goto (tgt := 149) hx hb dX16_does_124 (by decide) ?_
        exact endq_i hQ hx hb hr hlocks dX16_does_149 rfl (g_ureg, g_ustk) ⟨(rg_w (show rg (2 : Int32) 2 2 from rg_l (by decide)) (by decide)), h_g_ustk⟩ hP hD hS [0, 1, 2, 3, 4] rfl (by decide) rfl (Nat.le_of_ble_eq_true rfl) (Nat.le_of_ble_eq_true rfl)
    by_cases h57_121 : r54_1.toInt = 2
    · have r57_122 : rg r54_1 2 2 := rg_at h57_121
      refine lv_tableIn (off := 93) (tgt := 150) hx hb dX16_does_57 (by rw [h57_121]; decide) (by rw [h57_121]; decide) (by rw [h57_121]; rfl) (by decide) ?_
      refine lv_aload_n hx hb dX16_does_150 rfl (lv_at hl 1 rfl) ?_
      refine va_get (D := D) (ci := 16) (v := .ref ureg) (C := RX16) (T := TX16) (N := 78) hx hb (htX16 hn) (fun _ h => h) hown hK hP 0 rfl rfl 33 (by decide) (hn.get mw_1572 rfl) (fun _ h9 => h9) hf_mm_33 dX16_does_151 ?_
      refine lv_iload hx hb dX16_does_154 (lv_at hl 6 rfl) ?_
      have hi156_1 : vp_in r13_1 32 := (in_rg hp13_4 (by decide))
      refine va_lald hx hb hK hP 1 2 rfl rfl hi156_1 dX16_does_156 ?_
      refine lv_topl (fun z156_2 ez156_2 => ?_)
      refine lv_lload_n hx hb dX16_does_157 rfl (lv_at hl 2 rfl) ?_
      refine go_i (k1 := 0) (n1 := 0) (wr := [(mm, .inr (16, fs_mm)), (ureg, .inl (ct 2, 32, .inr (.inl g_ureg))), (ustk, .inl (ct 1, 64, .inl g_ustk)), (upl_, .inl (ct 1, 16, .inl g_upl_)), (upb, .inl (ct 1, 4096, .inl g_upb))]) [] [0, 1, 2, 3, 4] (rn_S (As := [.long v0]) (rest := [.long z156_2]) (c_X16_offOf l D ct v0  _) (cb_of (n := 1) hn mw_2343 mw_13 mw_2341 mhX16_offOf ⟨(Nat.le_of_ble_eq_true rfl), (Nat.le_of_ble_eq_true rfl)⟩) hx hb hml hown hn hK hSK hZ hS mw_2342 rfl hl.1 (Nat.le_of_ble_eq_true rfl) dX16_does_158 ⟨(Nat.le_of_ble_eq_true rfl), (Nat.le_of_ble_eq_true rfl)⟩) hP hD hS hA rfl rfl (by decide) (by decide) (by decide) (Nat.le_of_ble_eq_true rfl) (Nat.le_of_ble_eq_true rfl) (fun r158_1 u158_2 H locs hp158_3 hP hD hS => ?_)
      obtain ⟨hp158_4, hp158_5⟩ := hp158_3
      have hp158_4 : rg r158_1 (-32768) 32767 := hp158_4
      replace hp158_5 : FF (r158_1.toInt = (v0.toInt / 65536 + 32768) % 65536 - 32768) := hp158_5
      have hP : va_P D vwCl [(mm, .inr (16, fs_mm)), (ureg, .inl (ct 2, 32, .inr (.inl g_ureg))), (ustk, .inl (ct 1, 64, .inl g_ustk)), (upl_, .inl (ct 1, 16, .inl g_upl_)), (upb, .inl (ct 1, 4096, .inl g_upb))] _ := hP
      have hD : va_D A [(mm, .inr (16, fs_mm)), (ureg, .inl (ct 2, 32, .inr (.inl g_ureg))), (ustk, .inl (ct 1, 64, .inl g_ustk)), (upl_, .inl (ct 1, 16, .inl g_upl_)), (upb, .inl (ct 1, 4096, .inl g_upb))] := hD
      refine lv_i2l hx hb dX16_does_161 rfl ?_
      refine lv_topl (fun z161_1 ez161_1 => ?_)
      have r161_2 : rl z161_1 (-32768) 32767 := rl_i2l ez161_1 hp158_4
      refine lv_ladd hx hb dX16_does_162 ?_
      refine lv_topl (fun z162_1 ez162_1 => ?_)
      refine lv_iload hx hb dX16_does_163 (lv_at hl 4 rfl) ?_
      refine go_i (k1 := 0) (n1 := 0) (wr := [(mm, .inr (16, fs_mm)), (ureg, .inl (ct 2, 32, .inr (.inl g_ureg))), (ustk, .inl (ct 1, 64, .inl g_ustk)), (upl_, .inl (ct 1, 16, .inl g_upl_)), (upb, .inl (ct 1, 4096, .inl g_upb))]) [] [0, 1, 2, 3, 4] (rn_S (As := [.int r1_1]) (rest := [.long z162_1]) (c_X16_sizeOf l D ct r1_1  _) (cb_of (n := 1) hn mw_2381 mw_13 mw_2379 mhX16_sizeOf ⟨(Nat.le_of_ble_eq_true rfl), (Nat.le_of_ble_eq_true rfl)⟩) hx hb hml hown hn hK hSK hZ hS mw_2380 rfl hl.1 (Nat.le_of_ble_eq_true rfl) dX16_does_165 ⟨(Nat.le_of_ble_eq_true rfl), (Nat.le_of_ble_eq_true rfl)⟩) hP hD hS hA rfl rfl (by decide) (by decide) (by decide) (Nat.le_of_ble_eq_true rfl) (Nat.le_of_ble_eq_true rfl) (fun r165_1 u165_2 H locs hp165_3 hP hD hS => ?_)
      obtain ⟨hp165_4, hp165_5, hp165_6, hp165_7, hp165_8⟩ := hp165_3
      have hp165_4 : rg r165_1 1 8 := hp165_4
      replace hp165_5 : FF ((r1_1.toInt / 8) % 4 = 0 → r165_1.toInt = 4) := hp165_5
      replace hp165_6 : FF ((r1_1.toInt / 8) % 4 = 1 → r165_1.toInt = 2) := hp165_6
      replace hp165_7 : FF ((r1_1.toInt / 8) % 4 = 2 → r165_1.toInt = 1) := hp165_7
      replace hp165_8 : FF ((r1_1.toInt / 8) % 4 = 3 → r165_1.toInt = 8) := hp165_8
      have hP : va_P D vwCl [(mm, .inr (16, fs_mm)), (ureg, .inl (ct 2, 32, .inr (.inl g_ureg))), (ustk, .inl (ct 1, 64, .inl g_ustk)), (upl_, .inl (ct 1, 16, .inl g_upl_)), (upb, .inl (ct 1, 4096, .inl g_upb))] _ := hP
      have hD : va_D A [(mm, .inr (16, fs_mm)), (ureg, .inl (ct 2, 32, .inr (.inl g_ureg))), (ustk, .inl (ct 1, 64, .inl g_ustk)), (upl_, .inl (ct 1, 16, .inl g_upl_)), (upb, .inl (ct 1, 4096, .inl g_upb))] := hD
      refine go_i (k1 := 0) (n1 := 0) (wr := [(mm, .inr (16, fs_mm)), (ureg, .inl (ct 2, 32, .inr (.inl g_ureg))), (ustk, .inl (ct 1, 64, .inl g_ustk)), (upl_, .inl (ct 1, 16, .inl g_upl_)), (upb, .inl (ct 1, 4096, .inl g_upb))]) [] [0, 1, 2, 3, 4] (rn_S (As := [.long z162_1, .int r165_1]) (rest := []) (c_X16_isStack l D ct z162_1 r165_1 (rg_w hp165_4 (by decide)) _) (cb_of (n := 2) hn mw_2384 mw_13 mw_2382 mhX16_isStack ⟨(Nat.le_of_ble_eq_true rfl), (Nat.le_of_ble_eq_true rfl)⟩) hx hb hml hown hn hK hSK hZ hS mw_2383 rfl hl.1 (Nat.le_of_ble_eq_true rfl) dX16_does_168 ⟨(Nat.le_of_ble_eq_true rfl), (Nat.le_of_ble_eq_true rfl)⟩) hP hD hS hA rfl rfl (by decide) (by decide) (by decide) (Nat.le_of_ble_eq_true rfl) (Nat.le_of_ble_eq_true rfl) (fun r168_1 u168_2 H locs hp168_3 hP hD hS => ?_)
      obtain ⟨hp168_4, hp168_5⟩ := hp168_3
      have hp168_4 : rg r168_1 0 1 := hp168_4
      replace hp168_5 : FF (r168_1.toInt = 1 → 131072 ≤ z162_1.toInt ∧ z162_1.toInt ≤ 131136 - r165_1.toInt) := hp168_5
      have hP : va_P D vwCl [(mm, .inr (16, fs_mm)), (ureg, .inl (ct 2, 32, .inr (.inl g_ureg))), (ustk, .inl (ct 1, 64, .inl g_ustk)), (upl_, .inl (ct 1, 16, .inl g_upl_)), (upb, .inl (ct 1, 4096, .inl g_upb))] _ := hP
      have hD : va_D A [(mm, .inr (16, fs_mm)), (ureg, .inl (ct 2, 32, .inr (.inl g_ureg))), (ustk, .inl (ct 1, 64, .inl g_ustk)), (upl_, .inl (ct 1, 16, .inl g_upl_)), (upb, .inl (ct 1, 4096, .inl g_upb))] := hD
      refine lv_if_ne (tgt := 176) hx hb dX16_does_171 (by decide) (fun c171_1 => ?_) (fun c171_1 => ?_)
      · have t171_2 := FF.mk (i_ne c171_1)
        have r171_3 : rg r168_1 1 1 := rg_neAl t171_2 hp168_4 (show rg (0 : Int32) 0 0 from rg_l (by decide)) (by decide)
        refine lv_aload_n hx hb dX16_does_176 rfl (lv_at hl 1 rfl) ?_
        refine va_get (D := D) (ci := 16) (v := .ref ureg) (C := RX16) (T := TX16) (N := 78) hx hb (htX16 hn) (fun _ h => h) hown hK hP 0 rfl rfl 33 (by decide) (hn.get mw_1572 rfl) (fun _ h9 => h9) hf_mm_33 dX16_does_177 ?_
        refine lv_iload hx hb dX16_does_180 (lv_at hl 5 rfl) ?_
        refine lv_aload_n hx hb dX16_does_182 rfl (lv_at hl 1 rfl) ?_
        refine lv_aload_n hx hb dX16_does_183 rfl (lv_at hl 1 rfl) ?_
        refine va_get (D := D) (ci := 16) (v := .ref ureg) (C := RX16) (T := TX16) (N := 78) hx hb (htX16 hn) (fun _ h => h) hown hK hP 0 rfl rfl 33 (by decide) (hn.get mw_1572 rfl) (fun _ h9 => h9) hf_mm_33 dX16_does_184 ?_
        refine lv_iload hx hb dX16_does_187 (lv_at hl 6 rfl) ?_
        have hi189_1 : vp_in r13_1 32 := (in_rg hp13_4 (by decide))
        refine va_lald hx hb hK hP 1 2 rfl rfl hi189_1 dX16_does_189 ?_
        refine lv_topl (fun z189_2 ez189_2 => ?_)
        obtain rfl : z156_2 = z189_2 := ez156_2.trans ez189_2.symm
        refine lv_lload_n hx hb dX16_does_190 rfl (lv_at hl 2 rfl) ?_
        refine go_i (k1 := 0) (n1 := 0) (wr := [(mm, .inr (16, fs_mm)), (ureg, .inl (ct 2, 32, .inr (.inl g_ureg))), (ustk, .inl (ct 1, 64, .inl g_ustk)), (upl_, .inl (ct 1, 16, .inl g_upl_)), (upb, .inl (ct 1, 4096, .inl g_upb))]) [] [0, 1, 2, 3, 4] (rn_S (As := [.long v0]) (rest := [.long z156_2, .ref mm, .int r7_1, .ref ureg]) (c_X16_offOf l D ct v0  _) (cb_of (n := 1) hn mw_2343 mw_13 mw_2341 mhX16_offOf ⟨(Nat.le_of_ble_eq_true rfl), (Nat.le_of_ble_eq_true rfl)⟩) hx hb hml hown hn hK hSK hZ hS mw_2342 rfl hl.1 (Nat.le_of_ble_eq_true rfl) dX16_does_191 ⟨(Nat.le_of_ble_eq_true rfl), (Nat.le_of_ble_eq_true rfl)⟩) hP hD hS hA rfl rfl (by decide) (by decide) (by decide) (Nat.le_of_ble_eq_true rfl) (Nat.le_of_ble_eq_true rfl) (fun r191_1 u191_2 H locs hp191_3 hP hD hS => ?_)
        obtain ⟨hp191_4, hp191_5⟩ := hp191_3
        have hp191_4 : rg r191_1 (-32768) 32767 := hp191_4
        replace hp191_5 : FF (r191_1.toInt = (v0.toInt / 65536 + 32768) % 65536 - 32768) := hp191_5
        have hP : va_P D vwCl [(mm, .inr (16, fs_mm)), (ureg, .inl (ct 2, 32, .inr (.inl g_ureg))), (ustk, .inl (ct 1, 64, .inl g_ustk)), (upl_, .inl (ct 1, 16, .inl g_upl_)), (upb, .inl (ct 1, 4096, .inl g_upb))] _ := hP
        have hD : va_D A [(mm, .inr (16, fs_mm)), (ureg, .inl (ct 2, 32, .inr (.inl g_ureg))), (ustk, .inl (ct 1, 64, .inl g_ustk)), (upl_, .inl (ct 1, 16, .inl g_upl_)), (upb, .inl (ct 1, 4096, .inl g_upb))] := hD
        refine lv_i2l hx hb dX16_does_194 rfl ?_
        refine lv_topl (fun z194_1 ez194_1 => ?_)
        have r194_2 : rl z194_1 (-32768) 32767 := rl_i2l ez194_1 hp191_4
        refine lv_ladd hx hb dX16_does_195 ?_
        refine lv_topl (fun z195_1 ez195_1 => ?_)
        refine lv_iload hx hb dX16_does_196 (lv_at hl 4 rfl) ?_
        refine go_i (k1 := 0) (n1 := 0) (wr := [(mm, .inr (16, fs_mm)), (ureg, .inl (ct 2, 32, .inr (.inl g_ureg))), (ustk, .inl (ct 1, 64, .inl g_ustk)), (upl_, .inl (ct 1, 16, .inl g_upl_)), (upb, .inl (ct 1, 4096, .inl g_upb))]) [] [0, 1, 2, 3, 4] (rn_S (As := [.int r1_1]) (rest := [.long z195_1, .ref mm, .int r7_1, .ref ureg]) (c_X16_sizeOf l D ct r1_1  _) (cb_of (n := 1) hn mw_2381 mw_13 mw_2379 mhX16_sizeOf ⟨(Nat.le_of_ble_eq_true rfl), (Nat.le_of_ble_eq_true rfl)⟩) hx hb hml hown hn hK hSK hZ hS mw_2380 rfl hl.1 (Nat.le_of_ble_eq_true rfl) dX16_does_198 ⟨(Nat.le_of_ble_eq_true rfl), (Nat.le_of_ble_eq_true rfl)⟩) hP hD hS hA rfl rfl (by decide) (by decide) (by decide) (Nat.le_of_ble_eq_true rfl) (Nat.le_of_ble_eq_true rfl) (fun r198_1 u198_2 H locs hp198_3 hP hD hS => ?_)
        obtain ⟨hp198_4, hp198_5, hp198_6, hp198_7, hp198_8⟩ := hp198_3
        have hp198_4 : rg r198_1 1 8 := hp198_4
        replace hp198_5 : FF ((r1_1.toInt / 8) % 4 = 0 → r198_1.toInt = 4) := hp198_5
        replace hp198_6 : FF ((r1_1.toInt / 8) % 4 = 1 → r198_1.toInt = 2) := hp198_6
        replace hp198_7 : FF ((r1_1.toInt / 8) % 4 = 2 → r198_1.toInt = 1) := hp198_7
        replace hp198_8 : FF ((r1_1.toInt / 8) % 4 = 3 → r198_1.toInt = 8) := hp198_8
        have hP : va_P D vwCl [(mm, .inr (16, fs_mm)), (ureg, .inl (ct 2, 32, .inr (.inl g_ureg))), (ustk, .inl (ct 1, 64, .inl g_ustk)), (upl_, .inl (ct 1, 16, .inl g_upl_)), (upb, .inl (ct 1, 4096, .inl g_upb))] _ := hP
        have hD : va_D A [(mm, .inr (16, fs_mm)), (ureg, .inl (ct 2, 32, .inr (.inl g_ureg))), (ustk, .inl (ct 1, 64, .inl g_ustk)), (upl_, .inl (ct 1, 16, .inl g_upl_)), (upb, .inl (ct 1, 4096, .inl g_upb))] := hD
        refine go_l (k1 := 0) (n1 := 0) (wr := [(ureg, .inl (ct 2, 32, .inr (.inl g_ureg))), (upl_, .inl (ct 1, 16, .inl g_upl_)), (upb, .inl (ct 1, 4096, .inl g_upb))]) [0, 2] [1, 3, 4] (rn_V (As := [.long z195_1, .int r198_1]) (rest := [.int r7_1, .ref ureg]) (c_X16_load_ l D ct mm z195_1 r198_1 fs_mm ustk g_ustk (rl_of (show 131072 ≤ z195_1.toInt ∧ z195_1.toInt ≤ 131136 by have q0 := (rl_any z195_1).1; have q1 := (rl_any z195_1).2; have q2 := r194_2.1; have q3 := r194_2.2; have q4 := (eq_i2l ez194_1); have q5 := hp191_4.1; have q6 := hp191_4.2; have q7 := (rl_any z156_2).1; have q8 := (rl_any z156_2).2; have q9 := (congrArg Int64.toInt ez156_2); have q10 := (rl_any (g_ureg r13_1.toNatClampNeg)).1; have q11 := (rl_any (g_ureg r13_1.toNatClampNeg)).2; have q12 := r161_2.1; have q13 := r161_2.2; have q14 := (eq_i2l ez161_1); have q15 := hp158_4.1; have q16 := hp158_4.2; have q17 := (rl_any z162_1).1; have q18 := (rl_any z162_1).2; have q19 := (rl_any v0).1; have q20 := (rl_any v0).2; have q21 := hp1_4.1; have q22 := hp1_4.2; have q23 := hp7_4.1; have q24 := hp7_4.2; have q25 := hp13_4.1; have q26 := hp13_4.2; have q27 := hp165_4.1; have q28 := hp165_4.2; have q29 := r171_3.1; have q30 := r171_3.2; have q31 := hp20_4.1; have q32 := hp20_4.2; have q33 := r57_122.1; have q34 := r57_122.2; have q35 := (show rg (0 : Int32) 0 0 from rg_l (by decide)).1; have q36 := (show rg (0 : Int32) 0 0 from rg_l (by decide)).2; have q37 := hp198_4.1; have q38 := hp198_4.2; have q39 := FF.out hp1_5; have q40 := FF.out hp7_5; have q41 := FF.out hp13_5; have q42 := FF.out hp20_5; have q43 := FF.out hp20_6; have q44 := FF.out hp20_7; have q45 := FF.out hp54_5; have q46 := FF.out hp54_6; have q47 := FF.out hp54_7; have q48 := FF.out hp158_5; have q49 := FF.out (emL_add ez162_1); have q50 := FF.out hp165_5; have q51 := FF.out hp165_6; have q52 := FF.out hp165_7; have q53 := FF.out hp165_8; have q54 := FF.out hp168_5; have q55 := FF.out t171_2; have q56 := FF.out hp191_5; have q57 := FF.out (emL_add ez195_1); have q58 := FF.out hp198_5; have q59 := FF.out hp198_6; have q60 := FF.out hp198_7; have q61 := FF.out hp198_8; have q62 := (show (0 : Int32).toInt = 0 from by decide); omega)) (rg_w hp198_4 (by decide)) hlen_mm hf_mm_34 h_g_ustk (show z195_1.toInt ≤ 131136 - r198_1.toInt by have q0 := hp198_4.1; have q1 := hp198_4.2; have q2 := (rl_any z195_1).1; have q3 := (rl_any z195_1).2; have q4 := r194_2.1; have q5 := r194_2.2; have q6 := (eq_i2l ez194_1); have q7 := hp191_4.1; have q8 := hp191_4.2; have q9 := (rl_any z156_2).1; have q10 := (rl_any z156_2).2; have q11 := (congrArg Int64.toInt ez156_2); have q12 := (rl_any (g_ureg r13_1.toNatClampNeg)).1; have q13 := (rl_any (g_ureg r13_1.toNatClampNeg)).2; have q14 := hp1_4.1; have q15 := hp1_4.2; have q16 := (rl_any v0).1; have q17 := (rl_any v0).2; have q18 := hp20_4.1; have q19 := hp20_4.2; have q20 := r57_122.1; have q21 := r57_122.2; have q22 := r161_2.1; have q23 := r161_2.2; have q24 := (eq_i2l ez161_1); have q25 := hp158_4.1; have q26 := hp158_4.2; have q27 := (rl_any z162_1).1; have q28 := (rl_any z162_1).2; have q29 := hp165_4.1; have q30 := hp165_4.2; have q31 := hp7_4.1; have q32 := hp7_4.2; have q33 := hp13_4.1; have q34 := hp13_4.2; have q35 := r171_3.1; have q36 := r171_3.2; have q37 := (show rg (0 : Int32) 0 0 from rg_l (by decide)).1; have q38 := (show rg (0 : Int32) 0 0 from rg_l (by decide)).2; have q39 := FF.out hp1_5; have q40 := FF.out hp7_5; have q41 := FF.out hp13_5; have q42 := FF.out hp20_5; have q43 := FF.out hp20_6; have q44 := FF.out hp20_7; have q45 := FF.out hp54_5; have q46 := FF.out hp54_6; have q47 := FF.out hp54_7; have q48 := FF.out hp158_5; have q49 := FF.out (emL_add ez162_1); have q50 := FF.out hp165_5; have q51 := FF.out hp165_6; have q52 := FF.out hp165_7; have q53 := FF.out hp165_8; have q54 := FF.out hp168_5; have q55 := FF.out t171_2; have q56 := FF.out hp191_5; have q57 := FF.out (emL_add ez195_1); have q58 := FF.out hp198_5; have q59 := FF.out hp198_6; have q60 := FF.out hp198_7; have q61 := FF.out hp198_8; have q62 := (show (0 : Int32).toInt = 0 from by decide); omega) _) (cb_of (n := 2) hn mw_2389 mw_13 mw_2386 mhX16_load_ ⟨(Nat.le_of_ble_eq_true rfl), (Nat.le_of_ble_eq_true rfl)⟩) hx hb hml hown hn hK hSK hZ hS mw_2388 mw_s224 (ci := 16) (q0 := 0) rfl rfl rfl rfl hl.1 (Nat.le_of_ble_eq_true rfl) dX16_does_201 ⟨(Nat.le_of_ble_eq_true rfl), (Nat.le_of_ble_eq_true rfl)⟩) hP hD hS hA rfl rfl (by decide) (by decide) (by decide) (Nat.le_of_ble_eq_true rfl) (Nat.le_of_ble_eq_true rfl) (fun r201_1 u201_2 H locs hp201_3 hP hD hS => ?_)
        have hP : va_P D vwCl [(ureg, .inl (ct 2, 32, .inr (.inl g_ureg))), (upl_, .inl (ct 1, 16, .inl g_upl_)), (upb, .inl (ct 1, 4096, .inl g_upb)), (mm, .inr (16, fs_mm)), (ustk, .inl (ct 1, 64, .inl g_ustk))] _ := hP
        have hD : va_D A [(ureg, .inl (ct 2, 32, .inr (.inl g_ureg))), (upl_, .inl (ct 1, 16, .inl g_upl_)), (upb, .inl (ct 1, 4096, .inl g_upb)), (mm, .inr (16, fs_mm)), (ustk, .inl (ct 1, 64, .inl g_ustk))] := hD
        have hi204_1 : vp_in r7_1 32 := (in_rg hp7_4 (by decide))
        refine va_last hx hb hK hP hD hS 0 2 rfl rfl hi204_1 dX16_does_204 (fun H locs hP hD hS => ?_)
        have hP : va_P D vwCl [(ureg, .inl (ct 2, 32, .inr (.inl (vp_updL g_ureg r7_1.toNatClampNeg r201_1)))), (upl_, .inl (ct 1, 16, .inl g_upl_)), (upb, .inl (ct 1, 4096, .inl g_upb)), (mm, .inr (16, fs_mm)), (ustk, .inl (ct 1, 64, .inl g_ustk))] _ := hP
        have hD : va_D A [(ureg, .inl (ct 2, 32, .inr (.inl (vp_updL g_ureg r7_1.toNatClampNeg r201_1)))), (upl_, .inl (ct 1, 16, .inl g_upl_)), (upb, .inl (ct 1, 4096, .inl g_upb)), (mm, .inr (16, fs_mm)), (ustk, .inl (ct 1, 64, .inl g_ustk))] := hD
        obtain ⟨f204_2, ef204_2⟩ : ∃ z, z = (vp_updL g_ureg r7_1.toNatClampNeg r201_1) := ⟨_, rfl⟩
        rw [← ef204_2] at hP hD
        refine lv_iconst (v := 0) hx hb dX16_does_205 (by decide) ?_
        exact endq_i hQ hx hb hr hlocks dX16_does_206 rfl (f204_2, g_ustk) ⟨(rg_w (show rg (0 : Int32) 0 0 from rg_l (by decide)) (by decide)), h_g_ustk⟩ hP hD hS [3, 0, 4, 1, 2] rfl (by decide) rfl (Nat.le_of_ble_eq_true rfl) (Nat.le_of_ble_eq_true rfl)
      · have t171_2 := FF.mk (i_eq c171_1)
        have r171_3 : rg r168_1 0 0 := rg_eqA t171_2 hp168_4 (show rg (0 : Int32) 0 0 from rg_l (by decide)) (by decide)
        refine lv_iconst (v := 3) hx hb dX16_does_174 (by decide) ?_
        exact endq_i hQ hx hb hr hlocks dX16_does_175 rfl (g_ureg, g_ustk) ⟨(rg_w (show rg (3 : Int32) 3 3 from rg_l (by decide)) (by decide)), h_g_ustk⟩ hP hD hS [0, 1, 2, 3, 4] rfl (by decide) rfl (Nat.le_of_ble_eq_true rfl) (Nat.le_of_ble_eq_true rfl)
    by_cases h57_131 : r54_1.toInt = 3
    · have r57_132 : rg r54_1 3 3 := rg_at h57_131
      refine lv_tableIn (off := 150) (tgt := 207) hx hb dX16_does_57 (by rw [h57_131]; decide) (by rw [h57_131]; decide) (by rw [h57_131]; rfl) (by decide) ?_
      exact b207  H locs ls  (lv_sub hl [1, 2, 4, 5, 6, 0] rfl) hP hD hS
    by_cases h57_141 : r54_1.toInt = 4
    · have r57_142 : rg r54_1 4 4 := rg_at h57_141
      refine lv_tableIn (off := 150) (tgt := 207) hx hb dX16_does_57 (by rw [h57_141]; decide) (by rw [h57_141]; decide) (by rw [h57_141]; rfl) (by decide) ?_
      exact b207  H locs ls  (lv_sub hl [1, 2, 4, 5, 6, 0] rfl) hP hD hS
    refine lv_tableOut (tgt := 278) hx hb dX16_does_57 (by have q0 := hp54_4; have q1 := q0.1; have q2 := q0.2; omega) (by decide) ?_
    have hl57_5001 := FF.mk h57_101
    have hl57_5002 := FF.mk h57_111
    have hl57_5003 := FF.mk h57_121
    have hl57_5004 := FF.mk h57_131
    have hl57_5005 := FF.mk h57_141
    refine lv_iload hx hb dX16_does_278 (lv_at hl 4 rfl) ?_
    refine go_i (k1 := 0) (n1 := 0) (wr := [(mm, .inr (16, fs_mm)), (ureg, .inl (ct 2, 32, .inr (.inl g_ureg))), (ustk, .inl (ct 1, 64, .inl g_ustk)), (upl_, .inl (ct 1, 16, .inl g_upl_)), (upb, .inl (ct 1, 4096, .inl g_upb))]) [] [0, 1, 2, 3, 4] (rn_S (As := [.int r1_1]) (rest := []) (c_X16_sortOf l D ct r1_1 hp1_4 _) (cb_of (n := 1) hn mw_2325 mw_13 mw_2323 mhX16_sortOf ⟨(Nat.le_of_ble_eq_true rfl), (Nat.le_of_ble_eq_true rfl)⟩) hx hb hml hown hn hK hSK hZ hS mw_2324 rfl hl.1 (Nat.le_of_ble_eq_true rfl) dX16_does_280 ⟨(Nat.le_of_ble_eq_true rfl), (Nat.le_of_ble_eq_true rfl)⟩) hP hD hS hA rfl rfl (by decide) (by decide) (by decide) (Nat.le_of_ble_eq_true rfl) (Nat.le_of_ble_eq_true rfl) (fun r280_1 u280_2 H locs hp280_3 hP hD hS => ?_)
    obtain ⟨hp280_4, hp280_5, hp280_6, hp280_7⟩ := hp280_3
    have hp280_4 : rg r280_1 (-1) 6 := hp280_4
    replace hp280_5 : FF (r280_1.toInt = srt r1_1.toInt) := hp280_5
    replace hp280_6 : FF (r280_1.toInt = 5 ∨ r280_1.toInt = 6 → (r1_1.toInt = 32 ∨ r1_1.toInt = 40 ∨ r1_1.toInt = 48 ∨ r1_1.toInt = 64 ∨ r1_1.toInt = 72 ∨ r1_1.toInt = 80)) := hp280_6
    replace hp280_7 : FF (r1_1.toInt = 149 → r280_1.toInt = 1) := hp280_7
    have hP : va_P D vwCl [(mm, .inr (16, fs_mm)), (ureg, .inl (ct 2, 32, .inr (.inl g_ureg))), (ustk, .inl (ct 1, 64, .inl g_ustk)), (upl_, .inl (ct 1, 16, .inl g_upl_)), (upb, .inl (ct 1, 4096, .inl g_upb))] _ := hP
    have hD : va_D A [(mm, .inr (16, fs_mm)), (ureg, .inl (ct 2, 32, .inr (.inl g_ureg))), (ustk, .inl (ct 1, 64, .inl g_ustk)), (upl_, .inl (ct 1, 16, .inl g_upl_)), (upb, .inl (ct 1, 4096, .inl g_upb))] := hD
    refine lv_iconst (v := 5) hx hb dX16_does_283 (by decide) ?_
    have b308 : ∀ (j308_s0 : Int64) (H : Heap) (locs : List Loc) (ls : Array Slot), lv_has ls 13 [(0, .ref mm), (3, .int v1), (4, .int r1_1)] → va_P D vwCl [(mm, .inr (16, fs_mm)), (ureg, .inl (ct 2, 32, .inr (.inl g_ureg))), (ustk, .inl (ct 1, 64, .inl g_ustk)), (upl_, .inl (ct 1, 16, .inl g_upl_)), (upb, .inl (ct 1, 4096, .inl g_upb))] H → va_D A [(mm, .inr (16, fs_mm)), (ureg, .inl (ct 2, 32, .inr (.inl g_ureg))), (ustk, .inl (ct 1, 64, .inl g_ustk)), (upl_, .inl (ct 1, 16, .inl g_upl_)), (upb, .inl (ct 1, 4096, .inl g_upb))] → va_S A s.heap H locs → W p l e ({ frames := 4, cells := 0, slots := 0, locals := 97 }) s m [.ref mm, .long v0, .int v1].toArray below meth c H locs 0 0 Q (F0 m 308 ls [.long j308_s0]) := by
      intro j308_s0 H locs ls  hl hP hD hS
      refine lv_ldc2 (v := 4294967295) hx hb hown (hn.get mw_1820 rfl) dX16_does_308 ?_
      refine lv_land hx hb dX16_does_311 ?_
      refine lv_topl (fun z311_1 ez311_1 => ?_)
      have r311_2 : rl z311_1 0 4294967295 := rgL_andr ez311_1 (show rl (4294967295 : Int64) 4294967295 4294967295 from rl_l (by decide)) (by decide)
      refine lv_lstore (lv' := [(9, .long z311_1), (0, .ref mm), (3, .int v1), (4, .int r1_1)]) hx hb dX16_does_312 hl (by decide) rfl (fun ls hl => ?_)
      refine lv_aload_n hx hb dX16_does_314 rfl (lv_at hl 1 rfl) ?_
      refine lv_iload_n hx hb dX16_does_315 rfl (lv_at hl 2 rfl) ?_
      refine lv_lload hx hb dX16_does_316 (lv_at hl 0 rfl) ?_
      refine lv_iload hx hb dX16_does_318 (lv_at hl 3 rfl) ?_
      refine go_i (k1 := 0) (n1 := 0) (wr := [(mm, .inr (16, fs_mm)), (ureg, .inl (ct 2, 32, .inr (.inl g_ureg))), (ustk, .inl (ct 1, 64, .inl g_ustk)), (upl_, .inl (ct 1, 16, .inl g_upl_)), (upb, .inl (ct 1, 4096, .inl g_upb))]) [] [0, 1, 2, 3, 4] (rn_S (As := [.int r1_1]) (rest := [.long z311_1, .int v1, .ref mm]) (c_X16_sizeOf l D ct r1_1  _) (cb_of (n := 1) hn mw_2381 mw_13 mw_2379 mhX16_sizeOf ⟨(Nat.le_of_ble_eq_true rfl), (Nat.le_of_ble_eq_true rfl)⟩) hx hb hml hown hn hK hSK hZ hS mw_2380 rfl hl.1 (Nat.le_of_ble_eq_true rfl) dX16_does_320 ⟨(Nat.le_of_ble_eq_true rfl), (Nat.le_of_ble_eq_true rfl)⟩) hP hD hS hA rfl rfl (by decide) (by decide) (by decide) (Nat.le_of_ble_eq_true rfl) (Nat.le_of_ble_eq_true rfl) (fun r320_1 u320_2 H locs hp320_3 hP hD hS => ?_)
      obtain ⟨hp320_4, hp320_5, hp320_6, hp320_7, hp320_8⟩ := hp320_3
      have hp320_4 : rg r320_1 1 8 := hp320_4
      replace hp320_5 : FF ((r1_1.toInt / 8) % 4 = 0 → r320_1.toInt = 4) := hp320_5
      replace hp320_6 : FF ((r1_1.toInt / 8) % 4 = 1 → r320_1.toInt = 2) := hp320_6
      replace hp320_7 : FF ((r1_1.toInt / 8) % 4 = 2 → r320_1.toInt = 1) := hp320_7
      replace hp320_8 : FF ((r1_1.toInt / 8) % 4 = 3 → r320_1.toInt = 8) := hp320_8
      have hP : va_P D vwCl [(mm, .inr (16, fs_mm)), (ureg, .inl (ct 2, 32, .inr (.inl g_ureg))), (ustk, .inl (ct 1, 64, .inl g_ustk)), (upl_, .inl (ct 1, 16, .inl g_upl_)), (upb, .inl (ct 1, 4096, .inl g_upb))] _ := hP
      have hD : va_D A [(mm, .inr (16, fs_mm)), (ureg, .inl (ct 2, 32, .inr (.inl g_ureg))), (ustk, .inl (ct 1, 64, .inl g_ustk)), (upl_, .inl (ct 1, 16, .inl g_upl_)), (upb, .inl (ct 1, 4096, .inl g_upb))] := hD
      refine go_l (k1 := 0) (n1 := 0) (wr := [(ureg, .inl (ct 2, 32, .inr (.inl g_ureg))), (ustk, .inl (ct 1, 64, .inl g_ustk))]) [0, 3, 4] [1, 2] (rn_V (As := [.int v1, .long z311_1, .int r320_1]) (rest := []) (c_X16_readAt l D ct mm v1 z311_1 r320_1 fs_mm upb upl_ g_upl_ g_upb h_v1 (rl_w r311_2 (by decide)) (rg_w hp320_4 (by decide)) hlen_mm hf_mm_2 hf_mm_3 h_g_upl_ h_g_upb _) (cb_of (n := 3) hn mw_1834 mw_13 mw_1831 mhX16_readAt ⟨(Nat.le_of_ble_eq_true rfl), (Nat.le_of_ble_eq_true rfl)⟩) hx hb hml hown hn hK hSK hZ hS mw_1833 mw_s177 (ci := 16) (q0 := 0) rfl rfl rfl rfl hl.1 (Nat.le_of_ble_eq_true rfl) dX16_does_323 ⟨(Nat.le_of_ble_eq_true rfl), (Nat.le_of_ble_eq_true rfl)⟩) hP hD hS hA rfl rfl (by decide) (by decide) (by decide) (Nat.le_of_ble_eq_true rfl) (Nat.le_of_ble_eq_true rfl) (fun r323_1 u323_2 H locs hp323_3 hP hD hS => ?_)
      have hP : va_P D vwCl [(ureg, .inl (ct 2, 32, .inr (.inl g_ureg))), (ustk, .inl (ct 1, 64, .inl g_ustk)), (mm, .inr (16, fs_mm)), (upl_, .inl (ct 1, 16, .inl g_upl_)), (upb, .inl (ct 1, 4096, .inl g_upb))] _ := hP
      have hD : va_D A [(ureg, .inl (ct 2, 32, .inr (.inl g_ureg))), (ustk, .inl (ct 1, 64, .inl g_ustk)), (mm, .inr (16, fs_mm)), (upl_, .inl (ct 1, 16, .inl g_upl_)), (upb, .inl (ct 1, 4096, .inl g_upb))] := hD
      refine lv_lstore (lv' := [(11, .long r323_1), (9, .long z311_1), (0, .ref mm), (3, .int v1), (4, .int r1_1)]) hx hb dX16_does_326 hl (by decide) rfl (fun ls hl => ?_)
      refine lv_aload_n hx hb dX16_does_328 rfl (lv_at hl 2 rfl) ?_
      refine va_get (D := D) (ci := 16) (v := .ref ureg) (C := RX16) (T := TX16) (N := 78) hx hb (htX16 hn) (fun _ h => h) hown hK hP 2 rfl rfl 33 (by decide) (hn.get mw_1572 rfl) (fun _ h9 => h9) hf_mm_33 dX16_does_329 ?_
      refine lv_iconst (v := 0) hx hb dX16_does_332 (by decide) ?_
      refine lv_lconst (v := 0) hx hb dX16_does_333 (by decide) ?_
      refine lv_lload hx hb dX16_does_334 (lv_at hl 0 rfl) ?_
      refine va_mmax_long hx hb (hml.trans hl.1.symm) hown (hn.get mw_2394 rfl) (hn.get mw_2395 rfl) (hn.get mw_24 rfl) (hn.get mw_2396 rfl) (Nat.le_of_ble_eq_true rfl) (Nat.le_of_ble_eq_true rfl) (Nat.le_of_ble_eq_true rfl) (Nat.le_of_ble_eq_true rfl) dX16_does_336 ?_
      refine lv_topl (fun z336_1 ez336_1 => ?_)
      have hm336_2 := FF.mk (mx_f ez336_1)
      have r336_3 : rl z336_1 0 9223372036854775807 := (rl_of (show 0 ≤ z336_1.toInt ∧ z336_1.toInt ≤ 9223372036854775807 by have q0 := (rl_any z336_1).1; have q1 := (rl_any z336_1).2; have q2 := (rl_any r323_1).1; have q3 := (rl_any r323_1).2; have q4 := (show rl (0 : Int64) 0 0 from rl_l (by decide)).1; have q5 := (show rl (0 : Int64) 0 0 from rl_l (by decide)).2; have q6 := FF.out hm336_2; have q7 := (show (0 : Int64).toInt = 0 from by decide); omega))
      have hi339_1 : vp_in (0 : Int32) 32 := (vp_in_iff.mpr (by decide))
      refine va_last hx hb hK hP hD hS 0 2 rfl rfl hi339_1 dX16_does_339 (fun H locs hP hD hS => ?_)
      have hP : va_P D vwCl [(ureg, .inl (ct 2, 32, .inr (.inl (vp_updL g_ureg (0 : Int32).toNatClampNeg z336_1)))), (ustk, .inl (ct 1, 64, .inl g_ustk)), (mm, .inr (16, fs_mm)), (upl_, .inl (ct 1, 16, .inl g_upl_)), (upb, .inl (ct 1, 4096, .inl g_upb))] _ := hP
      have hD : va_D A [(ureg, .inl (ct 2, 32, .inr (.inl (vp_updL g_ureg (0 : Int32).toNatClampNeg z336_1)))), (ustk, .inl (ct 1, 64, .inl g_ustk)), (mm, .inr (16, fs_mm)), (upl_, .inl (ct 1, 16, .inl g_upl_)), (upb, .inl (ct 1, 4096, .inl g_upb))] := hD
      obtain ⟨f339_2, ef339_2⟩ : ∃ z, z = (vp_updL g_ureg (0 : Int32).toNatClampNeg z336_1) := ⟨_, rfl⟩
      rw [← ef339_2] at hP hD
      refine lv_lload hx hb dX16_does_340 (lv_at hl 0 rfl) ?_
      refine lv_lconst (v := 0) hx hb dX16_does_342 (by decide) ?_
      refine W.lcmp hx hb dX16_does_343 ?_
      refine lv_topi (fun z343_1 ez343_1 => ?_)
      refine lv_if_ge (tgt := 351) hx hb dX16_does_344 (by decide) (fun c344_1 => ?_) (fun c344_1 => ?_)
      · have t344_2 := FF.mk (l_ge ez343_1 c344_1)
        have r344_3 : rl r323_1 0 9223372036854775807 := rl_leB t344_2 (show rl (0 : Int64) 0 0 from rl_l (by decide)) (rl_any r323_1) (by decide)
        refine lv_iconst (v := 0) hx hb dX16_does_351 (by decide) ?_
        exact endq_i hQ hx hb hr hlocks dX16_does_352 rfl (f339_2, g_ustk) ⟨(rg_w (show rg (0 : Int32) 0 0 from rg_l (by decide)) (by decide)), h_g_ustk⟩ hP hD hS [2, 0, 1, 3, 4] rfl (by decide) rfl (Nat.le_of_ble_eq_true rfl) (Nat.le_of_ble_eq_true rfl)
      · have t344_2 := FF.mk (l_nge ez343_1 c344_1)
        have r344_3 : rl r323_1 (-9223372036854775808) (-1) := rl_ltA t344_2 (rl_any r323_1) (show rl (0 : Int64) 0 0 from rl_l (by decide)) (by decide)
        refine lv_iconst (v := 2) hx hb dX16_does_347 (by decide) ?_
        refine lv_goto (tgt := 352) hx hb dX16_does_348 (by decide) ?_
        exact endq_i hQ hx hb hr hlocks dX16_does_352 rfl (f339_2, g_ustk) ⟨(rg_w (show rg (2 : Int32) 2 2 from rg_l (by decide)) (by decide)), h_g_ustk⟩ hP hD hS [2, 0, 1, 3, 4] rfl (by decide) rfl (Nat.le_of_ble_eq_true rfl) (Nat.le_of_ble_eq_true rfl)
    refine lv_icmp_ne (tgt := 295) hx hb dX16_does_284 (by decide) (fun c284_1 => ?_) (fun c284_1 => ?_)
    · have t284_2 := FF.mk (i_ne c284_1)
      refine lv_aload_n hx hb dX16_does_295 rfl (lv_at hl 1 rfl) ?_
      refine va_get (D := D) (ci := 16) (v := .ref ureg) (C := RX16) (T := TX16) (N := 78) hx hb (htX16 hn) (fun _ h => h) hown hK hP 0 rfl rfl 33 (by decide) (hn.get mw_1572 rfl) (fun _ h9 => h9) hf_mm_33 dX16_does_296 ?_
      refine lv_iload hx hb dX16_does_299 (lv_at hl 6 rfl) ?_
      have hi301_1 : vp_in r13_1 32 := (in_rg hp13_4 (by decide))
      refine va_lald hx hb hK hP 1 2 rfl rfl hi301_1 dX16_does_301 ?_
      refine lv_topl (fun z301_2 ez301_2 => ?_)
      refine lv_lload_n hx hb dX16_does_302 rfl (lv_at hl 2 rfl) ?_
      refine go_i (k1 := 0) (n1 := 0) (wr := [(mm, .inr (16, fs_mm)), (ureg, .inl (ct 2, 32, .inr (.inl g_ureg))), (ustk, .inl (ct 1, 64, .inl g_ustk)), (upl_, .inl (ct 1, 16, .inl g_upl_)), (upb, .inl (ct 1, 4096, .inl g_upb))]) [] [0, 1, 2, 3, 4] (rn_S (As := [.long v0]) (rest := [.long z301_2]) (c_X16_kOf l D ct v0  _) (cb_of (n := 1) hn mw_2346 mw_13 mw_2344 mhX16_kOf ⟨(Nat.le_of_ble_eq_true rfl), (Nat.le_of_ble_eq_true rfl)⟩) hx hb hml hown hn hK hSK hZ hS mw_2345 rfl hl.1 (Nat.le_of_ble_eq_true rfl) dX16_does_303 ⟨(Nat.le_of_ble_eq_true rfl), (Nat.le_of_ble_eq_true rfl)⟩) hP hD hS hA rfl rfl (by decide) (by decide) (by decide) (Nat.le_of_ble_eq_true rfl) (Nat.le_of_ble_eq_true rfl) (fun r303_1 u303_2 H locs hp303_3 hP hD hS => ?_)
      have hP : va_P D vwCl [(mm, .inr (16, fs_mm)), (ureg, .inl (ct 2, 32, .inr (.inl g_ureg))), (ustk, .inl (ct 1, 64, .inl g_ustk)), (upl_, .inl (ct 1, 16, .inl g_upl_)), (upb, .inl (ct 1, 4096, .inl g_upb))] _ := hP
      have hD : va_D A [(mm, .inr (16, fs_mm)), (ureg, .inl (ct 2, 32, .inr (.inl g_ureg))), (ustk, .inl (ct 1, 64, .inl g_ustk)), (upl_, .inl (ct 1, 16, .inl g_upl_)), (upb, .inl (ct 1, 4096, .inl g_upb))] := hD
      refine lv_i2l hx hb dX16_does_306 rfl ?_
      refine lv_topl (fun z306_1 ez306_1 => ?_)
      have r306_2 : rl z306_1 (-2147483648) 2147483647 := rl_i2l ez306_1 (rg_any r303_1)
      refine lv_ladd hx hb dX16_does_307 ?_
      refine lv_topl (fun z307_1 ez307_1 => ?_)
      exact b308 z307_1 H locs ls  (lv_sub hl [1, 3, 4] rfl) hP hD hS
    · have t284_2 := FF.mk (i_eq c284_1)
      have r284_3 : rg r280_1 5 5 := rg_eqA t284_2 hp280_4 (show rg (5 : Int32) 5 5 from rg_l (by decide)) (by decide)
      refine lv_lload_n hx hb dX16_does_287 rfl (lv_at hl 2 rfl) ?_
      refine go_i (k1 := 0) (n1 := 0) (wr := [(mm, .inr (16, fs_mm)), (ureg, .inl (ct 2, 32, .inr (.inl g_ureg))), (ustk, .inl (ct 1, 64, .inl g_ustk)), (upl_, .inl (ct 1, 16, .inl g_upl_)), (upb, .inl (ct 1, 4096, .inl g_upb))]) [] [0, 1, 2, 3, 4] (rn_S (As := [.long v0]) (rest := []) (c_X16_kOf l D ct v0  _) (cb_of (n := 1) hn mw_2346 mw_13 mw_2344 mhX16_kOf ⟨(Nat.le_of_ble_eq_true rfl), (Nat.le_of_ble_eq_true rfl)⟩) hx hb hml hown hn hK hSK hZ hS mw_2345 rfl hl.1 (Nat.le_of_ble_eq_true rfl) dX16_does_288 ⟨(Nat.le_of_ble_eq_true rfl), (Nat.le_of_ble_eq_true rfl)⟩) hP hD hS hA rfl rfl (by decide) (by decide) (by decide) (Nat.le_of_ble_eq_true rfl) (Nat.le_of_ble_eq_true rfl) (fun r288_1 u288_2 H locs hp288_3 hP hD hS => ?_)
      have hP : va_P D vwCl [(mm, .inr (16, fs_mm)), (ureg, .inl (ct 2, 32, .inr (.inl g_ureg))), (ustk, .inl (ct 1, 64, .inl g_ustk)), (upl_, .inl (ct 1, 16, .inl g_upl_)), (upb, .inl (ct 1, 4096, .inl g_upb))] _ := hP
      have hD : va_D A [(mm, .inr (16, fs_mm)), (ureg, .inl (ct 2, 32, .inr (.inl g_ureg))), (ustk, .inl (ct 1, 64, .inl g_ustk)), (upl_, .inl (ct 1, 16, .inl g_upl_)), (upb, .inl (ct 1, 4096, .inl g_upb))] := hD
      refine lv_i2l hx hb dX16_does_291 rfl ?_
      refine lv_topl (fun z291_1 ez291_1 => ?_)
      have r291_2 : rl z291_1 (-2147483648) 2147483647 := rl_i2l ez291_1 (rg_any r288_1)
      refine lv_goto (tgt := 308) hx hb dX16_does_292 (by decide) ?_
      exact b308 z291_1 H locs ls  (lv_sub hl [1, 3, 4] rfl) hP hD hS
  have b45 : ∀  (H : Heap) (locs : List Loc) (ls : Array Slot), lv_has ls 13 [(0, .ref mm), (1, .long v0), (3, .int v1), (4, .int r1_1), (5, .int r7_1), (6, .int r13_1)] → va_P D vwCl [(mm, .inr (16, fs_mm)), (ureg, .inl (ct 2, 32, .inr (.inl g_ureg))), (ustk, .inl (ct 1, 64, .inl g_ustk)), (upl_, .inl (ct 1, 16, .inl g_upl_)), (upb, .inl (ct 1, 4096, .inl g_upb))] H → va_D A [(mm, .inr (16, fs_mm)), (ureg, .inl (ct 2, 32, .inr (.inl g_ureg))), (ustk, .inl (ct 1, 64, .inl g_ustk)), (upl_, .inl (ct 1, 16, .inl g_upl_)), (upb, .inl (ct 1, 4096, .inl g_upb))] → va_S A s.heap H locs → W p l e ({ frames := 4, cells := 0, slots := 0, locals := 97 }) s m [.ref mm, .long v0, .int v1].toArray below meth c H locs 0 0 Q (F0 m 45 ls []) := by
    intro  H locs ls  hl hP hD hS
    refine lv_lload_n hx hb dX16_does_45 rfl (lv_at hl 1 rfl) ?_
    refine go_i (k1 := 0) (n1 := 0) (wr := [(mm, .inr (16, fs_mm)), (ureg, .inl (ct 2, 32, .inr (.inl g_ureg))), (ustk, .inl (ct 1, 64, .inl g_ustk)), (upl_, .inl (ct 1, 16, .inl g_upl_)), (upb, .inl (ct 1, 4096, .inl g_upb))]) [] [0, 1, 2, 3, 4] (rn_S (As := [.long v0]) (rest := []) (c_X16_kOf l D ct v0  _) (cb_of (n := 1) hn mw_2346 mw_13 mw_2344 mhX16_kOf ⟨(Nat.le_of_ble_eq_true rfl), (Nat.le_of_ble_eq_true rfl)⟩) hx hb hml hown hn hK hSK hZ hS mw_2345 rfl hl.1 (Nat.le_of_ble_eq_true rfl) dX16_does_46 ⟨(Nat.le_of_ble_eq_true rfl), (Nat.le_of_ble_eq_true rfl)⟩) hP hD hS hA rfl rfl (by decide) (by decide) (by decide) (Nat.le_of_ble_eq_true rfl) (Nat.le_of_ble_eq_true rfl) (fun r46_1 u46_2 H locs hp46_3 hP hD hS => ?_)
    have hP : va_P D vwCl [(mm, .inr (16, fs_mm)), (ureg, .inl (ct 2, 32, .inr (.inl g_ureg))), (ustk, .inl (ct 1, 64, .inl g_ustk)), (upl_, .inl (ct 1, 16, .inl g_upl_)), (upb, .inl (ct 1, 4096, .inl g_upb))] _ := hP
    have hD : va_D A [(mm, .inr (16, fs_mm)), (ureg, .inl (ct 2, 32, .inr (.inl g_ureg))), (ustk, .inl (ct 1, 64, .inl g_ustk)), (upl_, .inl (ct 1, 16, .inl g_upl_)), (upb, .inl (ct 1, 4096, .inl g_upb))] := hD
    refine lv_i2l hx hb dX16_does_49 rfl ?_
    refine lv_topl (fun z49_1 ez49_1 => ?_)
    have r49_2 : rl z49_1 (-2147483648) 2147483647 := rl_i2l ez49_1 (rg_any r46_1)
    exact b50 z49_1 H locs ls  (lv_sub hl [0, 1, 2, 3, 4, 5] rfl) hP hD hS
  refine lv_icmp_gt (tgt := 45) hx hb dX16_does_24 (by decide) (fun c24_1 => ?_) (fun c24_1 => ?_)
  · have t24_2 := FF.mk (i_lt c24_1)
    have r24_3 : rg r20_1 2 6 := rg_ltB t24_2 (show rg (1 : Int32) 1 1 from rg_l (by decide)) hp20_4 (by decide)
    exact b45  H locs ls  (lv_sub hl [3, 4, 5, 2, 1, 0] rfl) hP hD hS
  · have t24_2 := FF.mk (i_nlt c24_1)
    have r24_3 : rg r20_1 (-1) 1 := rg_leA t24_2 hp20_4 (show rg (1 : Int32) 1 1 from rg_l (by decide)) (by decide)
    refine lv_iload hx hb dX16_does_27 (lv_at hl 2 rfl) ?_
    refine go_i (k1 := 0) (n1 := 0) (wr := [(mm, .inr (16, fs_mm)), (ureg, .inl (ct 2, 32, .inr (.inl g_ureg))), (ustk, .inl (ct 1, 64, .inl g_ustk)), (upl_, .inl (ct 1, 16, .inl g_upl_)), (upb, .inl (ct 1, 4096, .inl g_upb))]) [] [0, 1, 2, 3, 4] (rn_S (As := [.int r1_1]) (rest := []) (c_X16_bySource l D ct r1_1  _) (cb_of (n := 1) hn mw_2340 mw_13 mw_2338 mhX16_bySource ⟨(Nat.le_of_ble_eq_true rfl), (Nat.le_of_ble_eq_true rfl)⟩) hx hb hml hown hn hK hSK hZ hS mw_2339 rfl hl.1 (Nat.le_of_ble_eq_true rfl) dX16_does_29 ⟨(Nat.le_of_ble_eq_true rfl), (Nat.le_of_ble_eq_true rfl)⟩) hP hD hS hA rfl rfl (by decide) (by decide) (by decide) (Nat.le_of_ble_eq_true rfl) (Nat.le_of_ble_eq_true rfl) (fun r29_1 u29_2 H locs hp29_3 hP hD hS => ?_)
    have hp29_4 := hp29_3
    have hp29_4 : rg r29_1 0 1 := hp29_4
    have hP : va_P D vwCl [(mm, .inr (16, fs_mm)), (ureg, .inl (ct 2, 32, .inr (.inl g_ureg))), (ustk, .inl (ct 1, 64, .inl g_ustk)), (upl_, .inl (ct 1, 16, .inl g_upl_)), (upb, .inl (ct 1, 4096, .inl g_upb))] _ := hP
    have hD : va_D A [(mm, .inr (16, fs_mm)), (ureg, .inl (ct 2, 32, .inr (.inl g_ureg))), (ustk, .inl (ct 1, 64, .inl g_ustk)), (upl_, .inl (ct 1, 16, .inl g_upl_)), (upb, .inl (ct 1, 4096, .inl g_upb))] := hD
    refine lv_if_eq (tgt := 45) hx hb dX16_does_32 (by decide) (fun c32_1 => ?_) (fun c32_1 => ?_)
    · have t32_2 := FF.mk (i_eq c32_1)
      have r32_3 : rg r29_1 0 0 := rg_eqA t32_2 hp29_4 (show rg (0 : Int32) 0 0 from rg_l (by decide)) (by decide)
      exact b45  H locs ls  (lv_sub hl [3, 4, 5, 2, 1, 0] rfl) hP hD hS
    · have t32_2 := FF.mk (i_ne c32_1)
      have r32_3 : rg r29_1 1 1 := rg_neAl t32_2 hp29_4 (show rg (0 : Int32) 0 0 from rg_l (by decide)) (by decide)
      refine lv_aload_n hx hb dX16_does_35 rfl (lv_at hl 3 rfl) ?_
      refine va_get (D := D) (ci := 16) (v := .ref ureg) (C := RX16) (T := TX16) (N := 78) hx hb (htX16 hn) (fun _ h => h) hown hK hP 0 rfl rfl 33 (by decide) (hn.get mw_1572 rfl) (fun _ h9 => h9) hf_mm_33 dX16_does_36 ?_
      refine lv_iload hx hb dX16_does_39 (lv_at hl 0 rfl) ?_
      have hi41_1 : vp_in r13_1 32 := (in_rg hp13_4 (by decide))
      refine va_lald hx hb hK hP 1 2 rfl rfl hi41_1 dX16_does_41 ?_
      refine lv_topl (fun z41_2 ez41_2 => ?_)
      refine lv_goto (tgt := 50) hx hb dX16_does_42 (by decide) ?_
      exact b50 z41_2 H locs ls  (lv_sub hl [3, 4, 5, 2, 1, 0] rfl) hP hD hS
set_option maxHeartbeats 2000000 in
theorem c_X16_run (l : Launch) (D : va_G) (ct : Nat → ClassId) (mm : Nat) (v0 : Int32) (fs_mm : List Value) (upb : Nat) (upl_ : Nat) (x_mm_4 : Int32) (upg : Nat) (x_mm_27 : Int32) (ureg : Nat) (ustk : Nat) (x_mm_35 : Int32) (x_mm_36 : Int32) (x_mm_37 : Int32) (x_mm_38 : Int32) (g_upg : Nat → Int64) (PL : Nat) (g_ureg : Nat → Int64) (g_ustk : Nat → Int32) (g_upl_ : Nat → Int32) (g_upb : Nat → Int32) (hlen_mm : fs_mm.length = 78) (hf_mm_2 : fs_mm[2]? = some (.ref upb)) (hf_mm_3 : fs_mm[3]? = some (.ref upl_)) (h_x_mm_4 : rg x_mm_4 0 16) (hf_mm_4 : fs_mm[4]? = some (.int x_mm_4)) (hf_mm_26 : fs_mm[26]? = some (.ref upg)) (h_x_mm_27 : rg x_mm_27 0 1) (hf_mm_27 : fs_mm[27]? = some (.int x_mm_27)) (hf_mm_33 : fs_mm[33]? = some (.ref ureg)) (hf_mm_34 : fs_mm[34]? = some (.ref ustk)) (h_x_mm_35 : rg x_mm_35 0 9) (hf_mm_35 : fs_mm[35]? = some (.int x_mm_35)) (h_x_mm_36 : rg x_mm_36 0 100000) (hf_mm_36 : fs_mm[36]? = some (.int x_mm_36)) (hf_mm_37 : fs_mm[37]? = some (.int x_mm_37)) (h_x_mm_38 : rg x_mm_38 0 1) (hf_mm_38 : fs_mm[38]? = some (.int x_mm_38)) (h_g_ustk : Rg g_ustk 64 0 255) (h_g_upl_ : Rg g_upl_ 16 0 256) (h_g_upb : Rg g_upb 4096 0 255) (hq0 : ((PL : Nat) : Int) ≤ 4000) (hq1 : x_mm_27.toInt = 1 → 1 ≤ ((PL : Nat) : Int)) : KL (S := List Value × Int32 × Int32 × Int32 × Int32 × (Nat → Int64) × (Nat → Int32)) l yX16_run cX16_run 6 (some .long) 5 129 D ct [.ref mm, .int v0] [(mm, .inr (16, fs_mm)), (upg, .inl (ct 2, PL, .inr (.inl g_upg))), (ureg, .inl (ct 2, 32, .inr (.inl g_ureg))), (ustk, .inl (ct 1, 64, .inl g_ustk)), (upl_, .inl (ct 1, 16, .inl g_upl_)), (upb, .inl (ct 1, 4096, .inl g_upb))] 0 0 (fun (r : Int64) (u : List Value × Int32 × Int32 × Int32 × Int32 × (Nat → Int64) × (Nat → Int32)) => match u with | (fs2_mm, y_mm_35, y_mm_36, y_mm_37, y_mm_38, k_ureg, k_ustk) => SB fs_mm fs2_mm [35, 36, 37, 38] ∧ rg y_mm_35 0 9 ∧ fs2_mm[35]? = some (.int y_mm_35) ∧ rg y_mm_36 0 100000 ∧ fs2_mm[36]? = some (.int y_mm_36) ∧ fs2_mm[37]? = some (.int y_mm_37) ∧ rg y_mm_38 0 1 ∧ fs2_mm[38]? = some (.int y_mm_38) ∧ Rg k_ustk 64 0 255) (fun (u : List Value × Int32 × Int32 × Int32 × Int32 × (Nat → Int64) × (Nat → Int32)) => match u with | (fs2_mm, y_mm_35, y_mm_36, y_mm_37, y_mm_38, k_ureg, k_ustk) => [(mm, .inr (16, fs2_mm)), (upg, .inl (ct 2, PL, .inr (.inl g_upg))), (ureg, .inl (ct 2, 32, .inr (.inl k_ureg))), (ustk, .inl (ct 1, 64, .inl k_ustk)), (upl_, .inl (ct 1, 16, .inl g_upl_)), (upb, .inl (ct 1, 4096, .inl g_upb))]) := by
  refine KLq_of (by decide) (Nat.le_of_ble_eq_true rfl) (fun p e s m below meth c A Q C0 hA H locs hS hP hD hQ ls hl => ?_)
  obtain ⟨hx, hb, hr, hown, hin, hml, hlocks, hn, hK, hZ, hSK⟩ := C0
  have hl : lv_has ls 6 [(0, .ref mm), (1, .int v0)] := hl
  replace hq0 := FF.mk hq0
  replace hq1 := FF.mk hq1
  refine lv_aload_n hx hb dX16_run_0 rfl (lv_at hl 0 rfl) ?_
  refine va_get (D := D) (ci := 16) (v := .int x_mm_27) (C := RX16) (T := TX16) (N := 78) hx hb (htX16 hn) (fun _ h => h) hown hK hP 0 rfl rfl 27 (by decide) (hn.get mw_1566 rfl) (fun _ h9 => h9) hf_mm_27 dX16_run_1 ?_
  refine lv_if_eq (tgt := 15) hx hb dX16_run_4 (by decide) (fun c4_1 => ?_) (fun c4_1 => ?_)
  · have t4_2 := FF.mk (i_eq c4_1)
    have r4_3 : rg x_mm_27 0 0 := rg_eqA t4_2 h_x_mm_27 (show rg (0 : Int32) 0 0 from rg_l (by decide)) (by decide)
    refine lv_lconst (v := 0) hx hb dX16_run_15 (by decide) ?_
    exact endq_l hQ hx hb hr hlocks dX16_run_16 (fs_mm, x_mm_35, x_mm_36, x_mm_37, x_mm_38, g_ureg, g_ustk) ⟨(SB.rf _ _), h_x_mm_35, hf_mm_35, h_x_mm_36, hf_mm_36, hf_mm_37, h_x_mm_38, hf_mm_38, h_g_ustk⟩ hP hD hS [0, 1, 2, 3, 4, 5] rfl (by decide) rfl (Nat.le_of_ble_eq_true rfl) (Nat.le_of_ble_eq_true rfl)
  · have t4_2 := FF.mk (i_ne c4_1)
    have r4_3 : rg x_mm_27 1 1 := rg_neAl t4_2 h_x_mm_27 (show rg (0 : Int32) 0 0 from rg_l (by decide)) (by decide)
    refine lv_aload_n hx hb dX16_run_7 rfl (lv_at hl 0 rfl) ?_
    refine lv_iload_n hx hb dX16_run_8 rfl (lv_at hl 1 rfl) ?_
    refine go_i (k1 := 0) (n1 := 0) (wr := [(upg, .inl (ct 2, PL, .inr (.inl g_upg))), (ureg, .inl (ct 2, 32, .inr (.inl g_ureg))), (ustk, .inl (ct 1, 64, .inl g_ustk)), (upl_, .inl (ct 1, 16, .inl g_upl_)), (upb, .inl (ct 1, 4096, .inl g_upb))]) [0] [1, 2, 3, 4, 5] (rn_V (As := [.int v0]) (rest := []) (c_X16_isPacket l D ct mm v0 fs_mm x_mm_4 hlen_mm h_x_mm_4 hf_mm_4 _) (cb_of (n := 1) hn mw_1797 mw_13 mw_1794 mhX16_isPacket ⟨(Nat.le_of_ble_eq_true rfl), (Nat.le_of_ble_eq_true rfl)⟩) hx hb hml hown hn hK hSK hZ hS mw_1796 mw_s170 (ci := 16) (q0 := 0) rfl rfl rfl rfl hl.1 (Nat.le_of_ble_eq_true rfl) dX16_run_9 ⟨(Nat.le_of_ble_eq_true rfl), (Nat.le_of_ble_eq_true rfl)⟩) hP hD hS hA rfl rfl (by decide) (by decide) (by decide) (Nat.le_of_ble_eq_true rfl) (Nat.le_of_ble_eq_true rfl) (fun r9_1 u9_2 H locs hp9_3 hP hD hS => ?_)
    obtain ⟨hp9_4, hp9_5, hp9_6⟩ := hp9_3
    have hp9_4 : rg r9_1 0 1 := hp9_4
    replace hp9_5 : FF (r9_1.toInt = 1 → 0 ≤ v0.toInt ∧ v0.toInt < x_mm_4.toInt) := hp9_5
    replace hp9_6 : FF (r9_1.toInt = 0 → v0.toInt < 0 ∨ x_mm_4.toInt ≤ v0.toInt) := hp9_6
    have hP : va_P D vwCl [(upg, .inl (ct 2, PL, .inr (.inl g_upg))), (ureg, .inl (ct 2, 32, .inr (.inl g_ureg))), (ustk, .inl (ct 1, 64, .inl g_ustk)), (upl_, .inl (ct 1, 16, .inl g_upl_)), (upb, .inl (ct 1, 4096, .inl g_upb)), (mm, .inr (16, fs_mm))] _ := hP
    have hD : va_D A [(upg, .inl (ct 2, PL, .inr (.inl g_upg))), (ureg, .inl (ct 2, 32, .inr (.inl g_ureg))), (ustk, .inl (ct 1, 64, .inl g_ustk)), (upl_, .inl (ct 1, 16, .inl g_upl_)), (upb, .inl (ct 1, 4096, .inl g_upb)), (mm, .inr (16, fs_mm))] := hD
    refine lv_if_ne (tgt := 17) hx hb dX16_run_12 (by decide) (fun c12_1 => ?_) (fun c12_1 => ?_)
    · have t12_2 := FF.mk (i_ne c12_1)
      have r12_3 : rg r9_1 1 1 := rg_neAl t12_2 hp9_4 (show rg (0 : Int32) 0 0 from rg_l (by decide)) (by decide)
      refine lv_aload_n hx hb dX16_run_17 rfl (lv_at hl 0 rfl) ?_
      refine go_v (k1 := 0) (n1 := 0) (wr := [(upg, .inl (ct 2, PL, .inr (.inl g_upg))), (upl_, .inl (ct 1, 16, .inl g_upl_)), (upb, .inl (ct 1, 4096, .inl g_upb))]) [5, 1, 2] [0, 3, 4] (rn_V (As := []) (rest := []) (c_X16_begins l D ct mm fs_mm ureg ustk g_ureg g_ustk hlen_mm hf_mm_33 hf_mm_34 h_g_ustk _) (cb_of (n := 0) hn mw_2315 mw_13 mw_2312 mhX16_begins ⟨(Nat.le_of_ble_eq_true rfl), (Nat.le_of_ble_eq_true rfl)⟩) hx hb hml hown hn hK hSK hZ hS mw_2314 mw_s222 (ci := 16) (q0 := 0) rfl rfl rfl rfl hl.1 (Nat.le_of_ble_eq_true rfl) dX16_run_18 ⟨(Nat.le_of_ble_eq_true rfl), (Nat.le_of_ble_eq_true rfl)⟩) hP hD hS hA rfl rfl (by decide) (by decide) (by decide) (Nat.le_of_ble_eq_true rfl) (Nat.le_of_ble_eq_true rfl) (fun u18_2 H locs hp18_3 hP hD hS => ?_)
      obtain ⟨fs2_mm18_4, k_ureg18_5, k_ustk18_6⟩ := u18_2
      obtain ⟨hp18_7, hp18_8, hp18_9, hp18_10, hp18_11⟩ := hp18_3
      have hs18_12 : SB fs_mm fs2_mm18_4 [35, 36, 37, 38] := SB.trans (SB.rf _ _) hp18_7 (by decide)
      have hf18_13 : fs2_mm18_4[38]? = some (.int x_mm_38) := SB.get hp18_7 (by decide) hf_mm_38
      have hP : va_P D vwCl [(upg, .inl (ct 2, PL, .inr (.inl g_upg))), (upl_, .inl (ct 1, 16, .inl g_upl_)), (upb, .inl (ct 1, 4096, .inl g_upb)), (mm, .inr (16, fs2_mm18_4)), (ureg, .inl (ct 2, 32, .inr (.inl k_ureg18_5))), (ustk, .inl (ct 1, 64, .inl k_ustk18_6))] _ := hP
      have hD : va_D A [(upg, .inl (ct 2, PL, .inr (.inl g_upg))), (upl_, .inl (ct 1, 16, .inl g_upl_)), (upb, .inl (ct 1, 4096, .inl g_upb)), (mm, .inr (16, fs2_mm18_4)), (ureg, .inl (ct 2, 32, .inr (.inl k_ureg18_5))), (ustk, .inl (ct 1, 64, .inl k_ustk18_6))] := hD
      refine lv_aload_n hx hb dX16_run_21 rfl (lv_at hl 0 rfl) ?_
      refine lv_iconst (v := 0) hx hb dX16_run_22 (by decide) ?_
      refine va_put (D := D) (ci := 16) (v := .int 0) (ty := .boolean) (C := RX16) (T := TX16) (N := 78) hx hb (htX16 hn) (fun _ h => h) tyX16 tyX16_ok nmX16 hown hK hP hD hS 3 rfl rfl 38 (by decide) (hn.get mw_1577 rfl) (fun _ h9 => h9) rfl (by decide +kernel) (by decide) rfl (by rw [hs18_12.1, hlen_mm]; decide) dX16_run_23 (fun H locs hP hD hS => ?_)
      have hP : va_P D vwCl [(upg, .inl (ct 2, PL, .inr (.inl g_upg))), (upl_, .inl (ct 1, 16, .inl g_upl_)), (upb, .inl (ct 1, 4096, .inl g_upb)), (mm, .inr (16, (fs2_mm18_4.set 38 (.int 0)))), (ureg, .inl (ct 2, 32, .inr (.inl k_ureg18_5))), (ustk, .inl (ct 1, 64, .inl k_ustk18_6))] _ := hP
      have hD : va_D A [(upg, .inl (ct 2, PL, .inr (.inl g_upg))), (upl_, .inl (ct 1, 16, .inl g_upl_)), (upb, .inl (ct 1, 4096, .inl g_upb)), (mm, .inr (16, (fs2_mm18_4.set 38 (.int 0)))), (ureg, .inl (ct 2, 32, .inr (.inl k_ureg18_5))), (ustk, .inl (ct 1, 64, .inl k_ustk18_6))] := hD
      obtain ⟨m23_1, em23_1⟩ : ∃ z, z = (fs2_mm18_4.set 38 (.int 0)) := ⟨_, rfl⟩
      rw [← em23_1] at hP hD
      have hsm23_1 : SB fs_mm m23_1 [35, 36, 37, 38] := by rw [em23_1]; exact SB.set hs18_12 (by decide)
      have hfm23_1_35 : m23_1[35]? = some (.int 0) := by rw [em23_1]; exact fs_ne (by decide) hp18_8
      have hfm23_1_36 : m23_1[36]? = some (.int 0) := by rw [em23_1]; exact fs_ne (by decide) hp18_9
      have hfm23_1_37 : m23_1[37]? = some (.int 0) := by rw [em23_1]; exact fs_ne (by decide) hp18_10
      have hfm23_1_38 : m23_1[38]? = some (.int 0) := by rw [em23_1]; exact fs_eq (by rw [hs18_12.1, hlen_mm]; decide)
      have hP : va_P D vwCl [(upg, .inl (ct 2, PL, .inr (.inl g_upg))), (upl_, .inl (ct 1, 16, .inl g_upl_)), (upb, .inl (ct 1, 4096, .inl g_upb)), (mm, .inr (16, m23_1)), (ureg, .inl (ct 2, 32, .inr (.inl k_ureg18_5))), (ustk, .inl (ct 1, 64, .inl k_ustk18_6))] _ := hP
      have hD : va_D A [(upg, .inl (ct 2, PL, .inr (.inl g_upg))), (upl_, .inl (ct 1, 16, .inl g_upl_)), (upb, .inl (ct 1, 4096, .inl g_upb)), (mm, .inr (16, m23_1)), (ureg, .inl (ct 2, 32, .inr (.inl k_ureg18_5))), (ustk, .inl (ct 1, 64, .inl k_ustk18_6))] := hD
      refine lv_aload_n hx hb dX16_run_26 rfl (lv_at hl 0 rfl) ?_
      refine va_get (D := D) (ci := 16) (v := .ref ureg) (C := RX16) (T := TX16) (N := 78) hx hb (htX16 hn) (fun _ h => h) hown hK hP 3 rfl rfl 33 (by decide) (hn.get mw_1572 rfl) (fun _ h9 => h9) (SB.get hsm23_1 (by decide) hf_mm_33) dX16_run_27 ?_
      refine lv_iconst (v := 1) hx hb dX16_run_30 (by decide) ?_
      refine lv_aload_n hx hb dX16_run_31 rfl (lv_at hl 0 rfl) ?_
      refine va_get (D := D) (ci := 16) (v := .ref upl_) (C := RX16) (T := TX16) (N := 78) hx hb (htX16 hn) (fun _ h => h) hown hK hP 3 rfl rfl 3 (by decide) (hn.get mw_1542 rfl) (fun _ h9 => h9) (SB.get hsm23_1 (by decide) hf_mm_3) dX16_run_32 ?_
      refine lv_iload_n hx hb dX16_run_35 rfl (lv_at hl 1 rfl) ?_
      have hi36_1 : vp_in v0 16 := (in_of (show 0 ≤ v0.toInt ∧ v0.toInt < 16 by have q0 := h_x_mm_4.2; have q1 := r12_3.1; have q2 := r12_3.2; have q3 := FF.out hp9_5; omega))
      refine va_iald hx hb hK hP 1 1 rfl rfl hi36_1 dX16_run_36 ?_
      refine lv_topi (fun z36_2 ez36_2 => ?_)
      have r36_3 : rg z36_2 0 256 := Rg_at h_g_upl_ hi36_1 ez36_2
      refine lv_i2l hx hb dX16_run_37 rfl ?_
      refine lv_topl (fun z37_1 ez37_1 => ?_)
      have r37_2 : rl z37_1 0 256 := rl_i2l ez37_1 r36_3
      have hi38_1 : vp_in (1 : Int32) 32 := (vp_in_iff.mpr (by decide))
      refine va_last hx hb hK hP hD hS 4 2 rfl rfl hi38_1 dX16_run_38 (fun H locs hP hD hS => ?_)
      have hP : va_P D vwCl [(upg, .inl (ct 2, PL, .inr (.inl g_upg))), (upl_, .inl (ct 1, 16, .inl g_upl_)), (upb, .inl (ct 1, 4096, .inl g_upb)), (mm, .inr (16, m23_1)), (ureg, .inl (ct 2, 32, .inr (.inl (vp_updL k_ureg18_5 (1 : Int32).toNatClampNeg z37_1)))), (ustk, .inl (ct 1, 64, .inl k_ustk18_6))] _ := hP
      have hD : va_D A [(upg, .inl (ct 2, PL, .inr (.inl g_upg))), (upl_, .inl (ct 1, 16, .inl g_upl_)), (upb, .inl (ct 1, 4096, .inl g_upb)), (mm, .inr (16, m23_1)), (ureg, .inl (ct 2, 32, .inr (.inl (vp_updL k_ureg18_5 (1 : Int32).toNatClampNeg z37_1)))), (ustk, .inl (ct 1, 64, .inl k_ustk18_6))] := hD
      obtain ⟨f38_2, ef38_2⟩ : ∃ z, z = (vp_updL k_ureg18_5 (1 : Int32).toNatClampNeg z37_1) := ⟨_, rfl⟩
      rw [← ef38_2] at hP hD
      refine lv_aload_n hx hb dX16_run_39 rfl (lv_at hl 0 rfl) ?_
      refine va_get (D := D) (ci := 16) (v := .ref ureg) (C := RX16) (T := TX16) (N := 78) hx hb (htX16 hn) (fun _ h => h) hown hK hP 3 rfl rfl 33 (by decide) (hn.get mw_1572 rfl) (fun _ h9 => h9) (SB.get hsm23_1 (by decide) hf_mm_33) dX16_run_40 ?_
      refine lv_bipush (v := 10) hx hb dX16_run_43 (by decide) ?_
      refine lv_ldc2 (v := 131136) hx hb hown (hn.get mw_2316 rfl) dX16_run_45 ?_
      have hi48_1 : vp_in (10 : Int32) 32 := (vp_in_iff.mpr (by decide))
      refine va_last hx hb hK hP hD hS 4 2 rfl rfl hi48_1 dX16_run_48 (fun H locs hP hD hS => ?_)
      have hP : va_P D vwCl [(upg, .inl (ct 2, PL, .inr (.inl g_upg))), (upl_, .inl (ct 1, 16, .inl g_upl_)), (upb, .inl (ct 1, 4096, .inl g_upb)), (mm, .inr (16, m23_1)), (ureg, .inl (ct 2, 32, .inr (.inl (vp_updL f38_2 (10 : Int32).toNatClampNeg 131136)))), (ustk, .inl (ct 1, 64, .inl k_ustk18_6))] _ := hP
      have hD : va_D A [(upg, .inl (ct 2, PL, .inr (.inl g_upg))), (upl_, .inl (ct 1, 16, .inl g_upl_)), (upb, .inl (ct 1, 4096, .inl g_upb)), (mm, .inr (16, m23_1)), (ureg, .inl (ct 2, 32, .inr (.inl (vp_updL f38_2 (10 : Int32).toNatClampNeg 131136)))), (ustk, .inl (ct 1, 64, .inl k_ustk18_6))] := hD
      obtain ⟨f48_2, ef48_2⟩ : ∃ z, z = (vp_updL f38_2 (10 : Int32).toNatClampNeg 131136) := ⟨_, rfl⟩
      rw [← ef48_2] at hP hD
      refine lv_iconst (v := 0) hx hb dX16_run_49 (by decide) ?_
      refine lv_istore_n (lv' := [(2, .int 0), (0, .ref mm), (1, .int v0)]) hx hb dX16_run_50 rfl hl (by decide) rfl (fun ls hl => ?_)
      refine lv_iconst (v := 1) hx hb dX16_run_51 (by decide) ?_
      refine lv_istore_n (lv' := [(3, .int 1), (2, .int 0), (0, .ref mm), (1, .int v0)]) hx hb dX16_run_52 rfl hl (by decide) rfl (fun ls hl => ?_)
      have b53 : ∀ (n : Nat) (j53_l2 : Int32) (j53_l3 : Int32) (j53_amm : List Value) (j53_fmm_36 : Int32) (j53_fmm_37 : Int32) (j53_cureg : Nat → Int64) (j53_custk : Nat → Int32) (H : Heap) (locs : List Loc) (ls : Array Slot), (rg j53_l3 0 1) → (SB fs_mm j53_amm [35, 36, 37, 38]) → (j53_amm[35]? = some (.int 0)) → (rg j53_fmm_36 0 10000) → (j53_amm[36]? = some (.int j53_fmm_36)) → (j53_amm[37]? = some (.int j53_fmm_37)) → (j53_amm[38]? = some (.int 0)) → (Rg j53_custk 64 0 255) → (FF (j53_l3.toInt = 1 → 0 ≤ j53_l2.toInt ∧ j53_l2.toInt < ((PL : Nat) : Int))) → ((10001 : Int) - j53_fmm_36.toInt).toNat < n → lv_has ls 6 [(0, .ref mm), (1, .int v0), (2, .int j53_l2), (3, .int j53_l3)] → va_P D vwCl [(upg, .inl (ct 2, PL, .inr (.inl g_upg))), (upl_, .inl (ct 1, 16, .inl g_upl_)), (upb, .inl (ct 1, 4096, .inl g_upb)), (mm, .inr (16, j53_amm)), (ureg, .inl (ct 2, 32, .inr (.inl j53_cureg))), (ustk, .inl (ct 1, 64, .inl j53_custk))] H → va_D A [(upg, .inl (ct 2, PL, .inr (.inl g_upg))), (upl_, .inl (ct 1, 16, .inl g_upl_)), (upb, .inl (ct 1, 4096, .inl g_upb)), (mm, .inr (16, j53_amm)), (ureg, .inl (ct 2, 32, .inr (.inl j53_cureg))), (ustk, .inl (ct 1, 64, .inl j53_custk))] → va_S A s.heap H locs → W p l e ({ frames := 5, cells := 0, slots := 0, locals := 129 }) s m [.ref mm, .int v0].toArray below meth c H locs 0 0 Q (F0 m 53 ls []) := by
        intro n
        induction n with
        | zero => intros; rename_i hms _ _ _ _; exact absurd hms (Nat.not_lt_zero _)
        | succ n ih =>
          intro j53_l2 j53_l3 j53_amm j53_fmm_36 j53_fmm_37 j53_cureg j53_custk H locs ls r53_1001 hs53_1002 hf53_1003 r53_1004 hf53_1005 hf53_1006 hf53_1007 hc53_1008 hi53_1009 hms hl hP hD hS
          refine lv_iload_n hx hb dX16_run_53 rfl (lv_at hl 3 rfl) ?_
          refine lv_if_eq (tgt := 217) hx hb dX16_run_54 (by decide) (fun c54_1 => ?_) (fun c54_1 => ?_)
          · have t54_2 := FF.mk (i_eq c54_1)
            have r54_3 : rg j53_l3 0 0 := rg_eqA t54_2 r53_1001 (show rg (0 : Int32) 0 0 from rg_l (by decide)) (by decide)
            refine lv_aload_n hx hb dX16_run_217 rfl (lv_at hl 0 rfl) ?_
            refine va_get (D := D) (ci := 16) (v := .ref ureg) (C := RX16) (T := TX16) (N := 78) hx hb (htX16 hn) (fun _ h => h) hown hK hP 3 rfl rfl 33 (by decide) (hn.get mw_1572 rfl) (fun _ h9 => h9) (SB.get hs53_1002 (by decide) hf_mm_33) dX16_run_218 ?_
            refine lv_iconst (v := 0) hx hb dX16_run_221 (by decide) ?_
            have hi222_1 : vp_in (0 : Int32) 32 := (vp_in_iff.mpr (by decide))
            refine va_lald hx hb hK hP 4 2 rfl rfl hi222_1 dX16_run_222 ?_
            refine lv_topl (fun z222_2 ez222_2 => ?_)
            exact endq_l hQ hx hb hr hlocks dX16_run_223 (j53_amm, (0 : Int32), j53_fmm_36, j53_fmm_37, (0 : Int32), j53_cureg, j53_custk) ⟨hs53_1002, (rg_w (show rg (0 : Int32) 0 0 from rg_l (by decide)) (by decide)), hf53_1003, (rg_w r53_1004 (by decide)), hf53_1005, hf53_1006, (rg_w (show rg (0 : Int32) 0 0 from rg_l (by decide)) (by decide)), hf53_1007, hc53_1008⟩ hP hD hS [3, 0, 4, 5, 1, 2] rfl (by decide) rfl (Nat.le_of_ble_eq_true rfl) (Nat.le_of_ble_eq_true rfl)
          · have t54_2 := FF.mk (i_ne c54_1)
            have r54_3 : rg j53_l3 1 1 := rg_neAl t54_2 r53_1001 (show rg (0 : Int32) 0 0 from rg_l (by decide)) (by decide)
            refine lv_aload_n hx hb dX16_run_57 rfl (lv_at hl 0 rfl) ?_
            refine lv_iload_n hx hb dX16_run_58 rfl (lv_at hl 2 rfl) ?_
            refine va_put (D := D) (ci := 16) (v := .int j53_l2) (ty := .int) (C := RX16) (T := TX16) (N := 78) hx hb (htX16 hn) (fun _ h => h) tyX16 tyX16_ok nmX16 hown hK hP hD hS 3 rfl rfl 37 (by decide) (hn.get mw_1576 rfl) (fun _ h9 => h9) rfl (by decide +kernel) rfl rfl (by rw [hs53_1002.1, hlen_mm]; decide) dX16_run_59 (fun H locs hP hD hS => ?_)
            have hP : va_P D vwCl [(upg, .inl (ct 2, PL, .inr (.inl g_upg))), (upl_, .inl (ct 1, 16, .inl g_upl_)), (upb, .inl (ct 1, 4096, .inl g_upb)), (mm, .inr (16, (j53_amm.set 37 (.int j53_l2)))), (ureg, .inl (ct 2, 32, .inr (.inl j53_cureg))), (ustk, .inl (ct 1, 64, .inl j53_custk))] _ := hP
            have hD : va_D A [(upg, .inl (ct 2, PL, .inr (.inl g_upg))), (upl_, .inl (ct 1, 16, .inl g_upl_)), (upb, .inl (ct 1, 4096, .inl g_upb)), (mm, .inr (16, (j53_amm.set 37 (.int j53_l2)))), (ureg, .inl (ct 2, 32, .inr (.inl j53_cureg))), (ustk, .inl (ct 1, 64, .inl j53_custk))] := hD
            obtain ⟨m59_1, em59_1⟩ : ∃ z, z = (j53_amm.set 37 (.int j53_l2)) := ⟨_, rfl⟩
            rw [← em59_1] at hP hD
            have hsm59_1 : SB fs_mm m59_1 [35, 36, 37, 38] := by rw [em59_1]; exact SB.set hs53_1002 (by decide)
            have hfm59_1_35 : m59_1[35]? = some (.int 0) := by rw [em59_1]; exact fs_ne (by decide) hf53_1003
            have hfm59_1_36 : m59_1[36]? = some (.int j53_fmm_36) := by rw [em59_1]; exact fs_ne (by decide) hf53_1005
            have hfm59_1_38 : m59_1[38]? = some (.int 0) := by rw [em59_1]; exact fs_ne (by decide) hf53_1007
            have hfm59_1_37 : m59_1[37]? = some (.int j53_l2) := by rw [em59_1]; exact fs_eq (by rw [hs53_1002.1, hlen_mm]; decide)
            have hP : va_P D vwCl [(upg, .inl (ct 2, PL, .inr (.inl g_upg))), (upl_, .inl (ct 1, 16, .inl g_upl_)), (upb, .inl (ct 1, 4096, .inl g_upb)), (mm, .inr (16, m59_1)), (ureg, .inl (ct 2, 32, .inr (.inl j53_cureg))), (ustk, .inl (ct 1, 64, .inl j53_custk))] _ := hP
            have hD : va_D A [(upg, .inl (ct 2, PL, .inr (.inl g_upg))), (upl_, .inl (ct 1, 16, .inl g_upl_)), (upb, .inl (ct 1, 4096, .inl g_upb)), (mm, .inr (16, m59_1)), (ureg, .inl (ct 2, 32, .inr (.inl j53_cureg))), (ustk, .inl (ct 1, 64, .inl j53_custk))] := hD
            refine lv_aload_n hx hb dX16_run_62 rfl (lv_at hl 0 rfl) ?_
            refine va_get (D := D) (ci := 16) (v := .int j53_fmm_36) (C := RX16) (T := TX16) (N := 78) hx hb (htX16 hn) (fun _ h => h) hown hK hP 3 rfl rfl 36 (by decide) (hn.get mw_1575 rfl) (fun _ h9 => h9) hfm59_1_36 dX16_run_63 ?_
            refine lv_sipush (v := 10000) hx hb dX16_run_66 (by decide) ?_
            have b84 : ∀  (H : Heap) (locs : List Loc) (ls : Array Slot), lv_has ls 6 [(0, .ref mm)] → va_P D vwCl [(upg, .inl (ct 2, PL, .inr (.inl g_upg))), (upl_, .inl (ct 1, 16, .inl g_upl_)), (upb, .inl (ct 1, 4096, .inl g_upb)), (mm, .inr (16, m59_1)), (ureg, .inl (ct 2, 32, .inr (.inl j53_cureg))), (ustk, .inl (ct 1, 64, .inl j53_custk))] H → va_D A [(upg, .inl (ct 2, PL, .inr (.inl g_upg))), (upl_, .inl (ct 1, 16, .inl g_upl_)), (upb, .inl (ct 1, 4096, .inl g_upb)), (mm, .inr (16, m59_1)), (ureg, .inl (ct 2, 32, .inr (.inl j53_cureg))), (ustk, .inl (ct 1, 64, .inl j53_custk))] → va_S A s.heap H locs → W p l e ({ frames := 5, cells := 0, slots := 0, locals := 129 }) s m [.ref mm, .int v0].toArray below meth c H locs 0 0 Q (F0 m 84 ls []) := by
              intro  H locs ls  hl hP hD hS
              refine lv_aload_n hx hb dX16_run_84 rfl (lv_at hl 0 rfl) ?_
              refine lv_aload_n hx hb dX16_run_85 rfl (lv_at hl 0 rfl) ?_
              refine va_get (D := D) (ci := 16) (v := .int j53_fmm_36) (C := RX16) (T := TX16) (N := 78) hx hb (htX16 hn) (fun _ h => h) hown hK hP 3 rfl rfl 36 (by decide) (hn.get mw_1575 rfl) (fun _ h9 => h9) hfm59_1_36 dX16_run_86 ?_
              refine lv_sipush (v := 10000) hx hb dX16_run_89 (by decide) ?_
              have b101 : ∀ (j101_s0 : Int32) (H : Heap) (locs : List Loc) (ls : Array Slot), (rg j101_s0 1 9) → lv_has ls 6 [] → va_P D vwCl [(upg, .inl (ct 2, PL, .inr (.inl g_upg))), (upl_, .inl (ct 1, 16, .inl g_upl_)), (upb, .inl (ct 1, 4096, .inl g_upb)), (mm, .inr (16, m59_1)), (ureg, .inl (ct 2, 32, .inr (.inl j53_cureg))), (ustk, .inl (ct 1, 64, .inl j53_custk))] H → va_D A [(upg, .inl (ct 2, PL, .inr (.inl g_upg))), (upl_, .inl (ct 1, 16, .inl g_upl_)), (upb, .inl (ct 1, 4096, .inl g_upb)), (mm, .inr (16, m59_1)), (ureg, .inl (ct 2, 32, .inr (.inl j53_cureg))), (ustk, .inl (ct 1, 64, .inl j53_custk))] → va_S A s.heap H locs → W p l e ({ frames := 5, cells := 0, slots := 0, locals := 129 }) s m [.ref mm, .int v0].toArray below meth c H locs 0 0 Q (F0 m 101 ls [.int j101_s0, .ref mm]) := by
                intro j101_s0 H locs ls r101_1001 hl hP hD hS
                refine va_put (D := D) (ci := 16) (v := .int j101_s0) (ty := .int) (C := RX16) (T := TX16) (N := 78) hx hb (htX16 hn) (fun _ h => h) tyX16 tyX16_ok nmX16 hown hK hP hD hS 3 rfl rfl 35 (by decide) (hn.get mw_1574 rfl) (fun _ h9 => h9) rfl (by decide +kernel) rfl rfl (by rw [hsm59_1.1, hlen_mm]; decide) dX16_run_101 (fun H locs hP hD hS => ?_)
                have hP : va_P D vwCl [(upg, .inl (ct 2, PL, .inr (.inl g_upg))), (upl_, .inl (ct 1, 16, .inl g_upl_)), (upb, .inl (ct 1, 4096, .inl g_upb)), (mm, .inr (16, (m59_1.set 35 (.int j101_s0)))), (ureg, .inl (ct 2, 32, .inr (.inl j53_cureg))), (ustk, .inl (ct 1, 64, .inl j53_custk))] _ := hP
                have hD : va_D A [(upg, .inl (ct 2, PL, .inr (.inl g_upg))), (upl_, .inl (ct 1, 16, .inl g_upl_)), (upb, .inl (ct 1, 4096, .inl g_upb)), (mm, .inr (16, (m59_1.set 35 (.int j101_s0)))), (ureg, .inl (ct 2, 32, .inr (.inl j53_cureg))), (ustk, .inl (ct 1, 64, .inl j53_custk))] := hD
                obtain ⟨m101_1, em101_1⟩ : ∃ z, z = (m59_1.set 35 (.int j101_s0)) := ⟨_, rfl⟩
                rw [← em101_1] at hP hD
                have hsm101_1 : SB fs_mm m101_1 [35, 36, 37, 38] := by rw [em101_1]; exact SB.set hsm59_1 (by decide)
                have hfm101_1_36 : m101_1[36]? = some (.int j53_fmm_36) := by rw [em101_1]; exact fs_ne (by decide) hfm59_1_36
                have hfm101_1_38 : m101_1[38]? = some (.int 0) := by rw [em101_1]; exact fs_ne (by decide) hfm59_1_38
                have hfm101_1_37 : m101_1[37]? = some (.int j53_l2) := by rw [em101_1]; exact fs_ne (by decide) hfm59_1_37
                have hfm101_1_35 : m101_1[35]? = some (.int j101_s0) := by rw [em101_1]; exact fs_eq (by rw [hsm59_1.1, hlen_mm]; decide)
                have hP : va_P D vwCl [(upg, .inl (ct 2, PL, .inr (.inl g_upg))), (upl_, .inl (ct 1, 16, .inl g_upl_)), (upb, .inl (ct 1, 4096, .inl g_upb)), (mm, .inr (16, m101_1)), (ureg, .inl (ct 2, 32, .inr (.inl j53_cureg))), (ustk, .inl (ct 1, 64, .inl j53_custk))] _ := hP
                have hD : va_D A [(upg, .inl (ct 2, PL, .inr (.inl g_upg))), (upl_, .inl (ct 1, 16, .inl g_upl_)), (upb, .inl (ct 1, 4096, .inl g_upb)), (mm, .inr (16, m101_1)), (ureg, .inl (ct 2, 32, .inr (.inl j53_cureg))), (ustk, .inl (ct 1, 64, .inl j53_custk))] := hD
                refine lv_lconst (v := 0) hx hb dX16_run_104 (by decide) ?_
                exact endq_l hQ hx hb hr hlocks dX16_run_105 (m101_1, j101_s0, j53_fmm_36, j53_l2, (0 : Int32), j53_cureg, j53_custk) ⟨hsm101_1, (rg_w r101_1001 (by decide)), hfm101_1_35, (rg_w r53_1004 (by decide)), hfm101_1_36, hfm101_1_37, (rg_w (show rg (0 : Int32) 0 0 from rg_l (by decide)) (by decide)), hfm101_1_38, hc53_1008⟩ hP hD hS [3, 0, 4, 5, 1, 2] rfl (by decide) rfl (Nat.le_of_ble_eq_true rfl) (Nat.le_of_ble_eq_true rfl)
              refine lv_icmp_ne (tgt := 100) hx hb dX16_run_92 (by decide) (fun c92_1 => ?_) (fun c92_1 => ?_)
              · have t92_2 := FF.mk (i_ne c92_1)
                have r92_3 : rg j53_fmm_36 0 9999 := rg_neAh t92_2 r53_1004 (show rg (10000 : Int32) 10000 10000 from rg_l (by decide)) (by decide)
                refine lv_iconst (v := 1) hx hb dX16_run_100 (by decide) ?_
                exact b101 (1 : Int32) H locs ls (rg_w (show rg (1 : Int32) 1 1 from rg_l (by decide)) (by decide)) (lv_sub hl [] rfl) hP hD hS
              · have t92_2 := FF.mk (i_eq c92_1)
                have r92_3 : rg j53_fmm_36 10000 10000 := rg_eqA t92_2 r53_1004 (show rg (10000 : Int32) 10000 10000 from rg_l (by decide)) (by decide)
                refine lv_bipush (v := 9) hx hb dX16_run_95 (by decide) ?_
                refine lv_goto (tgt := 101) hx hb dX16_run_97 (by decide) ?_
                exact b101 (9 : Int32) H locs ls (rg_w (show rg (9 : Int32) 9 9 from rg_l (by decide)) (by decide)) (lv_sub hl [] rfl) hP hD hS
            refine lv_icmp_eq (tgt := 84) hx hb dX16_run_69 (by decide) (fun c69_1 => ?_) (fun c69_1 => ?_)
            · have t69_2 := FF.mk (i_eq c69_1)
              have r69_3 : rg j53_fmm_36 10000 10000 := rg_eqA t69_2 r53_1004 (show rg (10000 : Int32) 10000 10000 from rg_l (by decide)) (by decide)
              exact b84  H locs ls  (lv_sub hl [0] rfl) hP hD hS
            · have t69_2 := FF.mk (i_ne c69_1)
              have r69_3 : rg j53_fmm_36 0 9999 := rg_neAh t69_2 r53_1004 (show rg (10000 : Int32) 10000 10000 from rg_l (by decide)) (by decide)
              refine lv_aload_n hx hb dX16_run_72 rfl (lv_at hl 0 rfl) ?_
              refine va_get (D := D) (ci := 16) (v := .ref upg) (C := RX16) (T := TX16) (N := 78) hx hb (htX16 hn) (fun _ h => h) hown hK hP 3 rfl rfl 26 (by decide) (hn.get mw_1565 rfl) (fun _ h9 => h9) (SB.get hsm59_1 (by decide) hf_mm_26) dX16_run_73 ?_
              refine lv_iload_n hx hb dX16_run_76 rfl (lv_at hl 2 rfl) ?_
              have hi77_1 : vp_in j53_l2 PL := (in_of (show 0 ≤ j53_l2.toInt ∧ j53_l2.toInt < ((PL : Nat) : Int) by have q0 := r54_3.1; have q1 := r54_3.2; have q2 := FF.out hi53_1009; omega))
              refine va_lald hx hb hK hP 0 2 rfl rfl hi77_1 dX16_run_77 ?_
              refine lv_topl (fun z77_2 ez77_2 => ?_)
              refine go_i (k1 := 0) (n1 := 0) (wr := [(upg, .inl (ct 2, PL, .inr (.inl g_upg))), (upl_, .inl (ct 1, 16, .inl g_upl_)), (upb, .inl (ct 1, 4096, .inl g_upb)), (mm, .inr (16, m59_1)), (ureg, .inl (ct 2, 32, .inr (.inl j53_cureg))), (ustk, .inl (ct 1, 64, .inl j53_custk))]) [] [0, 1, 2, 3, 4, 5] (rn_S (As := [.long z77_2]) (rest := []) (c_X16_isTold l D ct z77_2  _) (cb_of (n := 1) hn mw_2319 mw_13 mw_2317 mhX16_isTold ⟨(Nat.le_of_ble_eq_true rfl), (Nat.le_of_ble_eq_true rfl)⟩) hx hb hml hown hn hK hSK hZ hS mw_2318 rfl hl.1 (Nat.le_of_ble_eq_true rfl) dX16_run_78 ⟨(Nat.le_of_ble_eq_true rfl), (Nat.le_of_ble_eq_true rfl)⟩) hP hD hS hA rfl rfl (by decide) (by decide) (by decide) (Nat.le_of_ble_eq_true rfl) (Nat.le_of_ble_eq_true rfl) (fun r78_1 u78_2 H locs hp78_3 hP hD hS => ?_)
              obtain ⟨hp78_4, hp78_5⟩ := hp78_3
              have hp78_4 : rg r78_1 0 1 := hp78_4
              replace hp78_5 : FF (r78_1.toInt = 1 → (z77_2.toInt / 256) % 16 ≤ 10 ∧ (z77_2.toInt / 4096) % 16 ≤ 10 ∧ 0 ≤ srt (z77_2.toInt % 256)) := hp78_5
              have hP : va_P D vwCl [(upg, .inl (ct 2, PL, .inr (.inl g_upg))), (upl_, .inl (ct 1, 16, .inl g_upl_)), (upb, .inl (ct 1, 4096, .inl g_upb)), (mm, .inr (16, m59_1)), (ureg, .inl (ct 2, 32, .inr (.inl j53_cureg))), (ustk, .inl (ct 1, 64, .inl j53_custk))] _ := hP
              have hD : va_D A [(upg, .inl (ct 2, PL, .inr (.inl g_upg))), (upl_, .inl (ct 1, 16, .inl g_upl_)), (upb, .inl (ct 1, 4096, .inl g_upb)), (mm, .inr (16, m59_1)), (ureg, .inl (ct 2, 32, .inr (.inl j53_cureg))), (ustk, .inl (ct 1, 64, .inl j53_custk))] := hD
              refine lv_if_ne (tgt := 106) hx hb dX16_run_81 (by decide) (fun c81_1 => ?_) (fun c81_1 => ?_)
              · have t81_2 := FF.mk (i_ne c81_1)
                have r81_3 : rg r78_1 1 1 := rg_neAl t81_2 hp78_4 (show rg (0 : Int32) 0 0 from rg_l (by decide)) (by decide)
                refine lv_aload_n hx hb dX16_run_106 rfl (lv_at hl 0 rfl) ?_
                refine lv_aload_n hx hb dX16_run_107 rfl (lv_at hl 0 rfl) ?_
                refine va_get (D := D) (ci := 16) (v := .ref upg) (C := RX16) (T := TX16) (N := 78) hx hb (htX16 hn) (fun _ h => h) hown hK hP 3 rfl rfl 26 (by decide) (hn.get mw_1565 rfl) (fun _ h9 => h9) (SB.get hsm59_1 (by decide) hf_mm_26) dX16_run_108 ?_
                refine lv_iload_n hx hb dX16_run_111 rfl (lv_at hl 2 rfl) ?_
                have hi112_1 : vp_in j53_l2 PL := (in_of (show 0 ≤ j53_l2.toInt ∧ j53_l2.toInt < ((PL : Nat) : Int) by have q0 := r54_3.1; have q1 := r54_3.2; have q2 := FF.out hi53_1009; omega))
                refine va_lald hx hb hK hP 0 2 rfl rfl hi112_1 dX16_run_112 ?_
                refine lv_topl (fun z112_2 ez112_2 => ?_)
                obtain rfl : z77_2 = z112_2 := ez77_2.trans ez112_2.symm
                refine lv_iload_n hx hb dX16_run_113 rfl (lv_at hl 1 rfl) ?_
                refine go_i (k1 := 0) (n1 := 0) (wr := [(upg, .inl (ct 2, PL, .inr (.inl g_upg)))]) [3, 4, 5, 1, 2] [0] (rn_V (As := [.long z77_2, .int v0]) (rest := []) (c_X16_does l D ct mm z77_2 v0 m59_1 upb upl_ ureg ustk j53_cureg j53_custk g_upl_ g_upb (rg_of (show 0 ≤ v0.toInt ∧ v0.toInt ≤ 15 by have q0 := h_x_mm_4.2; have q1 := r12_3.1; have q2 := r12_3.2; have q3 := FF.out hp9_5; omega)) (hsm59_1.1.trans hlen_mm) (SB.get hsm59_1 (by decide) hf_mm_2) (SB.get hsm59_1 (by decide) hf_mm_3) (SB.get hsm59_1 (by decide) hf_mm_33) (SB.get hsm59_1 (by decide) hf_mm_34) hc53_1008 h_g_upl_ h_g_upb _) (cb_of (n := 2) hn mw_2350 mw_13 mw_2347 mhX16_does ⟨(Nat.le_of_ble_eq_true rfl), (Nat.le_of_ble_eq_true rfl)⟩) hx hb hml hown hn hK hSK hZ hS mw_2349 mw_s223 (ci := 16) (q0 := 0) rfl rfl rfl rfl hl.1 (Nat.le_of_ble_eq_true rfl) dX16_run_114 ⟨(Nat.le_of_ble_eq_true rfl), (Nat.le_of_ble_eq_true rfl)⟩) hP hD hS hA rfl rfl (by decide) (by decide) (by decide) (Nat.le_of_ble_eq_true rfl) (Nat.le_of_ble_eq_true rfl) (fun r114_1 u114_2 H locs hp114_3 hP hD hS => ?_)
                obtain ⟨k_ureg114_4, k_ustk114_5⟩ := u114_2
                obtain ⟨hp114_6, hp114_7⟩ := hp114_3
                have hp114_6 : rg r114_1 0 3 := hp114_6
                have hP : va_P D vwCl [(upg, .inl (ct 2, PL, .inr (.inl g_upg))), (mm, .inr (16, m59_1)), (ureg, .inl (ct 2, 32, .inr (.inl k_ureg114_4))), (ustk, .inl (ct 1, 64, .inl k_ustk114_5)), (upl_, .inl (ct 1, 16, .inl g_upl_)), (upb, .inl (ct 1, 4096, .inl g_upb))] _ := hP
                have hD : va_D A [(upg, .inl (ct 2, PL, .inr (.inl g_upg))), (mm, .inr (16, m59_1)), (ureg, .inl (ct 2, 32, .inr (.inl k_ureg114_4))), (ustk, .inl (ct 1, 64, .inl k_ustk114_5)), (upl_, .inl (ct 1, 16, .inl g_upl_)), (upb, .inl (ct 1, 4096, .inl g_upb))] := hD
                refine lv_istore (lv' := [(4, .int r114_1), (0, .ref mm), (1, .int v0), (2, .int j53_l2), (3, .int j53_l3)]) hx hb dX16_run_117 hl (by decide) rfl (fun ls hl => ?_)
                refine lv_iload hx hb dX16_run_119 (lv_at hl 0 rfl) ?_
                refine lv_iconst (v := 1) hx hb dX16_run_121 (by decide) ?_
                have b144 : ∀ (j144_s0 : Int32) (H : Heap) (locs : List Loc) (ls : Array Slot), lv_has ls 6 [(0, .ref mm), (1, .int v0), (4, .int r114_1)] → va_P D vwCl [(upg, .inl (ct 2, PL, .inr (.inl g_upg))), (mm, .inr (16, m59_1)), (ureg, .inl (ct 2, 32, .inr (.inl k_ureg114_4))), (ustk, .inl (ct 1, 64, .inl k_ustk114_5)), (upl_, .inl (ct 1, 16, .inl g_upl_)), (upb, .inl (ct 1, 4096, .inl g_upb))] H → va_D A [(upg, .inl (ct 2, PL, .inr (.inl g_upg))), (mm, .inr (16, m59_1)), (ureg, .inl (ct 2, 32, .inr (.inl k_ureg114_4))), (ustk, .inl (ct 1, 64, .inl k_ustk114_5)), (upl_, .inl (ct 1, 16, .inl g_upl_)), (upb, .inl (ct 1, 4096, .inl g_upb))] → va_S A s.heap H locs → W p l e ({ frames := 5, cells := 0, slots := 0, locals := 129 }) s m [.ref mm, .int v0].toArray below meth c H locs 0 0 Q (F0 m 144 ls [.int j144_s0]) := by
                  intro j144_s0 H locs ls  hl hP hD hS
                  refine lv_istore (lv' := [(5, .int j144_s0), (0, .ref mm), (1, .int v0), (4, .int r114_1)]) hx hb dX16_run_144 hl (by decide) rfl (fun ls hl => ?_)
                  refine lv_iload hx hb dX16_run_146 (lv_at hl 3 rfl) ?_
                  refine lv_iconst (v := 1) hx hb dX16_run_148 (by decide) ?_
                  have b157 : ∀ (j157_s0 : Int32) (H : Heap) (locs : List Loc) (ls : Array Slot), (rg j157_s0 0 1) → (FF (j157_s0.toInt = 1 → r114_1.toInt ≤ 1)) → lv_has ls 6 [(0, .ref mm), (1, .int v0), (4, .int r114_1), (5, .int j144_s0)] → va_P D vwCl [(upg, .inl (ct 2, PL, .inr (.inl g_upg))), (mm, .inr (16, m59_1)), (ureg, .inl (ct 2, 32, .inr (.inl k_ureg114_4))), (ustk, .inl (ct 1, 64, .inl k_ustk114_5)), (upl_, .inl (ct 1, 16, .inl g_upl_)), (upb, .inl (ct 1, 4096, .inl g_upb))] H → va_D A [(upg, .inl (ct 2, PL, .inr (.inl g_upg))), (mm, .inr (16, m59_1)), (ureg, .inl (ct 2, 32, .inr (.inl k_ureg114_4))), (ustk, .inl (ct 1, 64, .inl k_ustk114_5)), (upl_, .inl (ct 1, 16, .inl g_upl_)), (upb, .inl (ct 1, 4096, .inl g_upb))] → va_S A s.heap H locs → W p l e ({ frames := 5, cells := 0, slots := 0, locals := 129 }) s m [.ref mm, .int v0].toArray below meth c H locs 0 0 Q (F0 m 157 ls [.int j157_s0]) := by
                    intro j157_s0 H locs ls r157_1001 hi157_1002 hl hP hD hS
                    refine lv_istore_n (lv' := [(3, .int j157_s0), (0, .ref mm), (1, .int v0), (4, .int r114_1), (5, .int j144_s0)]) hx hb dX16_run_157 rfl hl (by decide) rfl (fun ls hl => ?_)
                    refine lv_iload hx hb dX16_run_158 (lv_at hl 3 rfl) ?_
                    refine lv_iconst (v := 3) hx hb dX16_run_160 (by decide) ?_
                    have b183 : ∀  (H : Heap) (locs : List Loc) (ls : Array Slot), lv_has ls 6 [(0, .ref mm), (4, .int r114_1)] → va_P D vwCl [(upg, .inl (ct 2, PL, .inr (.inl g_upg))), (mm, .inr (16, m59_1)), (ureg, .inl (ct 2, 32, .inr (.inl k_ureg114_4))), (ustk, .inl (ct 1, 64, .inl k_ustk114_5)), (upl_, .inl (ct 1, 16, .inl g_upl_)), (upb, .inl (ct 1, 4096, .inl g_upb))] H → va_D A [(upg, .inl (ct 2, PL, .inr (.inl g_upg))), (mm, .inr (16, m59_1)), (ureg, .inl (ct 2, 32, .inr (.inl k_ureg114_4))), (ustk, .inl (ct 1, 64, .inl k_ustk114_5)), (upl_, .inl (ct 1, 16, .inl g_upl_)), (upb, .inl (ct 1, 4096, .inl g_upb))] → va_S A s.heap H locs → W p l e ({ frames := 5, cells := 0, slots := 0, locals := 129 }) s m [.ref mm, .int v0].toArray below meth c H locs 0 0 Q (F0 m 183 ls []) := by
                      intro  H locs ls  hl hP hD hS
                      refine lv_aload_n hx hb dX16_run_183 rfl (lv_at hl 0 rfl) ?_
                      refine lv_iload hx hb dX16_run_184 (lv_at hl 1 rfl) ?_
                      refine lv_iconst (v := 3) hx hb dX16_run_186 (by decide) ?_
                      have b196 : ∀ (j196_s0 : Int32) (H : Heap) (locs : List Loc) (ls : Array Slot), (rg j196_s0 2 7) → lv_has ls 6 [] → va_P D vwCl [(upg, .inl (ct 2, PL, .inr (.inl g_upg))), (mm, .inr (16, m59_1)), (ureg, .inl (ct 2, 32, .inr (.inl k_ureg114_4))), (ustk, .inl (ct 1, 64, .inl k_ustk114_5)), (upl_, .inl (ct 1, 16, .inl g_upl_)), (upb, .inl (ct 1, 4096, .inl g_upb))] H → va_D A [(upg, .inl (ct 2, PL, .inr (.inl g_upg))), (mm, .inr (16, m59_1)), (ureg, .inl (ct 2, 32, .inr (.inl k_ureg114_4))), (ustk, .inl (ct 1, 64, .inl k_ustk114_5)), (upl_, .inl (ct 1, 16, .inl g_upl_)), (upb, .inl (ct 1, 4096, .inl g_upb))] → va_S A s.heap H locs → W p l e ({ frames := 5, cells := 0, slots := 0, locals := 129 }) s m [.ref mm, .int v0].toArray below meth c H locs 0 0 Q (F0 m 196 ls [.int j196_s0, .ref mm]) := by
                        intro j196_s0 H locs ls r196_1001 hl hP hD hS
                        refine va_put (D := D) (ci := 16) (v := .int j196_s0) (ty := .int) (C := RX16) (T := TX16) (N := 78) hx hb (htX16 hn) (fun _ h => h) tyX16 tyX16_ok nmX16 hown hK hP hD hS 1 rfl rfl 35 (by decide) (hn.get mw_1574 rfl) (fun _ h9 => h9) rfl (by decide +kernel) rfl rfl (by rw [hsm59_1.1, hlen_mm]; decide) dX16_run_196 (fun H locs hP hD hS => ?_)
                        have hP : va_P D vwCl [(upg, .inl (ct 2, PL, .inr (.inl g_upg))), (mm, .inr (16, (m59_1.set 35 (.int j196_s0)))), (ureg, .inl (ct 2, 32, .inr (.inl k_ureg114_4))), (ustk, .inl (ct 1, 64, .inl k_ustk114_5)), (upl_, .inl (ct 1, 16, .inl g_upl_)), (upb, .inl (ct 1, 4096, .inl g_upb))] _ := hP
                        have hD : va_D A [(upg, .inl (ct 2, PL, .inr (.inl g_upg))), (mm, .inr (16, (m59_1.set 35 (.int j196_s0)))), (ureg, .inl (ct 2, 32, .inr (.inl k_ureg114_4))), (ustk, .inl (ct 1, 64, .inl k_ustk114_5)), (upl_, .inl (ct 1, 16, .inl g_upl_)), (upb, .inl (ct 1, 4096, .inl g_upb))] := hD
                        obtain ⟨m196_1, em196_1⟩ : ∃ z, z = (m59_1.set 35 (.int j196_s0)) := ⟨_, rfl⟩
                        rw [← em196_1] at hP hD
                        have hsm196_1 : SB fs_mm m196_1 [35, 36, 37, 38] := by rw [em196_1]; exact SB.set hsm59_1 (by decide)
                        have hfm196_1_36 : m196_1[36]? = some (.int j53_fmm_36) := by rw [em196_1]; exact fs_ne (by decide) hfm59_1_36
                        have hfm196_1_38 : m196_1[38]? = some (.int 0) := by rw [em196_1]; exact fs_ne (by decide) hfm59_1_38
                        have hfm196_1_37 : m196_1[37]? = some (.int j53_l2) := by rw [em196_1]; exact fs_ne (by decide) hfm59_1_37
                        have hfm196_1_35 : m196_1[35]? = some (.int j196_s0) := by rw [em196_1]; exact fs_eq (by rw [hsm59_1.1, hlen_mm]; decide)
                        have hP : va_P D vwCl [(upg, .inl (ct 2, PL, .inr (.inl g_upg))), (mm, .inr (16, m196_1)), (ureg, .inl (ct 2, 32, .inr (.inl k_ureg114_4))), (ustk, .inl (ct 1, 64, .inl k_ustk114_5)), (upl_, .inl (ct 1, 16, .inl g_upl_)), (upb, .inl (ct 1, 4096, .inl g_upb))] _ := hP
                        have hD : va_D A [(upg, .inl (ct 2, PL, .inr (.inl g_upg))), (mm, .inr (16, m196_1)), (ureg, .inl (ct 2, 32, .inr (.inl k_ureg114_4))), (ustk, .inl (ct 1, 64, .inl k_ustk114_5)), (upl_, .inl (ct 1, 16, .inl g_upl_)), (upb, .inl (ct 1, 4096, .inl g_upb))] := hD
                        refine lv_lconst (v := 0) hx hb dX16_run_199 (by decide) ?_
                        exact endq_l hQ hx hb hr hlocks dX16_run_200 (m196_1, j196_s0, j53_fmm_36, j53_l2, (0 : Int32), k_ureg114_4, k_ustk114_5) ⟨hsm196_1, (rg_w r196_1001 (by decide)), hfm196_1_35, (rg_w r69_3 (by decide)), hfm196_1_36, hfm196_1_37, (rg_w (show rg (0 : Int32) 0 0 from rg_l (by decide)) (by decide)), hfm196_1_38, hp114_7⟩ hP hD hS [1, 0, 2, 3, 4, 5] rfl (by decide) rfl (Nat.le_of_ble_eq_true rfl) (Nat.le_of_ble_eq_true rfl)
                      refine lv_icmp_ne (tgt := 195) hx hb dX16_run_187 (by decide) (fun c187_1 => ?_) (fun c187_1 => ?_)
                      · have t187_2 := FF.mk (i_ne c187_1)
                        have r187_3 : rg r114_1 0 2 := rg_neAh t187_2 hp114_6 (show rg (3 : Int32) 3 3 from rg_l (by decide)) (by decide)
                        refine lv_iconst (v := 2) hx hb dX16_run_195 (by decide) ?_
                        exact b196 (2 : Int32) H locs ls (rg_w (show rg (2 : Int32) 2 2 from rg_l (by decide)) (by decide)) (lv_sub hl [] rfl) hP hD hS
                      · have t187_2 := FF.mk (i_eq c187_1)
                        have r187_3 : rg r114_1 3 3 := rg_eqA t187_2 hp114_6 (show rg (3 : Int32) 3 3 from rg_l (by decide)) (by decide)
                        refine lv_bipush (v := 7) hx hb dX16_run_190 (by decide) ?_
                        refine lv_goto (tgt := 196) hx hb dX16_run_192 (by decide) ?_
                        exact b196 (7 : Int32) H locs ls (rg_w (show rg (7 : Int32) 7 7 from rg_l (by decide)) (by decide)) (lv_sub hl [] rfl) hP hD hS
                    refine lv_icmp_eq (tgt := 183) hx hb dX16_run_161 (by decide) (fun c161_1 => ?_) (fun c161_1 => ?_)
                    · have t161_2 := FF.mk (i_eq c161_1)
                      have r161_3 : rg r114_1 3 3 := rg_eqA t161_2 hp114_6 (show rg (3 : Int32) 3 3 from rg_l (by decide)) (by decide)
                      exact b183  H locs ls  (lv_sub hl [1, 3] rfl) hP hD hS
                    · have t161_2 := FF.mk (i_ne c161_1)
                      have r161_3 : rg r114_1 0 2 := rg_neAh t161_2 hp114_6 (show rg (3 : Int32) 3 3 from rg_l (by decide)) (by decide)
                      refine lv_iload_n hx hb dX16_run_164 rfl (lv_at hl 0 rfl) ?_
                      have b201 : ∀  (H : Heap) (locs : List Loc) (ls : Array Slot), (FF (j157_s0.toInt = 0 ∨ (0 ≤ j144_s0.toInt ∧ j144_s0.toInt < ((PL : Nat) : Int)))) → lv_has ls 6 [(0, .ref mm), (1, .int v0), (3, .int j157_s0), (5, .int j144_s0)] → va_P D vwCl [(upg, .inl (ct 2, PL, .inr (.inl g_upg))), (mm, .inr (16, m59_1)), (ureg, .inl (ct 2, 32, .inr (.inl k_ureg114_4))), (ustk, .inl (ct 1, 64, .inl k_ustk114_5)), (upl_, .inl (ct 1, 16, .inl g_upl_)), (upb, .inl (ct 1, 4096, .inl g_upb))] H → va_D A [(upg, .inl (ct 2, PL, .inr (.inl g_upg))), (mm, .inr (16, m59_1)), (ureg, .inl (ct 2, 32, .inr (.inl k_ureg114_4))), (ustk, .inl (ct 1, 64, .inl k_ustk114_5)), (upl_, .inl (ct 1, 16, .inl g_upl_)), (upb, .inl (ct 1, 4096, .inl g_upb))] → va_S A s.heap H locs → W p l e ({ frames := 5, cells := 0, slots := 0, locals := 129 }) s m [.ref mm, .int v0].toArray below meth c H locs 0 0 Q (F0 m 201 ls []) := by
                        intro  H locs ls hi201_1001 hl hP hD hS
                        refine lv_aload_n hx hb dX16_run_201 rfl (lv_at hl 0 rfl) ?_
                        refine lv_dup hx hb dX16_run_202 rfl ?_
                        refine va_get (D := D) (ci := 16) (v := .int j53_fmm_36) (C := RX16) (T := TX16) (N := 78) hx hb (htX16 hn) (fun _ h => h) hown hK hP 1 rfl rfl 36 (by decide) (hn.get mw_1575 rfl) (fun _ h9 => h9) hfm59_1_36 dX16_run_203 ?_
                        refine lv_iconst (v := 1) hx hb dX16_run_206 (by decide) ?_
                        refine lv_iadd hx hb dX16_run_207 ?_
                        refine lv_topi (fun z207_1 ez207_1 => ?_)
                        have r207_2 : rg z207_1 1 10000 := rg_add ez207_1 r69_3 (show rg (1 : Int32) 1 1 from rg_l (by decide)) (by decide)
                        refine va_put (D := D) (ci := 16) (v := .int z207_1) (ty := .int) (C := RX16) (T := TX16) (N := 78) hx hb (htX16 hn) (fun _ h => h) tyX16 tyX16_ok nmX16 hown hK hP hD hS 1 rfl rfl 36 (by decide) (hn.get mw_1575 rfl) (fun _ h9 => h9) rfl (by decide +kernel) rfl rfl (by rw [hsm59_1.1, hlen_mm]; decide) dX16_run_208 (fun H locs hP hD hS => ?_)
                        have hP : va_P D vwCl [(upg, .inl (ct 2, PL, .inr (.inl g_upg))), (mm, .inr (16, (m59_1.set 36 (.int z207_1)))), (ureg, .inl (ct 2, 32, .inr (.inl k_ureg114_4))), (ustk, .inl (ct 1, 64, .inl k_ustk114_5)), (upl_, .inl (ct 1, 16, .inl g_upl_)), (upb, .inl (ct 1, 4096, .inl g_upb))] _ := hP
                        have hD : va_D A [(upg, .inl (ct 2, PL, .inr (.inl g_upg))), (mm, .inr (16, (m59_1.set 36 (.int z207_1)))), (ureg, .inl (ct 2, 32, .inr (.inl k_ureg114_4))), (ustk, .inl (ct 1, 64, .inl k_ustk114_5)), (upl_, .inl (ct 1, 16, .inl g_upl_)), (upb, .inl (ct 1, 4096, .inl g_upb))] := hD
                        obtain ⟨m208_1, em208_1⟩ : ∃ z, z = (m59_1.set 36 (.int z207_1)) := ⟨_, rfl⟩
                        rw [← em208_1] at hP hD
                        have hsm208_1 : SB fs_mm m208_1 [35, 36, 37, 38] := by rw [em208_1]; exact SB.set hsm59_1 (by decide)
                        have hfm208_1_35 : m208_1[35]? = some (.int 0) := by rw [em208_1]; exact fs_ne (by decide) hfm59_1_35
                        have hfm208_1_38 : m208_1[38]? = some (.int 0) := by rw [em208_1]; exact fs_ne (by decide) hfm59_1_38
                        have hfm208_1_37 : m208_1[37]? = some (.int j53_l2) := by rw [em208_1]; exact fs_ne (by decide) hfm59_1_37
                        have hfm208_1_36 : m208_1[36]? = some (.int z207_1) := by rw [em208_1]; exact fs_eq (by rw [hsm59_1.1, hlen_mm]; decide)
                        have hP : va_P D vwCl [(upg, .inl (ct 2, PL, .inr (.inl g_upg))), (mm, .inr (16, m208_1)), (ureg, .inl (ct 2, 32, .inr (.inl k_ureg114_4))), (ustk, .inl (ct 1, 64, .inl k_ustk114_5)), (upl_, .inl (ct 1, 16, .inl g_upl_)), (upb, .inl (ct 1, 4096, .inl g_upb))] _ := hP
                        have hD : va_D A [(upg, .inl (ct 2, PL, .inr (.inl g_upg))), (mm, .inr (16, m208_1)), (ureg, .inl (ct 2, 32, .inr (.inl k_ureg114_4))), (ustk, .inl (ct 1, 64, .inl k_ustk114_5)), (upl_, .inl (ct 1, 16, .inl g_upl_)), (upb, .inl (ct 1, 4096, .inl g_upb))] := hD
                        refine lv_iload hx hb dX16_run_211 (lv_at hl 3 rfl) ?_
                        refine lv_istore_n (lv' := [(2, .int j144_s0), (0, .ref mm), (1, .int v0), (3, .int j157_s0), (5, .int j144_s0)]) hx hb dX16_run_213 rfl hl (by decide) rfl (fun ls hl => ?_)
                        refine lv_goto (tgt := 53) hx hb dX16_run_214 (by decide) ?_
                        have hP := hP.sub (ws' := [(upg, .inl (ct 2, PL, .inr (.inl g_upg))), (upl_, .inl (ct 1, 16, .inl g_upl_)), (upb, .inl (ct 1, 4096, .inl g_upb)), (mm, .inr (16, m208_1)), (ureg, .inl (ct 2, 32, .inr (.inl k_ureg114_4))), (ustk, .inl (ct 1, 64, .inl k_ustk114_5))]) [0, 4, 5, 1, 2, 3] rfl
                        have hD := hD.sub (ws' := [(upg, .inl (ct 2, PL, .inr (.inl g_upg))), (upl_, .inl (ct 1, 16, .inl g_upl_)), (upb, .inl (ct 1, 4096, .inl g_upb)), (mm, .inr (16, m208_1)), (ureg, .inl (ct 2, 32, .inr (.inl k_ureg114_4))), (ustk, .inl (ct 1, 64, .inl k_ustk114_5))]) [0, 4, 5, 1, 2, 3] (by decide) rfl
                        exact ih j144_s0 j157_s0 m208_1 z207_1 j53_l2 k_ureg114_4 k_ustk114_5 H locs ls r157_1001 hsm208_1 hfm208_1_35 (rg_w r207_2 (by decide)) hfm208_1_36 hfm208_1_37 hfm208_1_38 hp114_7 (show j157_s0.toInt = 1 → 0 ≤ j144_s0.toInt ∧ j144_s0.toInt < ((PL : Nat) : Int) by have q0 := FF.out hi201_1001; omega) (show ((10001 : Int) - z207_1.toInt).toNat < n by have q0 := r69_3.2; have q1 := (eq_add ez207_1 r69_3 (show rg (1 : Int32) 1 1 from rg_l (by decide)) (by decide)); have q2 := (show (1 : Int32).toInt = 1 from by decide); have q3 := hms; omega) (lv_sub hl [1, 2, 0, 3] rfl) hP hD hS
                      refine lv_if_eq (tgt := 201) hx hb dX16_run_165 (by decide) (fun c165_1 => ?_) (fun c165_1 => ?_)
                      · have t165_2 := FF.mk (i_eq c165_1)
                        have r165_3 : rg j157_s0 0 0 := rg_eqA t165_2 r157_1001 (show rg (0 : Int32) 0 0 from rg_l (by decide)) (by decide)
                        exact b201  H locs ls (show j157_s0.toInt = 0 ∨ (0 ≤ j144_s0.toInt ∧ j144_s0.toInt < ((PL : Nat) : Int)) by have q0 := FF.out t165_2; have q1 := (show (0 : Int32).toInt = 0 from by decide); omega) (lv_sub hl [1, 2, 0, 4] rfl) hP hD hS
                      · have t165_2 := FF.mk (i_ne c165_1)
                        have r165_3 : rg j157_s0 1 1 := rg_neAl t165_2 r157_1001 (show rg (0 : Int32) 0 0 from rg_l (by decide)) (by decide)
                        refine lv_iload hx hb dX16_run_168 (lv_at hl 4 rfl) ?_
                        refine lv_if_lt (tgt := 183) hx hb dX16_run_170 (by decide) (fun c170_1 => ?_) (fun c170_1 => ?_)
                        · have t170_2 := FF.mk (i_lt c170_1)
                          have r170_3 : rg j144_s0 (-2147483648) (-1) := rg_ltA t170_2 (rg_any j144_s0) (show rg (0 : Int32) 0 0 from rg_l (by decide)) (by decide)
                          exact b183  H locs ls  (lv_sub hl [1, 3] rfl) hP hD hS
                        · have t170_2 := FF.mk (i_nlt c170_1)
                          have r170_3 : rg j144_s0 0 2147483647 := rg_leB t170_2 (show rg (0 : Int32) 0 0 from rg_l (by decide)) (rg_any j144_s0) (by decide)
                          refine lv_iload hx hb dX16_run_173 (lv_at hl 4 rfl) ?_
                          refine lv_aload_n hx hb dX16_run_175 rfl (lv_at hl 1 rfl) ?_
                          refine va_get (D := D) (ci := 16) (v := .ref upg) (C := RX16) (T := TX16) (N := 78) hx hb (htX16 hn) (fun _ h => h) hown hK hP 1 rfl rfl 26 (by decide) (hn.get mw_1565 rfl) (fun _ h9 => h9) (SB.get hsm59_1 (by decide) hf_mm_26) dX16_run_176 ?_
                          refine va_alen hx hb hK hP 0 2 rfl rfl rfl dX16_run_179 ?_
                          refine lv_topi (fun z179_1 ez179_1 => ?_)
                          have r179_2 : rg z179_1 0 4000 := rg_len ez179_1 (nat4 (FF.out hq0)) (by decide)
                          refine lv_icmp_lt (tgt := 201) hx hb dX16_run_180 (by decide) (fun c180_1 => ?_) (fun c180_1 => ?_)
                          · have t180_2 := FF.mk (i_lt c180_1)
                            have r180_3 : rg j144_s0 0 3999 := rg_ltA t180_2 r170_3 r179_2 (by decide)
                            have r180_4 : rg z179_1 1 4000 := rg_ltB t180_2 r170_3 r179_2 (by decide)
                            exact b201  H locs ls (show j157_s0.toInt = 0 ∨ (0 ≤ j144_s0.toInt ∧ j144_s0.toInt < ((PL : Nat) : Int)) by have q0 := (eq_len ez179_1 (nat4 (FF.out hq0)) (by decide)); have q1 := FF.out t170_2; have q2 := FF.out t180_2; have q3 := (show (0 : Int32).toInt = 0 from by decide); omega) (lv_sub hl [1, 2, 0, 4] rfl) hP hD hS
                          · have t180_2 := FF.mk (i_nlt c180_1)
                            exact b183  H locs ls  (lv_sub hl [1, 3] rfl) hP hD hS
                  refine lv_icmp_gt (tgt := 156) hx hb dX16_run_149 (by decide) (fun c149_1 => ?_) (fun c149_1 => ?_)
                  · have t149_2 := FF.mk (i_lt c149_1)
                    have r149_3 : rg r114_1 2 3 := rg_ltB t149_2 (show rg (1 : Int32) 1 1 from rg_l (by decide)) hp114_6 (by decide)
                    refine lv_iconst (v := 0) hx hb dX16_run_156 (by decide) ?_
                    exact b157 (0 : Int32) H locs ls (rg_w (show rg (0 : Int32) 0 0 from rg_l (by decide)) (by decide)) (show (0 : Int32).toInt = 1 → r114_1.toInt ≤ 1 by have q0 := (show (0 : Int32).toInt = 0 from by decide); omega) (lv_sub hl [1, 2, 3, 0] rfl) hP hD hS
                  · have t149_2 := FF.mk (i_nlt c149_1)
                    have r149_3 : rg r114_1 0 1 := rg_leA t149_2 hp114_6 (show rg (1 : Int32) 1 1 from rg_l (by decide)) (by decide)
                    refine lv_iconst (v := 1) hx hb dX16_run_152 (by decide) ?_
                    refine lv_goto (tgt := 157) hx hb dX16_run_153 (by decide) ?_
                    exact b157 (1 : Int32) H locs ls (rg_w (show rg (1 : Int32) 1 1 from rg_l (by decide)) (by decide)) (show (1 : Int32).toInt = 1 → r114_1.toInt ≤ 1 by have q0 := r149_3.2; have q1 := (show (1 : Int32).toInt = 1 from by decide); omega) (lv_sub hl [1, 2, 3, 0] rfl) hP hD hS
                refine lv_icmp_ne (tgt := 141) hx hb dX16_run_122 (by decide) (fun c122_1 => ?_) (fun c122_1 => ?_)
                · have t122_2 := FF.mk (i_ne c122_1)
                  refine lv_iload_n hx hb dX16_run_141 rfl (lv_at hl 3 rfl) ?_
                  refine lv_iconst (v := 1) hx hb dX16_run_142 (by decide) ?_
                  refine lv_iadd hx hb dX16_run_143 ?_
                  refine lv_topi (fun z143_1 ez143_1 => ?_)
                  exact b144 z143_1 H locs ls  (lv_sub hl [1, 2, 0] rfl) hP hD hS
                · have t122_2 := FF.mk (i_eq c122_1)
                  have r122_3 : rg r114_1 1 1 := rg_eqA t122_2 hp114_6 (show rg (1 : Int32) 1 1 from rg_l (by decide)) (by decide)
                  refine lv_iload_n hx hb dX16_run_125 rfl (lv_at hl 3 rfl) ?_
                  refine lv_iconst (v := 1) hx hb dX16_run_126 (by decide) ?_
                  refine lv_iadd hx hb dX16_run_127 ?_
                  refine lv_topi (fun z127_1 ez127_1 => ?_)
                  refine lv_aload_n hx hb dX16_run_128 rfl (lv_at hl 1 rfl) ?_
                  refine va_get (D := D) (ci := 16) (v := .ref upg) (C := RX16) (T := TX16) (N := 78) hx hb (htX16 hn) (fun _ h => h) hown hK hP 1 rfl rfl 26 (by decide) (hn.get mw_1565 rfl) (fun _ h9 => h9) (SB.get hsm59_1 (by decide) hf_mm_26) dX16_run_129 ?_
                  refine lv_iload_n hx hb dX16_run_132 rfl (lv_at hl 3 rfl) ?_
                  have hi133_1 : vp_in j53_l2 PL := (in_of (show 0 ≤ j53_l2.toInt ∧ j53_l2.toInt < ((PL : Nat) : Int) by have q0 := r54_3.1; have q1 := r54_3.2; have q2 := FF.out hi53_1009; omega))
                  refine va_lald hx hb hK hP 0 2 rfl rfl hi133_1 dX16_run_133 ?_
                  refine lv_topl (fun z133_2 ez133_2 => ?_)
                  obtain rfl : z77_2 = z133_2 := ez77_2.trans ez133_2.symm
                  refine go_i (k1 := 0) (n1 := 0) (wr := [(upg, .inl (ct 2, PL, .inr (.inl g_upg))), (mm, .inr (16, m59_1)), (ureg, .inl (ct 2, 32, .inr (.inl k_ureg114_4))), (ustk, .inl (ct 1, 64, .inl k_ustk114_5)), (upl_, .inl (ct 1, 16, .inl g_upl_)), (upb, .inl (ct 1, 4096, .inl g_upb))]) [] [0, 1, 2, 3, 4, 5] (rn_S (As := [.long z77_2]) (rest := [.int z127_1]) (c_X16_offOf l D ct z77_2  _) (cb_of (n := 1) hn mw_2343 mw_13 mw_2341 mhX16_offOf ⟨(Nat.le_of_ble_eq_true rfl), (Nat.le_of_ble_eq_true rfl)⟩) hx hb hml hown hn hK hSK hZ hS mw_2342 rfl hl.1 (Nat.le_of_ble_eq_true rfl) dX16_run_134 ⟨(Nat.le_of_ble_eq_true rfl), (Nat.le_of_ble_eq_true rfl)⟩) hP hD hS hA rfl rfl (by decide) (by decide) (by decide) (Nat.le_of_ble_eq_true rfl) (Nat.le_of_ble_eq_true rfl) (fun r134_1 u134_2 H locs hp134_3 hP hD hS => ?_)
                  obtain ⟨hp134_4, hp134_5⟩ := hp134_3
                  have hp134_4 : rg r134_1 (-32768) 32767 := hp134_4
                  replace hp134_5 : FF (r134_1.toInt = (z77_2.toInt / 65536 + 32768) % 65536 - 32768) := hp134_5
                  have hP : va_P D vwCl [(upg, .inl (ct 2, PL, .inr (.inl g_upg))), (mm, .inr (16, m59_1)), (ureg, .inl (ct 2, 32, .inr (.inl k_ureg114_4))), (ustk, .inl (ct 1, 64, .inl k_ustk114_5)), (upl_, .inl (ct 1, 16, .inl g_upl_)), (upb, .inl (ct 1, 4096, .inl g_upb))] _ := hP
                  have hD : va_D A [(upg, .inl (ct 2, PL, .inr (.inl g_upg))), (mm, .inr (16, m59_1)), (ureg, .inl (ct 2, 32, .inr (.inl k_ureg114_4))), (ustk, .inl (ct 1, 64, .inl k_ustk114_5)), (upl_, .inl (ct 1, 16, .inl g_upl_)), (upb, .inl (ct 1, 4096, .inl g_upb))] := hD
                  refine lv_iadd hx hb dX16_run_137 ?_
                  refine lv_topi (fun z137_1 ez137_1 => ?_)
                  refine lv_goto (tgt := 144) hx hb dX16_run_138 (by decide) ?_
                  exact b144 z137_1 H locs ls  (lv_sub hl [1, 2, 0] rfl) hP hD hS
              · have t81_2 := FF.mk (i_eq c81_1)
                have r81_3 : rg r78_1 0 0 := rg_eqA t81_2 hp78_4 (show rg (0 : Int32) 0 0 from rg_l (by decide)) (by decide)
                exact b84  H locs ls  (lv_sub hl [0] rfl) hP hD hS
      exact b53 _ (0 : Int32) (1 : Int32) m23_1 (0 : Int32) (0 : Int32) f48_2 k_ustk18_6 H locs ls (rg_w (show rg (1 : Int32) 1 1 from rg_l (by decide)) (by decide)) hsm23_1 hfm23_1_35 (rg_w (show rg (0 : Int32) 0 0 from rg_l (by decide)) (by decide)) hfm23_1_36 hfm23_1_37 hfm23_1_38 hp18_11 (show (1 : Int32).toInt = 1 → 0 ≤ (0 : Int32).toInt ∧ (0 : Int32).toInt < ((PL : Nat) : Int) by have q0 := r4_3.1; have q1 := r4_3.2; have q2 := FF.out hq1; have q3 := (show (0 : Int32).toInt = 0 from by decide); have q4 := (show (1 : Int32).toInt = 1 from by decide); omega) (Nat.lt_succ_self _) (lv_sub hl [2, 3, 1, 0] rfl) hP hD hS
    · have t12_2 := FF.mk (i_eq c12_1)
      have r12_3 : rg r9_1 0 0 := rg_eqA t12_2 hp9_4 (show rg (0 : Int32) 0 0 from rg_l (by decide)) (by decide)
      refine lv_lconst (v := 0) hx hb dX16_run_15 (by decide) ?_
      exact endq_l hQ hx hb hr hlocks dX16_run_16 (fs_mm, x_mm_35, x_mm_36, x_mm_37, x_mm_38, g_ureg, g_ustk) ⟨(SB.rf _ _), h_x_mm_35, hf_mm_35, h_x_mm_36, hf_mm_36, hf_mm_37, h_x_mm_38, hf_mm_38, h_g_ustk⟩ hP hD hS [5, 0, 1, 2, 3, 4] rfl (by decide) rfl (Nat.le_of_ble_eq_true rfl) (Nat.le_of_ble_eq_true rfl)
set_option maxHeartbeats 2000000 in
theorem c_X16_ended (l : Launch) (D : va_G) (ct : Nat → ClassId) (mm : Nat) (v0 : Int32) (fs_mm : List Value) (x_mm_35 : Int32) (x_mm_36 : Int32) (x_mm_37 : Int32) (hlen_mm : fs_mm.length = 78) (h_x_mm_35 : rg x_mm_35 0 9) (hf_mm_35 : fs_mm[35]? = some (.int x_mm_35)) (h_x_mm_36 : rg x_mm_36 0 100000) (hf_mm_36 : fs_mm[36]? = some (.int x_mm_36)) (hf_mm_37 : fs_mm[37]? = some (.int x_mm_37)) : KI (S := Unit) l yX16_ended cX16_ended 2 (some .int) 1 20 D ct [.ref mm, .int v0] [(mm, .inr (16, fs_mm))] 0 0 (fun (r : Int32) (_ : Unit) => True) (fun (_ : Unit) => [(mm, .inr (16, fs_mm))]) := by
  refine KIq_of (by decide) (Nat.le_of_ble_eq_true rfl) (fun p e s m below meth c A Q C0 hA H locs hS hP hD hQ ls hl => ?_)
  obtain ⟨hx, hb, hr, hown, hin, hml, hlocks, hn, hK, hZ, hSK⟩ := C0
  have hl : lv_has ls 2 [(0, .ref mm), (1, .int v0)] := hl
  refine lv_iload_n hx hb dX16_ended_0 rfl (lv_at hl 1 rfl) ?_
  refine lv_if_ne (tgt := 11) hx hb dX16_ended_1 (by decide) (fun c1_1 => ?_) (fun c1_1 => ?_)
  · have t1_2 := FF.mk (i_ne c1_1)
    refine lv_iload_n hx hb dX16_ended_11 rfl (lv_at hl 1 rfl) ?_
    refine lv_iconst (v := 1) hx hb dX16_ended_12 (by decide) ?_
    refine lv_icmp_ne (tgt := 23) hx hb dX16_ended_13 (by decide) (fun c13_1 => ?_) (fun c13_1 => ?_)
    · have t13_2 := FF.mk (i_ne c13_1)
      refine lv_iload_n hx hb dX16_ended_23 rfl (lv_at hl 1 rfl) ?_
      refine lv_iconst (v := 2) hx hb dX16_ended_24 (by decide) ?_
      refine lv_icmp_ne (tgt := 35) hx hb dX16_ended_25 (by decide) (fun c25_1 => ?_) (fun c25_1 => ?_)
      · have t25_2 := FF.mk (i_ne c25_1)
        refine lv_iconst (v := 0) hx hb dX16_ended_35 (by decide) ?_
        exact endq_i hQ hx hb hr hlocks dX16_ended_36 rfl () trivial hP hD hS [0] rfl (by decide) rfl (Nat.le_of_ble_eq_true rfl) (Nat.le_of_ble_eq_true rfl)
      · have t25_2 := FF.mk (i_eq c25_1)
        have r25_3 : rg v0 2 2 := rg_eqA t25_2 (rg_any v0) (show rg (2 : Int32) 2 2 from rg_l (by decide)) (by decide)
        refine lv_aload_n hx hb dX16_ended_28 rfl (lv_at hl 0 rfl) ?_
        refine va_get (D := D) (ci := 16) (v := .int x_mm_37) (C := RX16) (T := TX16) (N := 78) hx hb (htX16 hn) (fun _ h => h) hown hK hP 0 rfl rfl 37 (by decide) (hn.get mw_1576 rfl) (fun _ h9 => h9) hf_mm_37 dX16_ended_29 ?_
        refine lv_goto (tgt := 36) hx hb dX16_ended_32 (by decide) ?_
        exact endq_i hQ hx hb hr hlocks dX16_ended_36 rfl () trivial hP hD hS [0] rfl (by decide) rfl (Nat.le_of_ble_eq_true rfl) (Nat.le_of_ble_eq_true rfl)
    · have t13_2 := FF.mk (i_eq c13_1)
      have r13_3 : rg v0 1 1 := rg_eqA t13_2 (rg_any v0) (show rg (1 : Int32) 1 1 from rg_l (by decide)) (by decide)
      refine lv_aload_n hx hb dX16_ended_16 rfl (lv_at hl 0 rfl) ?_
      refine va_get (D := D) (ci := 16) (v := .int x_mm_36) (C := RX16) (T := TX16) (N := 78) hx hb (htX16 hn) (fun _ h => h) hown hK hP 0 rfl rfl 36 (by decide) (hn.get mw_1575 rfl) (fun _ h9 => h9) hf_mm_36 dX16_ended_17 ?_
      refine lv_goto (tgt := 36) hx hb dX16_ended_20 (by decide) ?_
      exact endq_i hQ hx hb hr hlocks dX16_ended_36 rfl () trivial hP hD hS [0] rfl (by decide) rfl (Nat.le_of_ble_eq_true rfl) (Nat.le_of_ble_eq_true rfl)
  · have t1_2 := FF.mk (i_eq c1_1)
    have r1_3 : rg v0 0 0 := rg_eqA t1_2 (rg_any v0) (show rg (0 : Int32) 0 0 from rg_l (by decide)) (by decide)
    refine lv_aload_n hx hb dX16_ended_4 rfl (lv_at hl 0 rfl) ?_
    refine va_get (D := D) (ci := 16) (v := .int x_mm_35) (C := RX16) (T := TX16) (N := 78) hx hb (htX16 hn) (fun _ h => h) hown hK hP 0 rfl rfl 35 (by decide) (hn.get mw_1574 rfl) (fun _ h9 => h9) hf_mm_35 dX16_ended_5 ?_
    refine lv_goto (tgt := 36) hx hb dX16_ended_8 (by decide) ?_
    exact endq_i hQ hx hb hr hlocks dX16_ended_36 rfl () trivial hP hD hS [0] rfl (by decide) rfl (Nat.le_of_ble_eq_true rfl) (Nat.le_of_ble_eq_true rfl)
set_option maxHeartbeats 2000000 in
theorem c_X16_register (l : Launch) (D : va_G) (ct : Nat → ClassId) (mm : Nat) (v0 : Int32) (fs_mm : List Value) (ureg : Nat) (x_mm_38 : Int32) (g_ureg : Nat → Int64) (hlen_mm : fs_mm.length = 78) (hf_mm_33 : fs_mm[33]? = some (.ref ureg)) (h_x_mm_38 : rg x_mm_38 0 1) (hf_mm_38 : fs_mm[38]? = some (.int x_mm_38)) : KL (S := Unit) l yX16_register cX16_register 2 (some .long) 1 20 D ct [.ref mm, .int v0] [(mm, .inr (16, fs_mm)), (ureg, .inl (ct 2, 32, .inr (.inl g_ureg)))] 0 0 (fun (r : Int64) (_ : Unit) => True) (fun (_ : Unit) => [(mm, .inr (16, fs_mm)), (ureg, .inl (ct 2, 32, .inr (.inl g_ureg)))]) := by
  refine KLq_of (by decide) (Nat.le_of_ble_eq_true rfl) (fun p e s m below meth c A Q C0 hA H locs hS hP hD hQ ls hl => ?_)
  obtain ⟨hx, hb, hr, hown, hin, hml, hlocks, hn, hK, hZ, hSK⟩ := C0
  have hl : lv_has ls 2 [(0, .ref mm), (1, .int v0)] := hl
  refine lv_iload_n hx hb dX16_register_0 rfl (lv_at hl 1 rfl) ?_
  refine lv_if_lt (tgt := 32) hx hb dX16_register_1 (by decide) (fun c1_1 => ?_) (fun c1_1 => ?_)
  · have t1_2 := FF.mk (i_lt c1_1)
    have r1_3 : rg v0 (-2147483648) (-1) := rg_ltA t1_2 (rg_any v0) (show rg (0 : Int32) 0 0 from rg_l (by decide)) (by decide)
    refine lv_lconst (v := 0) hx hb dX16_register_32 (by decide) ?_
    exact endq_l hQ hx hb hr hlocks dX16_register_33 () trivial hP hD hS [0, 1] rfl (by decide) rfl (Nat.le_of_ble_eq_true rfl) (Nat.le_of_ble_eq_true rfl)
  · have t1_2 := FF.mk (i_nlt c1_1)
    have r1_3 : rg v0 0 2147483647 := rg_leB t1_2 (show rg (0 : Int32) 0 0 from rg_l (by decide)) (rg_any v0) (by decide)
    refine lv_iload_n hx hb dX16_register_4 rfl (lv_at hl 1 rfl) ?_
    refine lv_bipush (v := 32) hx hb dX16_register_5 (by decide) ?_
    refine lv_icmp_ge (tgt := 32) hx hb dX16_register_7 (by decide) (fun c7_1 => ?_) (fun c7_1 => ?_)
    · have t7_2 := FF.mk (i_le c7_1)
      have r7_3 : rg v0 32 2147483647 := rg_leB t7_2 (show rg (32 : Int32) 32 32 from rg_l (by decide)) r1_3 (by decide)
      refine lv_lconst (v := 0) hx hb dX16_register_32 (by decide) ?_
      exact endq_l hQ hx hb hr hlocks dX16_register_33 () trivial hP hD hS [0, 1] rfl (by decide) rfl (Nat.le_of_ble_eq_true rfl) (Nat.le_of_ble_eq_true rfl)
    · have t7_2 := FF.mk (i_nle c7_1)
      have r7_3 : rg v0 0 31 := rg_ltA t7_2 r1_3 (show rg (32 : Int32) 32 32 from rg_l (by decide)) (by decide)
      refine lv_iload_n hx hb dX16_register_10 rfl (lv_at hl 1 rfl) ?_
      refine lv_bipush (v := 10) hx hb dX16_register_11 (by decide) ?_
      have b23 : ∀  (H : Heap) (locs : List Loc) (ls : Array Slot), lv_has ls 2 [(0, .ref mm), (1, .int v0)] → va_P D vwCl [(mm, .inr (16, fs_mm)), (ureg, .inl (ct 2, 32, .inr (.inl g_ureg)))] H → va_D A [(mm, .inr (16, fs_mm)), (ureg, .inl (ct 2, 32, .inr (.inl g_ureg)))] → va_S A s.heap H locs → W p l e ({ frames := 1, cells := 0, slots := 0, locals := 20 }) s m [.ref mm, .int v0].toArray below meth c H locs 0 0 Q (F0 m 23 ls []) := by
        intro  H locs ls  hl hP hD hS
        refine lv_aload_n hx hb dX16_register_23 rfl (lv_at hl 0 rfl) ?_
        refine va_get (D := D) (ci := 16) (v := .ref ureg) (C := RX16) (T := TX16) (N := 78) hx hb (htX16 hn) (fun _ h => h) hown hK hP 0 rfl rfl 33 (by decide) (hn.get mw_1572 rfl) (fun _ h9 => h9) hf_mm_33 dX16_register_24 ?_
        refine lv_iload_n hx hb dX16_register_27 rfl (lv_at hl 1 rfl) ?_
        have hi28_1 : vp_in v0 32 := (in_rg r7_3 (by decide))
        refine va_lald hx hb hK hP 1 2 rfl rfl hi28_1 dX16_register_28 ?_
        refine lv_topl (fun z28_2 ez28_2 => ?_)
        refine lv_goto (tgt := 33) hx hb dX16_register_29 (by decide) ?_
        exact endq_l hQ hx hb hr hlocks dX16_register_33 () trivial hP hD hS [0, 1] rfl (by decide) rfl (Nat.le_of_ble_eq_true rfl) (Nat.le_of_ble_eq_true rfl)
      refine lv_icmp_le (tgt := 23) hx hb dX16_register_13 (by decide) (fun c13_1 => ?_) (fun c13_1 => ?_)
      · have t13_2 := FF.mk (i_le c13_1)
        have r13_3 : rg v0 0 10 := rg_leA t13_2 r7_3 (show rg (10 : Int32) 10 10 from rg_l (by decide)) (by decide)
        exact b23  H locs ls  (lv_sub hl [0, 1] rfl) hP hD hS
      · have t13_2 := FF.mk (i_nle c13_1)
        have r13_3 : rg v0 11 31 := rg_ltB t13_2 (show rg (10 : Int32) 10 10 from rg_l (by decide)) r7_3 (by decide)
        refine lv_aload_n hx hb dX16_register_16 rfl (lv_at hl 0 rfl) ?_
        refine va_get (D := D) (ci := 16) (v := .int x_mm_38) (C := RX16) (T := TX16) (N := 78) hx hb (htX16 hn) (fun _ h => h) hown hK hP 0 rfl rfl 38 (by decide) (hn.get mw_1577 rfl) (fun _ h9 => h9) hf_mm_38 dX16_register_17 ?_
        refine lv_if_eq (tgt := 32) hx hb dX16_register_20 (by decide) (fun c20_1 => ?_) (fun c20_1 => ?_)
        · have t20_2 := FF.mk (i_eq c20_1)
          have r20_3 : rg x_mm_38 0 0 := rg_eqA t20_2 h_x_mm_38 (show rg (0 : Int32) 0 0 from rg_l (by decide)) (by decide)
          refine lv_lconst (v := 0) hx hb dX16_register_32 (by decide) ?_
          exact endq_l hQ hx hb hr hlocks dX16_register_33 () trivial hP hD hS [0, 1] rfl (by decide) rfl (Nat.le_of_ble_eq_true rfl) (Nat.le_of_ble_eq_true rfl)
        · have t20_2 := FF.mk (i_ne c20_1)
          have r20_3 : rg x_mm_38 1 1 := rg_neAl t20_2 h_x_mm_38 (show rg (0 : Int32) 0 0 from rg_l (by decide)) (by decide)
          exact b23  H locs ls  (lv_sub hl [0, 1] rfl) hP hD hS
set_option maxHeartbeats 2000000 in
theorem c_X16_stack (l : Launch) (D : va_G) (ct : Nat → ClassId) (mm : Nat) (v0 : Int32) (fs_mm : List Value) (ustk : Nat) (g_ustk : Nat → Int32) (hlen_mm : fs_mm.length = 78) (hf_mm_34 : fs_mm[34]? = some (.ref ustk)) (h_g_ustk : Rg g_ustk 64 0 255) : KI (S := Unit) l yX16_stack cX16_stack 2 (some .int) 1 20 D ct [.ref mm, .int v0] [(mm, .inr (16, fs_mm)), (ustk, .inl (ct 1, 64, .inl g_ustk))] 0 0 (fun (r : Int32) (_ : Unit) => rg r (-1) 255) (fun (_ : Unit) => [(mm, .inr (16, fs_mm)), (ustk, .inl (ct 1, 64, .inl g_ustk))]) := by
  refine KIq_of (by decide) (Nat.le_of_ble_eq_true rfl) (fun p e s m below meth c A Q C0 hA H locs hS hP hD hQ ls hl => ?_)
  obtain ⟨hx, hb, hr, hown, hin, hml, hlocks, hn, hK, hZ, hSK⟩ := C0
  have hl : lv_has ls 2 [(0, .ref mm), (1, .int v0)] := hl
  refine lv_iload_n hx hb dX16_stack_0 rfl (lv_at hl 1 rfl) ?_
  refine lv_if_lt (tgt := 19) hx hb dX16_stack_1 (by decide) (fun c1_1 => ?_) (fun c1_1 => ?_)
  · have t1_2 := FF.mk (i_lt c1_1)
    have r1_3 : rg v0 (-2147483648) (-1) := rg_ltA t1_2 (rg_any v0) (show rg (0 : Int32) 0 0 from rg_l (by decide)) (by decide)
    refine lv_iconst (v := (-1)) hx hb dX16_stack_19 (by decide) ?_
    exact endq_i hQ hx hb hr hlocks dX16_stack_20 rfl () (rg_w (show rg ((-1) : Int32) (-1) (-1) from rg_l (by decide)) (by decide)) hP hD hS [0, 1] rfl (by decide) rfl (Nat.le_of_ble_eq_true rfl) (Nat.le_of_ble_eq_true rfl)
  · have t1_2 := FF.mk (i_nlt c1_1)
    have r1_3 : rg v0 0 2147483647 := rg_leB t1_2 (show rg (0 : Int32) 0 0 from rg_l (by decide)) (rg_any v0) (by decide)
    refine lv_iload_n hx hb dX16_stack_4 rfl (lv_at hl 1 rfl) ?_
    refine lv_bipush (v := 64) hx hb dX16_stack_5 (by decide) ?_
    refine lv_icmp_ge (tgt := 19) hx hb dX16_stack_7 (by decide) (fun c7_1 => ?_) (fun c7_1 => ?_)
    · have t7_2 := FF.mk (i_le c7_1)
      have r7_3 : rg v0 64 2147483647 := rg_leB t7_2 (show rg (64 : Int32) 64 64 from rg_l (by decide)) r1_3 (by decide)
      refine lv_iconst (v := (-1)) hx hb dX16_stack_19 (by decide) ?_
      exact endq_i hQ hx hb hr hlocks dX16_stack_20 rfl () (rg_w (show rg ((-1) : Int32) (-1) (-1) from rg_l (by decide)) (by decide)) hP hD hS [0, 1] rfl (by decide) rfl (Nat.le_of_ble_eq_true rfl) (Nat.le_of_ble_eq_true rfl)
    · have t7_2 := FF.mk (i_nle c7_1)
      have r7_3 : rg v0 0 63 := rg_ltA t7_2 r1_3 (show rg (64 : Int32) 64 64 from rg_l (by decide)) (by decide)
      refine lv_aload_n hx hb dX16_stack_10 rfl (lv_at hl 0 rfl) ?_
      refine va_get (D := D) (ci := 16) (v := .ref ustk) (C := RX16) (T := TX16) (N := 78) hx hb (htX16 hn) (fun _ h => h) hown hK hP 0 rfl rfl 34 (by decide) (hn.get mw_1573 rfl) (fun _ h9 => h9) hf_mm_34 dX16_stack_11 ?_
      refine lv_iload_n hx hb dX16_stack_14 rfl (lv_at hl 1 rfl) ?_
      have hi15_1 : vp_in v0 64 := (in_rg r7_3 (by decide))
      refine va_iald hx hb hK hP 1 1 rfl rfl hi15_1 dX16_stack_15 ?_
      refine lv_topi (fun z15_2 ez15_2 => ?_)
      have r15_3 : rg z15_2 0 255 := Rg_at h_g_ustk hi15_1 ez15_2
      refine lv_goto (tgt := 20) hx hb dX16_stack_16 (by decide) ?_
      exact endq_i hQ hx hb hr hlocks dX16_stack_20 rfl () (rg_w r15_3 (by decide)) hP hD hS [0, 1] rfl (by decide) rfl (Nat.le_of_ble_eq_true rfl) (Nat.le_of_ble_eq_true rfl)
set_option maxHeartbeats 2000000 in
theorem c_X16_instruction (l : Launch) (D : va_G) (ct : Nat → ClassId) (mm : Nat) (v0 : Int32) (fs_mm : List Value) (upg : Nat) (g_upg : Nat → Int64) (PL : Nat) (hlen_mm : fs_mm.length = 78) (hf_mm_26 : fs_mm[26]? = some (.ref upg)) (hq0 : ((PL : Nat) : Int) ≤ 4000) : KL (S := Unit) l yX16_instruction cX16_instruction 2 (some .long) 1 20 D ct [.ref mm, .int v0] [(mm, .inr (16, fs_mm)), (upg, .inl (ct 2, PL, .inr (.inl g_upg)))] 0 0 (fun (r : Int64) (_ : Unit) => True) (fun (_ : Unit) => [(mm, .inr (16, fs_mm)), (upg, .inl (ct 2, PL, .inr (.inl g_upg)))]) := by
  refine KLq_of (by decide) (Nat.le_of_ble_eq_true rfl) (fun p e s m below meth c A Q C0 hA H locs hS hP hD hQ ls hl => ?_)
  obtain ⟨hx, hb, hr, hown, hin, hml, hlocks, hn, hK, hZ, hSK⟩ := C0
  have hl : lv_has ls 2 [(0, .ref mm), (1, .int v0)] := hl
  replace hq0 := FF.mk hq0
  refine lv_iload_n hx hb dX16_instruction_0 rfl (lv_at hl 1 rfl) ?_
  refine lv_if_lt (tgt := 22) hx hb dX16_instruction_1 (by decide) (fun c1_1 => ?_) (fun c1_1 => ?_)
  · have t1_2 := FF.mk (i_lt c1_1)
    have r1_3 : rg v0 (-2147483648) (-1) := rg_ltA t1_2 (rg_any v0) (show rg (0 : Int32) 0 0 from rg_l (by decide)) (by decide)
    refine lv_lconst (v := 0) hx hb dX16_instruction_22 (by decide) ?_
    exact endq_l hQ hx hb hr hlocks dX16_instruction_23 () trivial hP hD hS [0, 1] rfl (by decide) rfl (Nat.le_of_ble_eq_true rfl) (Nat.le_of_ble_eq_true rfl)
  · have t1_2 := FF.mk (i_nlt c1_1)
    have r1_3 : rg v0 0 2147483647 := rg_leB t1_2 (show rg (0 : Int32) 0 0 from rg_l (by decide)) (rg_any v0) (by decide)
    refine lv_iload_n hx hb dX16_instruction_4 rfl (lv_at hl 1 rfl) ?_
    refine lv_aload_n hx hb dX16_instruction_5 rfl (lv_at hl 0 rfl) ?_
    refine va_get (D := D) (ci := 16) (v := .ref upg) (C := RX16) (T := TX16) (N := 78) hx hb (htX16 hn) (fun _ h => h) hown hK hP 0 rfl rfl 26 (by decide) (hn.get mw_1565 rfl) (fun _ h9 => h9) hf_mm_26 dX16_instruction_6 ?_
    refine va_alen hx hb hK hP 1 2 rfl rfl rfl dX16_instruction_9 ?_
    refine lv_topi (fun z9_1 ez9_1 => ?_)
    have r9_2 : rg z9_1 0 4000 := rg_len ez9_1 (nat4 (FF.out hq0)) (by decide)
    refine lv_icmp_ge (tgt := 22) hx hb dX16_instruction_10 (by decide) (fun c10_1 => ?_) (fun c10_1 => ?_)
    · have t10_2 := FF.mk (i_le c10_1)
      refine lv_lconst (v := 0) hx hb dX16_instruction_22 (by decide) ?_
      exact endq_l hQ hx hb hr hlocks dX16_instruction_23 () trivial hP hD hS [0, 1] rfl (by decide) rfl (Nat.le_of_ble_eq_true rfl) (Nat.le_of_ble_eq_true rfl)
    · have t10_2 := FF.mk (i_nle c10_1)
      have r10_3 : rg v0 0 3999 := rg_ltA t10_2 r1_3 r9_2 (by decide)
      have r10_4 : rg z9_1 1 4000 := rg_ltB t10_2 r1_3 r9_2 (by decide)
      refine lv_aload_n hx hb dX16_instruction_13 rfl (lv_at hl 0 rfl) ?_
      refine va_get (D := D) (ci := 16) (v := .ref upg) (C := RX16) (T := TX16) (N := 78) hx hb (htX16 hn) (fun _ h => h) hown hK hP 0 rfl rfl 26 (by decide) (hn.get mw_1565 rfl) (fun _ h9 => h9) hf_mm_26 dX16_instruction_14 ?_
      refine lv_iload_n hx hb dX16_instruction_17 rfl (lv_at hl 1 rfl) ?_
      have hi18_1 : vp_in v0 PL := (in_of (show 0 ≤ v0.toInt ∧ v0.toInt < ((PL : Nat) : Int) by have q0 := r10_3.1; have q1 := (eq_len ez9_1 (nat4 (FF.out hq0)) (by decide)); have q2 := FF.out t10_2; omega))
      refine va_lald hx hb hK hP 1 2 rfl rfl hi18_1 dX16_instruction_18 ?_
      refine lv_topl (fun z18_2 ez18_2 => ?_)
      refine lv_goto (tgt := 23) hx hb dX16_instruction_19 (by decide) ?_
      exact endq_l hQ hx hb hr hlocks dX16_instruction_23 () trivial hP hD hS [0, 1] rfl (by decide) rfl (Nat.le_of_ble_eq_true rfl) (Nat.le_of_ble_eq_true rfl)
set_option maxHeartbeats 2000000 in
theorem c_X16_count (l : Launch) (D : va_G) (ct : Nat → ClassId) (mm : Nat) (v0 : Int32) (fs_mm : List Value) (x_mm_1 : Int32) (x_mm_4 : Int32) (x_mm_15 : Int32) (x_mm_19 : Int32) (upg : Nat) (x_mm_70 : Int32) (g_upg : Nat → Int64) (PL : Nat) (hlen_mm : fs_mm.length = 78) (h_x_mm_1 : rg x_mm_1 0 2000) (hf_mm_1 : fs_mm[1]? = some (.int x_mm_1)) (h_x_mm_4 : rg x_mm_4 0 16) (hf_mm_4 : fs_mm[4]? = some (.int x_mm_4)) (hf_mm_15 : fs_mm[15]? = some (.int x_mm_15)) (hf_mm_19 : fs_mm[19]? = some (.int x_mm_19)) (hf_mm_26 : fs_mm[26]? = some (.ref upg)) (h_x_mm_70 : rg x_mm_70 0 60000) (hf_mm_70 : fs_mm[70]? = some (.int x_mm_70)) (hq0 : ((PL : Nat) : Int) ≤ 4000) : KI (S := Unit) l yX16_count cX16_count 2 (some .int) 1 20 D ct [.ref mm, .int v0] [(mm, .inr (16, fs_mm)), (upg, .inl (ct 2, PL, .inr (.inl g_upg)))] 0 0 (fun (r : Int32) (_ : Unit) => True) (fun (_ : Unit) => [(mm, .inr (16, fs_mm)), (upg, .inl (ct 2, PL, .inr (.inl g_upg)))]) := by
  refine KIq_of (by decide) (Nat.le_of_ble_eq_true rfl) (fun p e s m below meth c A Q C0 hA H locs hS hP hD hQ ls hl => ?_)
  obtain ⟨hx, hb, hr, hown, hin, hml, hlocks, hn, hK, hZ, hSK⟩ := C0
  have hl : lv_has ls 2 [(0, .ref mm), (1, .int v0)] := hl
  replace hq0 := FF.mk hq0
  refine lv_iload_n hx hb dX16_count_0 rfl (lv_at hl 1 rfl) ?_
  by_cases h1_101 : v0.toInt = 0
  · have r1_102 : rg v0 0 0 := rg_at h1_101
    refine lv_tableIn (off := 39) (tgt := 40) hx hb dX16_count_1 (by rw [h1_101]; decide) (by rw [h1_101]; decide) (by rw [h1_101]; rfl) (by decide) ?_
    refine lv_aload_n hx hb dX16_count_40 rfl (lv_at hl 0 rfl) ?_
    refine va_get (D := D) (ci := 16) (v := .int x_mm_4) (C := RX16) (T := TX16) (N := 78) hx hb (htX16 hn) (fun _ h => h) hown hK hP 0 rfl rfl 4 (by decide) (hn.get mw_1543 rfl) (fun _ h9 => h9) hf_mm_4 dX16_count_41 ?_
    exact endq_i hQ hx hb hr hlocks dX16_count_44 rfl () trivial hP hD hS [0, 1] rfl (by decide) rfl (Nat.le_of_ble_eq_true rfl) (Nat.le_of_ble_eq_true rfl)
  by_cases h1_111 : v0.toInt = 1
  · have r1_112 : rg v0 1 1 := rg_at h1_111
    refine lv_tableIn (off := 44) (tgt := 45) hx hb dX16_count_1 (by rw [h1_111]; decide) (by rw [h1_111]; decide) (by rw [h1_111]; rfl) (by decide) ?_
    refine lv_aload_n hx hb dX16_count_45 rfl (lv_at hl 0 rfl) ?_
    refine va_get (D := D) (ci := 16) (v := .ref upg) (C := RX16) (T := TX16) (N := 78) hx hb (htX16 hn) (fun _ h => h) hown hK hP 0 rfl rfl 26 (by decide) (hn.get mw_1565 rfl) (fun _ h9 => h9) hf_mm_26 dX16_count_46 ?_
    refine va_alen hx hb hK hP 1 2 rfl rfl rfl dX16_count_49 ?_
    refine lv_topi (fun z49_1 ez49_1 => ?_)
    have r49_2 : rg z49_1 0 4000 := rg_len ez49_1 (nat4 (FF.out hq0)) (by decide)
    exact endq_i hQ hx hb hr hlocks dX16_count_50 rfl () trivial hP hD hS [0, 1] rfl (by decide) rfl (Nat.le_of_ble_eq_true rfl) (Nat.le_of_ble_eq_true rfl)
  by_cases h1_121 : v0.toInt = 2
  · have r1_122 : rg v0 2 2 := rg_at h1_121
    refine lv_tableIn (off := 50) (tgt := 51) hx hb dX16_count_1 (by rw [h1_121]; decide) (by rw [h1_121]; decide) (by rw [h1_121]; rfl) (by decide) ?_
    refine lv_aload_n hx hb dX16_count_51 rfl (lv_at hl 0 rfl) ?_
    refine va_get (D := D) (ci := 16) (v := .int x_mm_70) (C := RX16) (T := TX16) (N := 78) hx hb (htX16 hn) (fun _ h => h) hown hK hP 0 rfl rfl 70 (by decide) (hn.get mw_1609 rfl) (fun _ h9 => h9) hf_mm_70 dX16_count_52 ?_
    exact endq_i hQ hx hb hr hlocks dX16_count_55 rfl () trivial hP hD hS [0, 1] rfl (by decide) rfl (Nat.le_of_ble_eq_true rfl) (Nat.le_of_ble_eq_true rfl)
  by_cases h1_131 : v0.toInt = 3
  · have r1_132 : rg v0 3 3 := rg_at h1_131
    refine lv_tableIn (off := 55) (tgt := 56) hx hb dX16_count_1 (by rw [h1_131]; decide) (by rw [h1_131]; decide) (by rw [h1_131]; rfl) (by decide) ?_
    refine lv_aload_n hx hb dX16_count_56 rfl (lv_at hl 0 rfl) ?_
    refine va_get (D := D) (ci := 16) (v := .int x_mm_1) (C := RX16) (T := TX16) (N := 78) hx hb (htX16 hn) (fun _ h => h) hown hK hP 0 rfl rfl 1 (by decide) (hn.get mw_1540 rfl) (fun _ h9 => h9) hf_mm_1 dX16_count_57 ?_
    exact endq_i hQ hx hb hr hlocks dX16_count_60 rfl () trivial hP hD hS [0, 1] rfl (by decide) rfl (Nat.le_of_ble_eq_true rfl) (Nat.le_of_ble_eq_true rfl)
  by_cases h1_141 : v0.toInt = 4
  · have r1_142 : rg v0 4 4 := rg_at h1_141
    refine lv_tableIn (off := 60) (tgt := 61) hx hb dX16_count_1 (by rw [h1_141]; decide) (by rw [h1_141]; decide) (by rw [h1_141]; rfl) (by decide) ?_
    refine lv_aload_n hx hb dX16_count_61 rfl (lv_at hl 0 rfl) ?_
    refine va_get (D := D) (ci := 16) (v := .int x_mm_15) (C := RX16) (T := TX16) (N := 78) hx hb (htX16 hn) (fun _ h => h) hown hK hP 0 rfl rfl 15 (by decide) (hn.get mw_1554 rfl) (fun _ h9 => h9) hf_mm_15 dX16_count_62 ?_
    exact endq_i hQ hx hb hr hlocks dX16_count_65 rfl () trivial hP hD hS [0, 1] rfl (by decide) rfl (Nat.le_of_ble_eq_true rfl) (Nat.le_of_ble_eq_true rfl)
  by_cases h1_151 : v0.toInt = 5
  · have r1_152 : rg v0 5 5 := rg_at h1_151
    refine lv_tableIn (off := 65) (tgt := 66) hx hb dX16_count_1 (by rw [h1_151]; decide) (by rw [h1_151]; decide) (by rw [h1_151]; rfl) (by decide) ?_
    refine lv_aload_n hx hb dX16_count_66 rfl (lv_at hl 0 rfl) ?_
    refine va_get (D := D) (ci := 16) (v := .int x_mm_19) (C := RX16) (T := TX16) (N := 78) hx hb (htX16 hn) (fun _ h => h) hown hK hP 0 rfl rfl 19 (by decide) (hn.get mw_1558 rfl) (fun _ h9 => h9) hf_mm_19 dX16_count_67 ?_
    exact endq_i hQ hx hb hr hlocks dX16_count_70 rfl () trivial hP hD hS [0, 1] rfl (by decide) rfl (Nat.le_of_ble_eq_true rfl) (Nat.le_of_ble_eq_true rfl)
  refine lv_tableOut (tgt := 71) hx hb dX16_count_1 (by have q0 := (rg_any v0); have q1 := q0.1; have q2 := q0.2; omega) (by decide) ?_
  have hl1_5001 := FF.mk h1_101
  have hl1_5002 := FF.mk h1_111
  have hl1_5003 := FF.mk h1_121
  have hl1_5004 := FF.mk h1_131
  have hl1_5005 := FF.mk h1_141
  have hl1_5006 := FF.mk h1_151
  refine lv_iconst (v := (-1)) hx hb dX16_count_71 (by decide) ?_
  exact endq_i hQ hx hb hr hlocks dX16_count_72 rfl () trivial hP hD hS [0, 1] rfl (by decide) rfl (Nat.le_of_ble_eq_true rfl) (Nat.le_of_ble_eq_true rfl)
set_option maxHeartbeats 2000000 in
theorem c_X16_word (l : Launch) (D : va_G) (ct : Nat → ClassId) (mm : Nat) (v0 : Int32) (fs_mm : List Value) (uob : Nat) (x_mm_70 : Int32) (g_uob : Nat → Int32) (hlen_mm : fs_mm.length = 78) (hf_mm_69 : fs_mm[69]? = some (.ref uob)) (h_x_mm_70 : rg x_mm_70 0 60000) (hf_mm_70 : fs_mm[70]? = some (.int x_mm_70)) : KI (S := Unit) l yX16_word cX16_word 2 (some .int) 1 20 D ct [.ref mm, .int v0] [(mm, .inr (16, fs_mm)), (uob, .inl (ct 1, 60000, .inl g_uob))] 0 0 (fun (r : Int32) (_ : Unit) => True) (fun (_ : Unit) => [(mm, .inr (16, fs_mm)), (uob, .inl (ct 1, 60000, .inl g_uob))]) := by
  refine KIq_of (by decide) (Nat.le_of_ble_eq_true rfl) (fun p e s m below meth c A Q C0 hA H locs hS hP hD hQ ls hl => ?_)
  obtain ⟨hx, hb, hr, hown, hin, hml, hlocks, hn, hK, hZ, hSK⟩ := C0
  have hl : lv_has ls 2 [(0, .ref mm), (1, .int v0)] := hl
  refine lv_iload_n hx hb dX16_word_0 rfl (lv_at hl 1 rfl) ?_
  refine lv_if_lt (tgt := 21) hx hb dX16_word_1 (by decide) (fun c1_1 => ?_) (fun c1_1 => ?_)
  · have t1_2 := FF.mk (i_lt c1_1)
    have r1_3 : rg v0 (-2147483648) (-1) := rg_ltA t1_2 (rg_any v0) (show rg (0 : Int32) 0 0 from rg_l (by decide)) (by decide)
    refine lv_iconst (v := 0) hx hb dX16_word_21 (by decide) ?_
    exact endq_i hQ hx hb hr hlocks dX16_word_22 rfl () trivial hP hD hS [0, 1] rfl (by decide) rfl (Nat.le_of_ble_eq_true rfl) (Nat.le_of_ble_eq_true rfl)
  · have t1_2 := FF.mk (i_nlt c1_1)
    have r1_3 : rg v0 0 2147483647 := rg_leB t1_2 (show rg (0 : Int32) 0 0 from rg_l (by decide)) (rg_any v0) (by decide)
    refine lv_iload_n hx hb dX16_word_4 rfl (lv_at hl 1 rfl) ?_
    refine lv_aload_n hx hb dX16_word_5 rfl (lv_at hl 0 rfl) ?_
    refine va_get (D := D) (ci := 16) (v := .int x_mm_70) (C := RX16) (T := TX16) (N := 78) hx hb (htX16 hn) (fun _ h => h) hown hK hP 0 rfl rfl 70 (by decide) (hn.get mw_1609 rfl) (fun _ h9 => h9) hf_mm_70 dX16_word_6 ?_
    refine lv_icmp_ge (tgt := 21) hx hb dX16_word_9 (by decide) (fun c9_1 => ?_) (fun c9_1 => ?_)
    · have t9_2 := FF.mk (i_le c9_1)
      refine lv_iconst (v := 0) hx hb dX16_word_21 (by decide) ?_
      exact endq_i hQ hx hb hr hlocks dX16_word_22 rfl () trivial hP hD hS [0, 1] rfl (by decide) rfl (Nat.le_of_ble_eq_true rfl) (Nat.le_of_ble_eq_true rfl)
    · have t9_2 := FF.mk (i_nle c9_1)
      have r9_3 : rg v0 0 59999 := rg_ltA t9_2 r1_3 h_x_mm_70 (by decide)
      have r9_4 : rg x_mm_70 1 60000 := rg_ltB t9_2 r1_3 h_x_mm_70 (by decide)
      refine lv_aload_n hx hb dX16_word_12 rfl (lv_at hl 0 rfl) ?_
      refine va_get (D := D) (ci := 16) (v := .ref uob) (C := RX16) (T := TX16) (N := 78) hx hb (htX16 hn) (fun _ h => h) hown hK hP 0 rfl rfl 69 (by decide) (hn.get mw_1608 rfl) (fun _ h9 => h9) hf_mm_69 dX16_word_13 ?_
      refine lv_iload_n hx hb dX16_word_16 rfl (lv_at hl 1 rfl) ?_
      have hi17_1 : vp_in v0 60000 := (in_rg r9_3 (by decide))
      refine va_iald hx hb hK hP 1 1 rfl rfl hi17_1 dX16_word_17 ?_
      refine lv_topi (fun z17_2 ez17_2 => ?_)
      refine lv_goto (tgt := 22) hx hb dX16_word_18 (by decide) ?_
      exact endq_i hQ hx hb hr hlocks dX16_word_22 rfl () trivial hP hD hS [0, 1] rfl (by decide) rfl (Nat.le_of_ble_eq_true rfl) (Nat.le_of_ble_eq_true rfl)
set_option maxHeartbeats 2000000 in
theorem c_X16_set (l : Launch) (D : va_G) (ct : Nat → ClassId) (mm : Nat) (v0 : Int32) (v1 : Int64) (fs_mm : List Value) (ureg : Nat) (g_ureg : Nat → Int64) (h_v0 : rg v0 0 31) (hlen_mm : fs_mm.length = 78) (hf_mm_33 : fs_mm[33]? = some (.ref ureg)) : KV (S := (Nat → Int64)) l yX16_set cX16_set 4 none 1 20 D ct [.ref mm, .int v0, .long v1] [(mm, .inr (16, fs_mm)), (ureg, .inl (ct 2, 32, .inr (.inl g_ureg)))] 0 0 (fun (k_ureg : (Nat → Int64)) => True) (fun (k_ureg : (Nat → Int64)) => [(mm, .inr (16, fs_mm)), (ureg, .inl (ct 2, 32, .inr (.inl k_ureg)))]) := by
  refine KVq_of (by decide) (Nat.le_of_ble_eq_true rfl) (fun p e s m below meth c A Q C0 hA H locs hS hP hD hQ ls hl => ?_)
  obtain ⟨hx, hb, hr, hown, hin, hml, hlocks, hn, hK, hZ, hSK⟩ := C0
  have hl : lv_has ls 4 [(0, .ref mm), (1, .int v0), (2, .long v1)] := hl
  refine lv_iload_n hx hb dX16_set_0 rfl (lv_at hl 1 rfl) ?_
  refine lv_if_eq (tgt := 11) hx hb dX16_set_1 (by decide) (fun c1_1 => ?_) (fun c1_1 => ?_)
  · have t1_2 := FF.mk (i_eq c1_1)
    have r1_3 : rg v0 0 0 := rg_eqA t1_2 h_v0 (show rg (0 : Int32) 0 0 from rg_l (by decide)) (by decide)
    exact endq_v hQ hx hb hr hlocks dX16_set_11 g_ureg trivial hP hD hS [0, 1] rfl (by decide) rfl (Nat.le_of_ble_eq_true rfl) (Nat.le_of_ble_eq_true rfl)
  · have t1_2 := FF.mk (i_ne c1_1)
    have r1_3 : rg v0 1 31 := rg_neAl t1_2 h_v0 (show rg (0 : Int32) 0 0 from rg_l (by decide)) (by decide)
    refine lv_aload_n hx hb dX16_set_4 rfl (lv_at hl 0 rfl) ?_
    refine va_get (D := D) (ci := 16) (v := .ref ureg) (C := RX16) (T := TX16) (N := 78) hx hb (htX16 hn) (fun _ h => h) hown hK hP 0 rfl rfl 33 (by decide) (hn.get mw_1572 rfl) (fun _ h9 => h9) hf_mm_33 dX16_set_5 ?_
    refine lv_iload_n hx hb dX16_set_8 rfl (lv_at hl 1 rfl) ?_
    refine lv_lload_n hx hb dX16_set_9 rfl (lv_at hl 2 rfl) ?_
    have hi10_1 : vp_in v0 32 := (in_rg r1_3 (by decide))
    refine va_last hx hb hK hP hD hS 1 2 rfl rfl hi10_1 dX16_set_10 (fun H locs hP hD hS => ?_)
    have hP : va_P D vwCl [(mm, .inr (16, fs_mm)), (ureg, .inl (ct 2, 32, .inr (.inl (vp_updL g_ureg v0.toNatClampNeg v1))))] _ := hP
    have hD : va_D A [(mm, .inr (16, fs_mm)), (ureg, .inl (ct 2, 32, .inr (.inl (vp_updL g_ureg v0.toNatClampNeg v1))))] := hD
    obtain ⟨f10_2, ef10_2⟩ : ∃ z, z = (vp_updL g_ureg v0.toNatClampNeg v1) := ⟨_, rfl⟩
    rw [← ef10_2] at hP hD
    exact endq_v hQ hx hb hr hlocks dX16_set_11 f10_2 trivial hP hD hS [0, 1] rfl (by decide) rfl (Nat.le_of_ble_eq_true rfl) (Nat.le_of_ble_eq_true rfl)
set_option maxHeartbeats 2000000 in
theorem c_X16_isThere (l : Launch) (D : va_G) (ct : Nat → ClassId) (mm : Nat) (v0 : Int32) (v1 : Int64) (v2 : Int32) (v3 : Int32) (fs_mm : List Value) (upl_ : Nat) (g_upl_ : Nat → Int32) (h_v0 : rg v0 0 15) (h_v2 : rg v2 0 8) (h_v3 : rg v3 0 1) (hlen_mm : fs_mm.length = 78) (hf_mm_3 : fs_mm[3]? = some (.ref upl_)) (h_g_upl_ : Rg g_upl_ 16 0 256) : KI (S := Unit) l yX16_isThere cX16_isThere 7 (some .boolean) 2 42 D ct [.ref mm, .int v0, .long v1, .int v2, .int v3] [(mm, .inr (16, fs_mm)), (upl_, .inl (ct 1, 16, .inl g_upl_))] 0 0 (fun (r : Int32) (_ : Unit) => rg r 0 1 ∧ (r.toInt = 1 → (v3.toInt = 0 ∧ 65536 ≤ v1.toInt ∧ v1.toInt ≤ 65792 - v2.toInt) ∨ (131072 ≤ v1.toInt ∧ v1.toInt ≤ 131136 - v2.toInt))) (fun (_ : Unit) => [(mm, .inr (16, fs_mm)), (upl_, .inl (ct 1, 16, .inl g_upl_))]) := by
  refine KIq_of (by decide) (Nat.le_of_ble_eq_true rfl) (fun p e s m below meth c A Q C0 hA H locs hS hP hD hQ ls hl => ?_)
  obtain ⟨hx, hb, hr, hown, hin, hml, hlocks, hn, hK, hZ, hSK⟩ := C0
  have hl : lv_has ls 7 [(0, .ref mm), (1, .int v0), (2, .long v1), (4, .int v2), (5, .int v3)] := hl
  refine lv_iload hx hb dX16_isThere_0 (lv_at hl 4 rfl) ?_
  have b38 : ∀ (j38_s0 : Int32) (H : Heap) (locs : List Loc) (ls : Array Slot), (rg j38_s0 0 1) → (FF (j38_s0.toInt = 1 → v3.toInt = 0 ∧ 65536 ≤ v1.toInt ∧ v1.toInt ≤ 65792 - v2.toInt)) → lv_has ls 7 [(2, .long v1), (4, .int v2)] → va_P D vwCl [(mm, .inr (16, fs_mm)), (upl_, .inl (ct 1, 16, .inl g_upl_))] H → va_D A [(mm, .inr (16, fs_mm)), (upl_, .inl (ct 1, 16, .inl g_upl_))] → va_S A s.heap H locs → W p l e ({ frames := 2, cells := 0, slots := 0, locals := 42 }) s m [.ref mm, .int v0, .long v1, .int v2, .int v3].toArray below meth c H locs 0 0 Q (F0 m 38 ls [.int j38_s0]) := by
    intro j38_s0 H locs ls r38_1001 hi38_1002 hl hP hD hS
    refine lv_istore (lv' := [(6, .int j38_s0), (2, .long v1), (4, .int v2)]) hx hb dX16_isThere_38 hl (by decide) rfl (fun ls hl => ?_)
    refine lv_iload hx hb dX16_isThere_40 (lv_at hl 0 rfl) ?_
    refine lv_if_ne (tgt := 54) hx hb dX16_isThere_42 (by decide) (fun c42_1 => ?_) (fun c42_1 => ?_)
    · have t42_2 := FF.mk (i_ne c42_1)
      have r42_3 : rg j38_s0 1 1 := rg_neAl t42_2 r38_1001 (show rg (0 : Int32) 0 0 from rg_l (by decide)) (by decide)
      refine lv_iconst (v := 1) hx hb dX16_isThere_54 (by decide) ?_
      refine lv_goto (tgt := 59) hx hb dX16_isThere_55 (by decide) ?_
      exact endq_i hQ hx hb hr hlocks dX16_isThere_59 (by decide) () ⟨(rg_w (show rg (1 : Int32) 1 1 from rg_l (by decide)) (by decide)), (show (1 : Int32).toInt = 1 → (v3.toInt = 0 ∧ 65536 ≤ v1.toInt ∧ v1.toInt ≤ 65792 - v2.toInt) ∨ (131072 ≤ v1.toInt ∧ v1.toInt ≤ 131136 - v2.toInt) by have q0 := h_v3.1; have q1 := r42_3.1; have q2 := r42_3.2; have q3 := FF.out hi38_1002; have q4 := (show (1 : Int32).toInt = 1 from by decide); omega)⟩ hP hD hS [0, 1] rfl (by decide) rfl (Nat.le_of_ble_eq_true rfl) (Nat.le_of_ble_eq_true rfl)
    · have t42_2 := FF.mk (i_eq c42_1)
      have r42_3 : rg j38_s0 0 0 := rg_eqA t42_2 r38_1001 (show rg (0 : Int32) 0 0 from rg_l (by decide)) (by decide)
      refine lv_lload_n hx hb dX16_isThere_45 rfl (lv_at hl 1 rfl) ?_
      refine lv_iload hx hb dX16_isThere_46 (lv_at hl 2 rfl) ?_
      refine go_i (k1 := 0) (n1 := 0) (wr := [(mm, .inr (16, fs_mm)), (upl_, .inl (ct 1, 16, .inl g_upl_))]) [] [0, 1] (rn_S (As := [.long v1, .int v2]) (rest := []) (c_X16_isStack l D ct v1 v2 h_v2 _) (cb_of (n := 2) hn mw_2384 mw_13 mw_2382 mhX16_isStack ⟨(Nat.le_of_ble_eq_true rfl), (Nat.le_of_ble_eq_true rfl)⟩) hx hb hml hown hn hK hSK hZ hS mw_2383 rfl hl.1 (Nat.le_of_ble_eq_true rfl) dX16_isThere_48 ⟨(Nat.le_of_ble_eq_true rfl), (Nat.le_of_ble_eq_true rfl)⟩) hP hD hS hA rfl rfl (by decide) (by decide) (by decide) (Nat.le_of_ble_eq_true rfl) (Nat.le_of_ble_eq_true rfl) (fun r48_1 u48_2 H locs hp48_3 hP hD hS => ?_)
      obtain ⟨hp48_4, hp48_5⟩ := hp48_3
      have hp48_4 : rg r48_1 0 1 := hp48_4
      replace hp48_5 : FF (r48_1.toInt = 1 → 131072 ≤ v1.toInt ∧ v1.toInt ≤ 131136 - v2.toInt) := hp48_5
      have hP : va_P D vwCl [(mm, .inr (16, fs_mm)), (upl_, .inl (ct 1, 16, .inl g_upl_))] _ := hP
      have hD : va_D A [(mm, .inr (16, fs_mm)), (upl_, .inl (ct 1, 16, .inl g_upl_))] := hD
      refine lv_if_eq (tgt := 58) hx hb dX16_isThere_51 (by decide) (fun c51_1 => ?_) (fun c51_1 => ?_)
      · have t51_2 := FF.mk (i_eq c51_1)
        have r51_3 : rg r48_1 0 0 := rg_eqA t51_2 hp48_4 (show rg (0 : Int32) 0 0 from rg_l (by decide)) (by decide)
        refine lv_iconst (v := 0) hx hb dX16_isThere_58 (by decide) ?_
        exact endq_i hQ hx hb hr hlocks dX16_isThere_59 (by decide) () ⟨(rg_w (show rg (0 : Int32) 0 0 from rg_l (by decide)) (by decide)), (show (0 : Int32).toInt = 1 → (v3.toInt = 0 ∧ 65536 ≤ v1.toInt ∧ v1.toInt ≤ 65792 - v2.toInt) ∨ (131072 ≤ v1.toInt ∧ v1.toInt ≤ 131136 - v2.toInt) by have q0 := (show (0 : Int32).toInt = 0 from by decide); omega)⟩ hP hD hS [0, 1] rfl (by decide) rfl (Nat.le_of_ble_eq_true rfl) (Nat.le_of_ble_eq_true rfl)
      · have t51_2 := FF.mk (i_ne c51_1)
        have r51_3 : rg r48_1 1 1 := rg_neAl t51_2 hp48_4 (show rg (0 : Int32) 0 0 from rg_l (by decide)) (by decide)
        refine lv_iconst (v := 1) hx hb dX16_isThere_54 (by decide) ?_
        refine lv_goto (tgt := 59) hx hb dX16_isThere_55 (by decide) ?_
        exact endq_i hQ hx hb hr hlocks dX16_isThere_59 (by decide) () ⟨(rg_w (show rg (1 : Int32) 1 1 from rg_l (by decide)) (by decide)), (show (1 : Int32).toInt = 1 → (v3.toInt = 0 ∧ 65536 ≤ v1.toInt ∧ v1.toInt ≤ 65792 - v2.toInt) ∨ (131072 ≤ v1.toInt ∧ v1.toInt ≤ 131136 - v2.toInt) by have q0 := r51_3.1; have q1 := r51_3.2; have q2 := FF.out hp48_5; have q3 := (show (1 : Int32).toInt = 1 from by decide); omega)⟩ hP hD hS [0, 1] rfl (by decide) rfl (Nat.le_of_ble_eq_true rfl) (Nat.le_of_ble_eq_true rfl)
  have b37 : ∀  (H : Heap) (locs : List Loc) (ls : Array Slot), lv_has ls 7 [(2, .long v1), (4, .int v2)] → va_P D vwCl [(mm, .inr (16, fs_mm)), (upl_, .inl (ct 1, 16, .inl g_upl_))] H → va_D A [(mm, .inr (16, fs_mm)), (upl_, .inl (ct 1, 16, .inl g_upl_))] → va_S A s.heap H locs → W p l e ({ frames := 2, cells := 0, slots := 0, locals := 42 }) s m [.ref mm, .int v0, .long v1, .int v2, .int v3].toArray below meth c H locs 0 0 Q (F0 m 37 ls []) := by
    intro  H locs ls  hl hP hD hS
    refine lv_iconst (v := 0) hx hb dX16_isThere_37 (by decide) ?_
    exact b38 (0 : Int32) H locs ls (rg_w (show rg (0 : Int32) 0 0 from rg_l (by decide)) (by decide)) (show (0 : Int32).toInt = 1 → v3.toInt = 0 ∧ 65536 ≤ v1.toInt ∧ v1.toInt ≤ 65792 - v2.toInt by have q0 := (show (0 : Int32).toInt = 0 from by decide); omega) (lv_sub hl [0, 1] rfl) hP hD hS
  refine lv_if_ne (tgt := 37) hx hb dX16_isThere_2 (by decide) (fun c2_1 => ?_) (fun c2_1 => ?_)
  · have t2_2 := FF.mk (i_ne c2_1)
    have r2_3 : rg v3 1 1 := rg_neAl t2_2 h_v3 (show rg (0 : Int32) 0 0 from rg_l (by decide)) (by decide)
    exact b37  H locs ls  (lv_sub hl [2, 3] rfl) hP hD hS
  · have t2_2 := FF.mk (i_eq c2_1)
    have r2_3 : rg v3 0 0 := rg_eqA t2_2 h_v3 (show rg (0 : Int32) 0 0 from rg_l (by decide)) (by decide)
    refine lv_lload_n hx hb dX16_isThere_5 rfl (lv_at hl 2 rfl) ?_
    refine lv_ldc2 (v := 65536) hx hb hown (hn.get mw_2665 rfl) dX16_isThere_6 ?_
    refine W.lcmp hx hb dX16_isThere_9 ?_
    refine lv_topi (fun z9_1 ez9_1 => ?_)
    refine lv_if_lt (tgt := 37) hx hb dX16_isThere_10 (by decide) (fun c10_1 => ?_) (fun c10_1 => ?_)
    · have t10_2 := FF.mk (l_lt ez9_1 c10_1)
      have r10_3 : rl v1 (-9223372036854775808) 65535 := rl_ltA t10_2 (rl_any v1) (show rl (65536 : Int64) 65536 65536 from rl_l (by decide)) (by decide)
      exact b37  H locs ls  (lv_sub hl [2, 3] rfl) hP hD hS
    · have t10_2 := FF.mk (l_nlt ez9_1 c10_1)
      have r10_3 : rl v1 65536 9223372036854775807 := rl_leB t10_2 (show rl (65536 : Int64) 65536 65536 from rl_l (by decide)) (rl_any v1) (by decide)
      refine lv_lload_n hx hb dX16_isThere_13 rfl (lv_at hl 2 rfl) ?_
      refine lv_ldc2 (v := 65536) hx hb hown (hn.get mw_2665 rfl) dX16_isThere_14 ?_
      refine lv_aload_n hx hb dX16_isThere_17 rfl (lv_at hl 0 rfl) ?_
      refine va_get (D := D) (ci := 16) (v := .ref upl_) (C := RX16) (T := TX16) (N := 78) hx hb (htX16 hn) (fun _ h => h) hown hK hP 0 rfl rfl 3 (by decide) (hn.get mw_1542 rfl) (fun _ h9 => h9) hf_mm_3 dX16_isThere_18 ?_
      refine lv_iload_n hx hb dX16_isThere_21 rfl (lv_at hl 1 rfl) ?_
      have hi22_1 : vp_in v0 16 := (in_rg h_v0 (by decide))
      refine va_iald hx hb hK hP 1 1 rfl rfl hi22_1 dX16_isThere_22 ?_
      refine lv_topi (fun z22_2 ez22_2 => ?_)
      have r22_3 : rg z22_2 0 256 := Rg_at h_g_upl_ hi22_1 ez22_2
      refine lv_i2l hx hb dX16_isThere_23 rfl ?_
      refine lv_topl (fun z23_1 ez23_1 => ?_)
      have r23_2 : rl z23_1 0 256 := rl_i2l ez23_1 r22_3
      refine lv_ladd hx hb dX16_isThere_24 ?_
      refine lv_topl (fun z24_1 ez24_1 => ?_)
      have r24_2 : rl z24_1 65536 65792 := rgL_add ez24_1 (show rl (65536 : Int64) 65536 65536 from rl_l (by decide)) r23_2 (by decide)
      refine lv_iload hx hb dX16_isThere_25 (lv_at hl 3 rfl) ?_
      refine lv_i2l hx hb dX16_isThere_27 rfl ?_
      refine lv_topl (fun z27_1 ez27_1 => ?_)
      have r27_2 : rl z27_1 0 8 := rl_i2l ez27_1 h_v2
      refine lv_lsub hx hb dX16_isThere_28 ?_
      refine lv_topl (fun z28_1 ez28_1 => ?_)
      have r28_2 : rl z28_1 65528 65792 := rgL_sub ez28_1 r24_2 r27_2 (by decide)
      refine W.lcmp hx hb dX16_isThere_29 ?_
      refine lv_topi (fun z29_1 ez29_1 => ?_)
      refine lv_if_gt (tgt := 37) hx hb dX16_isThere_30 (by decide) (fun c30_1 => ?_) (fun c30_1 => ?_)
      · have t30_2 := FF.mk (l_gt ez29_1 c30_1)
        exact b37  H locs ls  (lv_sub hl [2, 3] rfl) hP hD hS
      · have t30_2 := FF.mk (l_ngt ez29_1 c30_1)
        have r30_3 : rl v1 65536 65792 := rl_leA t30_2 r10_3 r28_2 (by decide)
        have r30_4 : rl z28_1 65536 65792 := rl_leB t30_2 r10_3 r28_2 (by decide)
        refine lv_iconst (v := 1) hx hb dX16_isThere_33 (by decide) ?_
        refine lv_goto (tgt := 38) hx hb dX16_isThere_34 (by decide) ?_
        exact b38 (1 : Int32) H locs ls (rg_w (show rg (1 : Int32) 1 1 from rg_l (by decide)) (by decide)) (show (1 : Int32).toInt = 1 → v3.toInt = 0 ∧ 65536 ≤ v1.toInt ∧ v1.toInt ≤ 65792 - v2.toInt by have q0 := (eqL_sub ez28_1 r24_2 r27_2 (by decide)); have q1 := (eq_i2l ez27_1); have q2 := r24_2.2; have q3 := FF.out t2_2; have q4 := FF.out t10_2; have q5 := FF.out t30_2; have q6 := (show (0 : Int32).toInt = 0 from by decide); have q7 := (show (1 : Int32).toInt = 1 from by decide); have q8 := (show (65536 : Int64).toInt = 65536 from by decide); omega) (lv_sub hl [2, 3] rfl) hP hD hS
set_option maxHeartbeats 2000000 in
theorem c_X16_loaded_ (l : Launch) (D : va_G) (ct : Nat → ClassId) (mm : Nat) (v0 : Int32) (v1 : Int64) (v2 : Int32) (fs_mm : List Value) (upb : Nat) (ustk : Nat) (g_upb : Nat → Int32) (g_ustk : Nat → Int32) (h_v0 : rg v0 0 15) (h_v1 : rl v1 65536 131136) (h_v2 : rg v2 0 8) (hlen_mm : fs_mm.length = 78) (hf_mm_2 : fs_mm[2]? = some (.ref upb)) (hf_mm_34 : fs_mm[34]? = some (.ref ustk)) (h_g_upb : Rg g_upb 4096 0 255) (h_g_ustk : Rg g_ustk 64 0 255) (hq0 : 131072 ≤ v1.toInt ∧ v1.toInt ≤ 131136 - v2.toInt ∨ v1.toInt ≤ 65792 - v2.toInt) : KL (S := Unit) l yX16_loaded_ cX16_loaded_ 8 (some .long) 2 46 D ct [.ref mm, .int v0, .long v1, .int v2] [(mm, .inr (16, fs_mm)), (upb, .inl (ct 1, 4096, .inl g_upb)), (ustk, .inl (ct 1, 64, .inl g_ustk))] 0 0 (fun (r : Int64) (_ : Unit) => True) (fun (_ : Unit) => [(mm, .inr (16, fs_mm)), (upb, .inl (ct 1, 4096, .inl g_upb)), (ustk, .inl (ct 1, 64, .inl g_ustk))]) := by
  refine KLq_of (by decide) (Nat.le_of_ble_eq_true rfl) (fun p e s m below meth c A Q C0 hA H locs hS hP hD hQ ls hl => ?_)
  obtain ⟨hx, hb, hr, hown, hin, hml, hlocks, hn, hK, hZ, hSK⟩ := C0
  have hl : lv_has ls 8 [(0, .ref mm), (1, .int v0), (2, .long v1), (4, .int v2)] := hl
  replace hq0 := FF.mk hq0
  refine lv_lload_n hx hb dX16_loaded__0 rfl (lv_at hl 2 rfl) ?_
  refine lv_ldc2 (v := 131072) hx hb hown (hn.get mw_2385 rfl) dX16_loaded__1 ?_
  refine W.lcmp hx hb dX16_loaded__4 ?_
  refine lv_topi (fun z4_1 ez4_1 => ?_)
  refine lv_if_lt (tgt := 16) hx hb dX16_loaded__5 (by decide) (fun c5_1 => ?_) (fun c5_1 => ?_)
  · have t5_2 := FF.mk (l_lt ez4_1 c5_1)
    have r5_3 : rl v1 65536 131071 := rl_ltA t5_2 h_v1 (show rl (131072 : Int64) 131072 131072 from rl_l (by decide)) (by decide)
    refine lv_lconst (v := 0) hx hb dX16_loaded__16 (by decide) ?_
    refine lv_lstore (lv' := [(5, .long 0), (0, .ref mm), (1, .int v0), (2, .long v1), (4, .int v2)]) hx hb dX16_loaded__17 hl (by decide) rfl (fun ls hl => ?_)
    refine lv_iload hx hb dX16_loaded__19 (lv_at hl 4 rfl) ?_
    refine lv_iconst (v := 1) hx hb dX16_loaded__21 (by decide) ?_
    refine lv_isub hx hb dX16_loaded__22 ?_
    refine lv_topi (fun z22_1 ez22_1 => ?_)
    have r22_2 : rg z22_1 (-1) 7 := rg_sub ez22_1 h_v2 (show rg (1 : Int32) 1 1 from rg_l (by decide)) (by decide)
    refine lv_istore (lv' := [(7, .int z22_1), (5, .long 0), (0, .ref mm), (1, .int v0), (2, .long v1), (4, .int v2)]) hx hb dX16_loaded__23 hl (by decide) rfl (fun ls hl => ?_)
    have b25 : ∀ (n : Nat) (j25_l5 : Int64) (j25_l7 : Int32) (H : Heap) (locs : List Loc) (ls : Array Slot), (rg j25_l7 (-1) 7) → (FF (j25_l7.toInt ≤ v2.toInt - 1)) → (j25_l7.toInt + 2147483648).toNat < n → lv_has ls 8 [(0, .ref mm), (1, .int v0), (2, .long v1), (5, .long j25_l5), (7, .int j25_l7)] → va_P D vwCl [(mm, .inr (16, fs_mm)), (upb, .inl (ct 1, 4096, .inl g_upb)), (ustk, .inl (ct 1, 64, .inl g_ustk))] H → va_D A [(mm, .inr (16, fs_mm)), (upb, .inl (ct 1, 4096, .inl g_upb)), (ustk, .inl (ct 1, 64, .inl g_ustk))] → va_S A s.heap H locs → W p l e ({ frames := 2, cells := 0, slots := 0, locals := 46 }) s m [.ref mm, .int v0, .long v1, .int v2].toArray below meth c H locs 0 0 Q (F0 m 25 ls []) := by
      intro n
      induction n with
      | zero => intros; rename_i hms _ _ _ _; exact absurd hms (Nat.not_lt_zero _)
      | succ n ih =>
        intro j25_l5 j25_l7 H locs ls r25_1001 hi25_1002 hms hl hP hD hS
        refine lv_iload hx hb dX16_loaded__25 (lv_at hl 4 rfl) ?_
        refine lv_if_lt (tgt := 65) hx hb dX16_loaded__27 (by decide) (fun c27_1 => ?_) (fun c27_1 => ?_)
        · have t27_2 := FF.mk (i_lt c27_1)
          have r27_3 : rg j25_l7 (-1) (-1) := rg_ltA t27_2 r25_1001 (show rg (0 : Int32) 0 0 from rg_l (by decide)) (by decide)
          refine lv_lload hx hb dX16_loaded__65 (lv_at hl 3 rfl) ?_
          exact endq_l hQ hx hb hr hlocks dX16_loaded__67 () trivial hP hD hS [0, 1, 2] rfl (by decide) rfl (Nat.le_of_ble_eq_true rfl) (Nat.le_of_ble_eq_true rfl)
        · have t27_2 := FF.mk (i_nlt c27_1)
          have r27_3 : rg j25_l7 0 7 := rg_leB t27_2 (show rg (0 : Int32) 0 0 from rg_l (by decide)) r25_1001 (by decide)
          refine lv_lload hx hb dX16_loaded__30 (lv_at hl 3 rfl) ?_
          refine lv_bipush (v := 8) hx hb dX16_loaded__32 (by decide) ?_
          refine lv_lshl hx hb dX16_loaded__34 rfl ?_
          refine lv_topl (fun z34_1 ez34_1 => ?_)
          refine lv_aload_n hx hb dX16_loaded__35 rfl (lv_at hl 0 rfl) ?_
          refine va_get (D := D) (ci := 16) (v := .ref upb) (C := RX16) (T := TX16) (N := 78) hx hb (htX16 hn) (fun _ h => h) hown hK hP 0 rfl rfl 2 (by decide) (hn.get mw_1541 rfl) (fun _ h9 => h9) hf_mm_2 dX16_loaded__36 ?_
          refine lv_sipush (v := 256) hx hb dX16_loaded__39 (by decide) ?_
          refine lv_iload_n hx hb dX16_loaded__42 rfl (lv_at hl 1 rfl) ?_
          refine lv_imul hx hb dX16_loaded__43 ?_
          refine lv_topi (fun z43_1 ez43_1 => ?_)
          have r43_2 : rg z43_1 0 3840 := rg_mul ez43_1 (show rg (256 : Int32) 256 256 from rg_l (by decide)) h_v0 (by decide)
          refine lv_lload_n hx hb dX16_loaded__44 rfl (lv_at hl 2 rfl) ?_
          refine lv_ldc2 (v := 65536) hx hb hown (hn.get mw_2665 rfl) dX16_loaded__45 ?_
          refine lv_lsub hx hb dX16_loaded__48 ?_
          refine lv_topl (fun z48_1 ez48_1 => ?_)
          have r48_2 : rl z48_1 0 65535 := rgL_sub ez48_1 r5_3 (show rl (65536 : Int64) 65536 65536 from rl_l (by decide)) (by decide)
          refine lv_l2i hx hb dX16_loaded__49 rfl ?_
          refine lv_topi (fun z49_1 ez49_1 => ?_)
          have r49_2 : rg z49_1 0 65535 := rg_l2i ez49_1 r48_2 (by decide)
          refine lv_iadd hx hb dX16_loaded__50 ?_
          refine lv_topi (fun z50_1 ez50_1 => ?_)
          have r50_2 : rg z50_1 0 69375 := rg_add ez50_1 r43_2 r49_2 (by decide)
          refine lv_iload hx hb dX16_loaded__51 (lv_at hl 4 rfl) ?_
          refine lv_iadd hx hb dX16_loaded__53 ?_
          refine lv_topi (fun z53_1 ez53_1 => ?_)
          have r53_2 : rg z53_1 0 69382 := rg_add ez53_1 r50_2 r27_3 (by decide)
          have hi54_1 : vp_in z53_1 4096 := (in_of (show 0 ≤ z53_1.toInt ∧ z53_1.toInt < 4096 by have q0 := r53_2.1; have q1 := (eq_add ez53_1 r50_2 r27_3 (by decide)); have q2 := (eq_add ez50_1 r43_2 r49_2 (by decide)); have q3 := (eq_l2i ez49_1 r48_2 (by decide)); have q4 := (eqL_sub ez48_1 r5_3 (show rl (65536 : Int64) 65536 65536 from rl_l (by decide)) (by decide)); have q5 := r5_3.2; have q6 := r43_2.2; have q7 := FF.out hq0; have q8 := FF.out hi25_1002; have q9 := (show (65536 : Int64).toInt = 65536 from by decide); omega))
          refine va_iald hx hb hK hP 1 1 rfl rfl hi54_1 dX16_loaded__54 ?_
          refine lv_topi (fun z54_2 ez54_2 => ?_)
          have r54_3 : rg z54_2 0 255 := Rg_at h_g_upb hi54_1 ez54_2
          refine lv_i2l hx hb dX16_loaded__55 rfl ?_
          refine lv_topl (fun z55_1 ez55_1 => ?_)
          have r55_2 : rl z55_1 0 255 := rl_i2l ez55_1 r54_3
          refine lv_lor hx hb dX16_loaded__56 ?_
          refine lv_topl (fun z56_1 ez56_1 => ?_)
          refine lv_lstore (lv' := [(5, .long z56_1), (0, .ref mm), (1, .int v0), (2, .long v1), (7, .int j25_l7)]) hx hb dX16_loaded__57 hl (by decide) rfl (fun ls hl => ?_)
          obtain ⟨x59_1, ex59_1⟩ : ∃ z : Int32, z = j25_l7 + (-1) := ⟨_, rfl⟩
          have r59_2 : rg x59_1 (-1) 6 := rg_add ex59_1 r27_3 (show rg ((-1) : Int32) (-1) (-1) from rg_l (by decide)) (by decide)
          refine lv_iinc (v := x59_1) (lv' := [(7, .int x59_1), (5, .long z56_1), (0, .ref mm), (1, .int v0), (2, .long v1)]) hx hb dX16_loaded__59 hl (k := 4) rfl (by rw [ex59_1]; rfl) (by decide) rfl (fun ls hl => ?_)
          refine lv_goto (tgt := 25) hx hb dX16_loaded__62 (by decide) ?_
          exact ih z56_1 x59_1 H locs ls (rg_w r59_2 (by decide)) (show x59_1.toInt ≤ v2.toInt - 1 by have q0 := (eq_add ex59_1 r27_3 (show rg ((-1) : Int32) (-1) (-1) from rg_l (by decide)) (by decide)); have q1 := FF.out hi25_1002; have q2 := (show (-1 : Int32).toInt = -1 from by decide); omega) (show (x59_1.toInt + 2147483648).toNat < n by have q0 := r27_3.1; have q1 := (eq_add ex59_1 r27_3 (show rg ((-1) : Int32) (-1) (-1) from rg_l (by decide)) (by decide)); have q2 := (show (-1 : Int32).toInt = -1 from by decide); have q3 := hms; omega) (lv_sub hl [2, 3, 4, 1, 0] rfl) hP hD hS
    exact b25 _ (0 : Int64) z22_1 H locs ls r22_2 (show z22_1.toInt ≤ v2.toInt - 1 by have q0 := (eq_sub ez22_1 h_v2 (show rg (1 : Int32) 1 1 from rg_l (by decide)) (by decide)); have q1 := (show (1 : Int32).toInt = 1 from by decide); omega) (Nat.lt_succ_self _) (lv_sub hl [2, 3, 4, 1, 0] rfl) hP hD hS
  · have t5_2 := FF.mk (l_nlt ez4_1 c5_1)
    have r5_3 : rl v1 131072 131136 := rl_leB t5_2 (show rl (131072 : Int64) 131072 131072 from rl_l (by decide)) h_v1 (by decide)
    refine lv_aload_n hx hb dX16_loaded__8 rfl (lv_at hl 0 rfl) ?_
    refine lv_lload_n hx hb dX16_loaded__9 rfl (lv_at hl 2 rfl) ?_
    refine lv_iload hx hb dX16_loaded__10 (lv_at hl 3 rfl) ?_
    refine go_l (k1 := 0) (n1 := 0) (wr := [(upb, .inl (ct 1, 4096, .inl g_upb))]) [0, 2] [1] (rn_V (As := [.long v1, .int v2]) (rest := []) (c_X16_load_ l D ct mm v1 v2 fs_mm ustk g_ustk r5_3 h_v2 hlen_mm hf_mm_34 h_g_ustk (show v1.toInt ≤ 131136 - v2.toInt by have q0 := FF.out hq0; omega) _) (cb_of (n := 2) hn mw_2389 mw_13 mw_2386 mhX16_load_ ⟨(Nat.le_of_ble_eq_true rfl), (Nat.le_of_ble_eq_true rfl)⟩) hx hb hml hown hn hK hSK hZ hS mw_2388 mw_s224 (ci := 16) (q0 := 0) rfl rfl rfl rfl hl.1 (Nat.le_of_ble_eq_true rfl) dX16_loaded__12 ⟨(Nat.le_of_ble_eq_true rfl), (Nat.le_of_ble_eq_true rfl)⟩) hP hD hS hA rfl rfl (by decide) (by decide) (by decide) (Nat.le_of_ble_eq_true rfl) (Nat.le_of_ble_eq_true rfl) (fun r12_1 u12_2 H locs hp12_3 hP hD hS => ?_)
    have hP : va_P D vwCl [(upb, .inl (ct 1, 4096, .inl g_upb)), (mm, .inr (16, fs_mm)), (ustk, .inl (ct 1, 64, .inl g_ustk))] _ := hP
    have hD : va_D A [(upb, .inl (ct 1, 4096, .inl g_upb)), (mm, .inr (16, fs_mm)), (ustk, .inl (ct 1, 64, .inl g_ustk))] := hD
    exact endq_l hQ hx hb hr hlocks dX16_loaded__15 () trivial hP hD hS [1, 0, 2] rfl (by decide) rfl (Nat.le_of_ble_eq_true rfl) (Nat.le_of_ble_eq_true rfl)
set_option maxHeartbeats 2000000 in
theorem c_X16_signed (l : Launch) (D : va_G) (ct : Nat → ClassId) (v0 : Int64) (v1 : Int32) (h_v1 : rg v1 1 8) : KL (S := Unit) l yX16_signed cX16_signed 3 (some .long) 1 20 D ct [.long v0, .int v1] [] 0 0 (fun (r : Int64) (_ : Unit) => True) (fun (_ : Unit) => []) := by
  refine KLq_of (by decide) (Nat.le_of_ble_eq_true rfl) (fun p e s m below meth c A Q C0 hA H locs hS hP hD hQ ls hl => ?_)
  obtain ⟨hx, hb, hr, hown, hin, hml, hlocks, hn, hK, hZ, hSK⟩ := C0
  have hl : lv_has ls 3 [(0, .long v0), (2, .int v1)] := hl
  refine lv_iload_n hx hb dX16_signed_0 rfl (lv_at hl 1 rfl) ?_
  refine lv_bipush (v := 8) hx hb dX16_signed_1 (by decide) ?_
  refine lv_icmp_ne (tgt := 10) hx hb dX16_signed_3 (by decide) (fun c3_1 => ?_) (fun c3_1 => ?_)
  · have t3_2 := FF.mk (i_ne c3_1)
    have r3_3 : rg v1 1 7 := rg_neAh t3_2 h_v1 (show rg (8 : Int32) 8 8 from rg_l (by decide)) (by decide)
    refine lv_lload_n hx hb dX16_signed_10 rfl (lv_at hl 0 rfl) ?_
    refine lv_bipush (v := 64) hx hb dX16_signed_11 (by decide) ?_
    refine lv_bipush (v := 8) hx hb dX16_signed_13 (by decide) ?_
    refine lv_iload_n hx hb dX16_signed_15 rfl (lv_at hl 1 rfl) ?_
    refine lv_imul hx hb dX16_signed_16 ?_
    refine lv_topi (fun z16_1 ez16_1 => ?_)
    have r16_2 : rg z16_1 8 56 := rg_mul ez16_1 (show rg (8 : Int32) 8 8 from rg_l (by decide)) r3_3 (by decide)
    refine lv_isub hx hb dX16_signed_17 ?_
    refine lv_topi (fun z17_1 ez17_1 => ?_)
    have r17_2 : rg z17_1 8 56 := rg_sub ez17_1 (show rg (64 : Int32) 64 64 from rg_l (by decide)) r16_2 (by decide)
    refine lv_lshl hx hb dX16_signed_18 rfl ?_
    refine lv_topl (fun z18_1 ez18_1 => ?_)
    refine lv_bipush (v := 64) hx hb dX16_signed_19 (by decide) ?_
    refine lv_bipush (v := 8) hx hb dX16_signed_21 (by decide) ?_
    refine lv_iload_n hx hb dX16_signed_23 rfl (lv_at hl 1 rfl) ?_
    refine lv_imul hx hb dX16_signed_24 ?_
    refine lv_topi (fun z24_1 ez24_1 => ?_)
    obtain rfl : z16_1 = z24_1 := ez16_1.trans ez24_1.symm
    refine lv_isub hx hb dX16_signed_25 ?_
    refine lv_topi (fun z25_1 ez25_1 => ?_)
    obtain rfl : z17_1 = z25_1 := ez17_1.trans ez25_1.symm
    refine lv_lshr hx hb dX16_signed_26 rfl ?_
    refine lv_topl (fun z26_1 ez26_1 => ?_)
    exact endq_l hQ hx hb hr hlocks dX16_signed_27 () trivial hP hD hS [] rfl (by decide) rfl (Nat.le_of_ble_eq_true rfl) (Nat.le_of_ble_eq_true rfl)
  · have t3_2 := FF.mk (i_eq c3_1)
    have r3_3 : rg v1 8 8 := rg_eqA t3_2 h_v1 (show rg (8 : Int32) 8 8 from rg_l (by decide)) (by decide)
    refine lv_lload_n hx hb dX16_signed_6 rfl (lv_at hl 0 rfl) ?_
    refine lv_goto (tgt := 27) hx hb dX16_signed_7 (by decide) ?_
    exact endq_l hQ hx hb hr hlocks dX16_signed_27 () trivial hP hD hS [] rfl (by decide) rfl (Nat.le_of_ble_eq_true rfl) (Nat.le_of_ble_eq_true rfl)
set_option maxHeartbeats 2000000 in
theorem c_X16_loadWord (l : Launch) (D : va_G) (ct : Nat → ClassId) (mm : Nat) (v0 : Int32) (v1 : Int32) (fs_mm : List Value) (upb : Nat) (upl_ : Nat) (ureg : Nat) (ustk : Nat) (x_mm_76 : Int32) (x_mm_77 : Int32) (g_ureg : Nat → Int64) (g_upl_ : Nat → Int32) (g_upb : Nat → Int32) (g_ustk : Nat → Int32) (h_v0 : rg v0 0 15) (hlen_mm : fs_mm.length = 78) (hf_mm_2 : fs_mm[2]? = some (.ref upb)) (hf_mm_3 : fs_mm[3]? = some (.ref upl_)) (hf_mm_33 : fs_mm[33]? = some (.ref ureg)) (hf_mm_34 : fs_mm[34]? = some (.ref ustk)) (h_x_mm_76 : rg x_mm_76 0 1) (hf_mm_76 : fs_mm[76]? = some (.int x_mm_76)) (h_x_mm_77 : rg x_mm_77 0 1) (hf_mm_77 : fs_mm[77]? = some (.int x_mm_77)) (h_g_upl_ : Rg g_upl_ 16 0 256) (h_g_upb : Rg g_upb 4096 0 255) (h_g_ustk : Rg g_ustk 64 0 255) : KV (S := List Value × Int32 × Int32 × (Nat → Int64)) l yX16_loadWord cX16_loadWord 9 none 3 73 D ct [.ref mm, .int v0, .int v1] [(mm, .inr (16, fs_mm)), (ureg, .inl (ct 2, 32, .inr (.inl g_ureg))), (upl_, .inl (ct 1, 16, .inl g_upl_)), (upb, .inl (ct 1, 4096, .inl g_upb)), (ustk, .inl (ct 1, 64, .inl g_ustk))] 0 0 (fun (u : List Value × Int32 × Int32 × (Nat → Int64)) => match u with | (fs2_mm, y_mm_76, y_mm_77, k_ureg) => SB fs_mm fs2_mm [76, 77] ∧ rg y_mm_76 0 1 ∧ fs2_mm[76]? = some (.int y_mm_76) ∧ rg y_mm_77 0 1 ∧ fs2_mm[77]? = some (.int y_mm_77)) (fun (u : List Value × Int32 × Int32 × (Nat → Int64)) => match u with | (fs2_mm, y_mm_76, y_mm_77, k_ureg) => [(mm, .inr (16, fs2_mm)), (ureg, .inl (ct 2, 32, .inr (.inl k_ureg))), (upl_, .inl (ct 1, 16, .inl g_upl_)), (upb, .inl (ct 1, 4096, .inl g_upb)), (ustk, .inl (ct 1, 64, .inl g_ustk))]) := by
  refine KVq_of (by decide) (Nat.le_of_ble_eq_true rfl) (fun p e s m below meth c A Q C0 hA H locs hS hP hD hQ ls hl => ?_)
  obtain ⟨hx, hb, hr, hown, hin, hml, hlocks, hn, hK, hZ, hSK⟩ := C0
  have hl : lv_has ls 9 [(0, .ref mm), (1, .int v0), (2, .int v1)] := hl
  refine lv_iload_n hx hb dX16_loadWord_0 rfl (lv_at hl 2 rfl) ?_
  refine lv_bipush (v := 12) hx hb dX16_loadWord_1 (by decide) ?_
  refine lv_ishr hx hb dX16_loadWord_3 ?_
  refine lv_topi (fun z3_1 ez3_1 => ?_)
  have r3_2 : rg z3_1 (-524288) 524287 := rg_shr (k := 12) ez3_1 (by decide) (rg_any v1) (by decide)
  refine lv_bipush (v := 7) hx hb dX16_loadWord_4 (by decide) ?_
  refine lv_iand hx hb dX16_loadWord_6 ?_
  refine lv_topi (fun z6_1 ez6_1 => ?_)
  have r6_2 : rg z6_1 0 7 := rg_andr ez6_1 (show rg (7 : Int32) 7 7 from rg_l (by decide)) (by decide)
  refine lv_istore_n (lv' := [(3, .int z6_1), (0, .ref mm), (1, .int v0), (2, .int v1)]) hx hb dX16_loadWord_7 rfl hl (by decide) rfl (fun ls hl => ?_)
  refine lv_aload_n hx hb dX16_loadWord_8 rfl (lv_at hl 1 rfl) ?_
  refine va_get (D := D) (ci := 16) (v := .ref ureg) (C := RX16) (T := TX16) (N := 78) hx hb (htX16 hn) (fun _ h => h) hown hK hP 0 rfl rfl 33 (by decide) (hn.get mw_1572 rfl) (fun _ h9 => h9) hf_mm_33 dX16_loadWord_9 ?_
  refine lv_iload_n hx hb dX16_loadWord_12 rfl (lv_at hl 3 rfl) ?_
  refine lv_bipush (v := 15) hx hb dX16_loadWord_13 (by decide) ?_
  refine lv_ishr hx hb dX16_loadWord_15 ?_
  refine lv_topi (fun z15_1 ez15_1 => ?_)
  have r15_2 : rg z15_1 (-65536) 65535 := rg_shr (k := 15) ez15_1 (by decide) (rg_any v1) (by decide)
  refine lv_bipush (v := 31) hx hb dX16_loadWord_16 (by decide) ?_
  refine lv_iand hx hb dX16_loadWord_18 ?_
  refine lv_topi (fun z18_1 ez18_1 => ?_)
  have r18_2 : rg z18_1 0 31 := rg_andr ez18_1 (show rg (31 : Int32) 31 31 from rg_l (by decide)) (by decide)
  have hi19_1 : vp_in z18_1 32 := (in_rg r18_2 (by decide))
  refine va_lald hx hb hK hP 1 2 rfl rfl hi19_1 dX16_loadWord_19 ?_
  refine lv_topl (fun z19_2 ez19_2 => ?_)
  refine lv_iload_n hx hb dX16_loadWord_20 rfl (lv_at hl 3 rfl) ?_
  refine lv_bipush (v := 20) hx hb dX16_loadWord_21 (by decide) ?_
  refine lv_ishr hx hb dX16_loadWord_23 ?_
  refine lv_topi (fun z23_1 ez23_1 => ?_)
  have r23_2 : rg z23_1 (-2048) 2047 := rg_shr (k := 20) ez23_1 (by decide) (rg_any v1) (by decide)
  refine lv_i2l hx hb dX16_loadWord_24 rfl ?_
  refine lv_topl (fun z24_1 ez24_1 => ?_)
  have r24_2 : rl z24_1 (-2048) 2047 := rl_i2l ez24_1 r23_2
  refine lv_ladd hx hb dX16_loadWord_25 ?_
  refine lv_topl (fun z25_1 ez25_1 => ?_)
  refine lv_lstore (lv' := [(4, .long z25_1), (3, .int z6_1), (0, .ref mm), (1, .int v0), (2, .int v1)]) hx hb dX16_loadWord_26 hl (by decide) rfl (fun ls hl => ?_)
  refine lv_iconst (v := 1) hx hb dX16_loadWord_28 (by decide) ?_
  refine lv_iload_n hx hb dX16_loadWord_29 rfl (lv_at hl 1 rfl) ?_
  refine lv_iconst (v := 3) hx hb dX16_loadWord_30 (by decide) ?_
  refine lv_iand hx hb dX16_loadWord_31 ?_
  refine lv_topi (fun z31_1 ez31_1 => ?_)
  have r31_2 : rg z31_1 0 3 := rg_andr ez31_1 (show rg (3 : Int32) 3 3 from rg_l (by decide)) (by decide)
  refine lv_ishl hx hb dX16_loadWord_32 ?_
  refine lv_topi (fun z32_1 ez32_1 => ?_)
  have r32_2 : rg z32_1 1 8 := rg_shl1 (k := 3) ez32_1 r31_2 (by decide)
  refine lv_istore (lv' := [(6, .int z32_1), (4, .long z25_1), (3, .int z6_1), (0, .ref mm), (1, .int v0), (2, .int v1)]) hx hb dX16_loadWord_33 hl (by decide) rfl (fun ls hl => ?_)
  refine lv_iload_n hx hb dX16_loadWord_35 rfl (lv_at hl 2 rfl) ?_
  refine lv_bipush (v := 7) hx hb dX16_loadWord_36 (by decide) ?_
  refine lv_icmp_ne (tgt := 49) hx hb dX16_loadWord_38 (by decide) (fun c38_1 => ?_) (fun c38_1 => ?_)
  · have t38_2 := FF.mk (i_ne c38_1)
    have r38_3 : rg z6_1 0 6 := rg_neAh t38_2 r6_2 (show rg (7 : Int32) 7 7 from rg_l (by decide)) (by decide)
    refine lv_aload_n hx hb dX16_loadWord_49 rfl (lv_at hl 3 rfl) ?_
    refine lv_iload_n hx hb dX16_loadWord_50 rfl (lv_at hl 4 rfl) ?_
    refine lv_lload hx hb dX16_loadWord_51 (lv_at hl 1 rfl) ?_
    refine lv_iload hx hb dX16_loadWord_53 (lv_at hl 0 rfl) ?_
    refine lv_iconst (v := 0) hx hb dX16_loadWord_55 (by decide) ?_
    refine go_i (k1 := 0) (n1 := 0) (wr := [(ureg, .inl (ct 2, 32, .inr (.inl g_ureg))), (upb, .inl (ct 1, 4096, .inl g_upb)), (ustk, .inl (ct 1, 64, .inl g_ustk))]) [0, 2] [1, 3, 4] (rn_V (As := [.int v0, .long z25_1, .int z32_1, .int 0]) (rest := []) (c_X16_isThere l D ct mm v0 z25_1 z32_1 (0 : Int32) fs_mm upl_ g_upl_ h_v0 (rg_w r32_2 (by decide)) (rg_w (show rg (0 : Int32) 0 0 from rg_l (by decide)) (by decide)) hlen_mm hf_mm_3 h_g_upl_ _) (cb_of (n := 4) hn mw_2694 mw_13 mw_2691 mhX16_isThere ⟨(Nat.le_of_ble_eq_true rfl), (Nat.le_of_ble_eq_true rfl)⟩) hx hb hml hown hn hK hSK hZ hS mw_2693 mw_s281 (ci := 16) (q0 := 0) rfl rfl rfl rfl hl.1 (Nat.le_of_ble_eq_true rfl) dX16_loadWord_56 ⟨(Nat.le_of_ble_eq_true rfl), (Nat.le_of_ble_eq_true rfl)⟩) hP hD hS hA rfl rfl (by decide) (by decide) (by decide) (Nat.le_of_ble_eq_true rfl) (Nat.le_of_ble_eq_true rfl) (fun r56_1 u56_2 H locs hp56_3 hP hD hS => ?_)
    obtain ⟨hp56_4, hp56_5⟩ := hp56_3
    have hp56_4 : rg r56_1 0 1 := hp56_4
    replace hp56_5 : FF (r56_1.toInt = 1 → ((0 : Int32).toInt = 0 ∧ 65536 ≤ z25_1.toInt ∧ z25_1.toInt ≤ 65792 - z32_1.toInt) ∨ (131072 ≤ z25_1.toInt ∧ z25_1.toInt ≤ 131136 - z32_1.toInt)) := hp56_5
    have hP : va_P D vwCl [(ureg, .inl (ct 2, 32, .inr (.inl g_ureg))), (upb, .inl (ct 1, 4096, .inl g_upb)), (ustk, .inl (ct 1, 64, .inl g_ustk)), (mm, .inr (16, fs_mm)), (upl_, .inl (ct 1, 16, .inl g_upl_))] _ := hP
    have hD : va_D A [(ureg, .inl (ct 2, 32, .inr (.inl g_ureg))), (upb, .inl (ct 1, 4096, .inl g_upb)), (ustk, .inl (ct 1, 64, .inl g_ustk)), (mm, .inr (16, fs_mm)), (upl_, .inl (ct 1, 16, .inl g_upl_))] := hD
    refine lv_if_ne (tgt := 70) hx hb dX16_loadWord_59 (by decide) (fun c59_1 => ?_) (fun c59_1 => ?_)
    · have t59_2 := FF.mk (i_ne c59_1)
      have r59_3 : rg r56_1 1 1 := rg_neAl t59_2 hp56_4 (show rg (0 : Int32) 0 0 from rg_l (by decide)) (by decide)
      refine lv_aload_n hx hb dX16_loadWord_70 rfl (lv_at hl 3 rfl) ?_
      refine lv_iload_n hx hb dX16_loadWord_71 rfl (lv_at hl 4 rfl) ?_
      refine lv_lload hx hb dX16_loadWord_72 (lv_at hl 1 rfl) ?_
      refine lv_iload hx hb dX16_loadWord_74 (lv_at hl 0 rfl) ?_
      refine go_l (k1 := 0) (n1 := 0) (wr := [(ureg, .inl (ct 2, 32, .inr (.inl g_ureg))), (upl_, .inl (ct 1, 16, .inl g_upl_))]) [3, 1, 2] [0, 4] (rn_V (As := [.int v0, .long z25_1, .int z32_1]) (rest := []) (c_X16_loaded_ l D ct mm v0 z25_1 z32_1 fs_mm upb ustk g_upb g_ustk h_v0 (rl_of (show 65536 ≤ z25_1.toInt ∧ z25_1.toInt ≤ 131136 by have q0 := r32_2.1; have q1 := r59_3.1; have q2 := r59_3.2; have q3 := FF.out hp56_5; have q4 := (show (0 : Int32).toInt = 0 from by decide); omega)) (rg_w r32_2 (by decide)) hlen_mm hf_mm_2 hf_mm_34 h_g_upb h_g_ustk (show 131072 ≤ z25_1.toInt ∧ z25_1.toInt ≤ 131136 - z32_1.toInt ∨ z25_1.toInt ≤ 65792 - z32_1.toInt by have q0 := r59_3.1; have q1 := r59_3.2; have q2 := FF.out hp56_5; have q3 := (show (0 : Int32).toInt = 0 from by decide); omega) _) (cb_of (n := 3) hn mw_2698 mw_13 mw_2695 mhX16_loaded_ ⟨(Nat.le_of_ble_eq_true rfl), (Nat.le_of_ble_eq_true rfl)⟩) hx hb hml hown hn hK hSK hZ hS mw_2697 mw_s282 (ci := 16) (q0 := 0) rfl rfl rfl rfl hl.1 (Nat.le_of_ble_eq_true rfl) dX16_loadWord_76 ⟨(Nat.le_of_ble_eq_true rfl), (Nat.le_of_ble_eq_true rfl)⟩) hP hD hS hA rfl rfl (by decide) (by decide) (by decide) (Nat.le_of_ble_eq_true rfl) (Nat.le_of_ble_eq_true rfl) (fun r76_1 u76_2 H locs hp76_3 hP hD hS => ?_)
      have hP : va_P D vwCl [(ureg, .inl (ct 2, 32, .inr (.inl g_ureg))), (upl_, .inl (ct 1, 16, .inl g_upl_)), (mm, .inr (16, fs_mm)), (upb, .inl (ct 1, 4096, .inl g_upb)), (ustk, .inl (ct 1, 64, .inl g_ustk))] _ := hP
      have hD : va_D A [(ureg, .inl (ct 2, 32, .inr (.inl g_ureg))), (upl_, .inl (ct 1, 16, .inl g_upl_)), (mm, .inr (16, fs_mm)), (upb, .inl (ct 1, 4096, .inl g_upb)), (ustk, .inl (ct 1, 64, .inl g_ustk))] := hD
      refine lv_lstore (lv' := [(7, .long r76_1), (6, .int z32_1), (4, .long z25_1), (3, .int z6_1), (0, .ref mm), (1, .int v0), (2, .int v1)]) hx hb dX16_loadWord_79 hl (by decide) rfl (fun ls hl => ?_)
      refine lv_aload_n hx hb dX16_loadWord_81 rfl (lv_at hl 4 rfl) ?_
      refine lv_iload_n hx hb dX16_loadWord_82 rfl (lv_at hl 6 rfl) ?_
      refine lv_bipush (v := 7) hx hb dX16_loadWord_83 (by decide) ?_
      refine lv_ishr hx hb dX16_loadWord_85 ?_
      refine lv_topi (fun z85_1 ez85_1 => ?_)
      have r85_2 : rg z85_1 (-16777216) 16777215 := rg_shr (k := 7) ez85_1 (by decide) (rg_any v1) (by decide)
      refine lv_bipush (v := 31) hx hb dX16_loadWord_86 (by decide) ?_
      refine lv_iand hx hb dX16_loadWord_88 ?_
      refine lv_topi (fun z88_1 ez88_1 => ?_)
      have r88_2 : rg z88_1 0 31 := rg_andr ez88_1 (show rg (31 : Int32) 31 31 from rg_l (by decide)) (by decide)
      refine lv_iload_n hx hb dX16_loadWord_89 rfl (lv_at hl 3 rfl) ?_
      refine lv_iconst (v := 4) hx hb dX16_loadWord_90 (by decide) ?_
      have b106 : ∀ (j106_s0 : Int64) (H : Heap) (locs : List Loc) (ls : Array Slot), lv_has ls 9 [] → va_P D vwCl [(ureg, .inl (ct 2, 32, .inr (.inl g_ureg))), (upl_, .inl (ct 1, 16, .inl g_upl_)), (mm, .inr (16, fs_mm)), (upb, .inl (ct 1, 4096, .inl g_upb)), (ustk, .inl (ct 1, 64, .inl g_ustk))] H → va_D A [(ureg, .inl (ct 2, 32, .inr (.inl g_ureg))), (upl_, .inl (ct 1, 16, .inl g_upl_)), (mm, .inr (16, fs_mm)), (upb, .inl (ct 1, 4096, .inl g_upb)), (ustk, .inl (ct 1, 64, .inl g_ustk))] → va_S A s.heap H locs → W p l e ({ frames := 3, cells := 0, slots := 0, locals := 73 }) s m [.ref mm, .int v0, .int v1].toArray below meth c H locs 0 0 Q (F0 m 106 ls [.long j106_s0, .int z88_1, .ref mm]) := by
        intro j106_s0 H locs ls  hl hP hD hS
        refine go_v (k1 := 0) (n1 := 0) (wr := [(upl_, .inl (ct 1, 16, .inl g_upl_)), (upb, .inl (ct 1, 4096, .inl g_upb)), (ustk, .inl (ct 1, 64, .inl g_ustk))]) [2, 0] [1, 3, 4] (rn_V (As := [.int z88_1, .long j106_s0]) (rest := []) (c_X16_set l D ct mm z88_1 j106_s0 fs_mm ureg g_ureg r88_2 hlen_mm hf_mm_33 _) (cb_of (n := 2) hn mw_2674 mw_13 mw_2671 mhX16_set ⟨(Nat.le_of_ble_eq_true rfl), (Nat.le_of_ble_eq_true rfl)⟩) hx hb hml hown hn hK hSK hZ hS mw_2673 mw_s276 (ci := 16) (q0 := 0) rfl rfl rfl rfl hl.1 (Nat.le_of_ble_eq_true rfl) dX16_loadWord_106 ⟨(Nat.le_of_ble_eq_true rfl), (Nat.le_of_ble_eq_true rfl)⟩) hP hD hS hA rfl rfl (by decide) (by decide) (by decide) (Nat.le_of_ble_eq_true rfl) (Nat.le_of_ble_eq_true rfl) (fun u106_2 H locs hp106_3 hP hD hS => ?_)
        have hP : va_P D vwCl [(upl_, .inl (ct 1, 16, .inl g_upl_)), (upb, .inl (ct 1, 4096, .inl g_upb)), (ustk, .inl (ct 1, 64, .inl g_ustk)), (mm, .inr (16, fs_mm)), (ureg, .inl (ct 2, 32, .inr (.inl u106_2)))] _ := hP
        have hD : va_D A [(upl_, .inl (ct 1, 16, .inl g_upl_)), (upb, .inl (ct 1, 4096, .inl g_upb)), (ustk, .inl (ct 1, 64, .inl g_ustk)), (mm, .inr (16, fs_mm)), (ureg, .inl (ct 2, 32, .inr (.inl u106_2)))] := hD
        exact endq_v hQ hx hb hr hlocks dX16_loadWord_109 (fs_mm, x_mm_76, x_mm_77, u106_2) ⟨(SB.rf _ _), h_x_mm_76, hf_mm_76, h_x_mm_77, hf_mm_77⟩ hP hD hS [3, 4, 0, 1, 2] rfl (by decide) rfl (Nat.le_of_ble_eq_true rfl) (Nat.le_of_ble_eq_true rfl)
      refine lv_icmp_lt (tgt := 99) hx hb dX16_loadWord_91 (by decide) (fun c91_1 => ?_) (fun c91_1 => ?_)
      · have t91_2 := FF.mk (i_lt c91_1)
        have r91_3 : rg z6_1 0 3 := rg_ltA t91_2 r38_3 (show rg (4 : Int32) 4 4 from rg_l (by decide)) (by decide)
        refine lv_lload hx hb dX16_loadWord_99 (lv_at hl 0 rfl) ?_
        refine lv_iload hx hb dX16_loadWord_101 (lv_at hl 1 rfl) ?_
        refine go_l (k1 := 0) (n1 := 0) (wr := [(ureg, .inl (ct 2, 32, .inr (.inl g_ureg))), (upl_, .inl (ct 1, 16, .inl g_upl_)), (mm, .inr (16, fs_mm)), (upb, .inl (ct 1, 4096, .inl g_upb)), (ustk, .inl (ct 1, 64, .inl g_ustk))]) [] [0, 1, 2, 3, 4] (rn_S (As := [.long r76_1, .int z32_1]) (rest := [.int z88_1, .ref mm]) (c_X16_signed l D ct r76_1 z32_1 r32_2 _) (cb_of (n := 2) hn mw_2701 mw_13 mw_2699 mhX16_signed ⟨(Nat.le_of_ble_eq_true rfl), (Nat.le_of_ble_eq_true rfl)⟩) hx hb hml hown hn hK hSK hZ hS mw_2700 rfl hl.1 (Nat.le_of_ble_eq_true rfl) dX16_loadWord_103 ⟨(Nat.le_of_ble_eq_true rfl), (Nat.le_of_ble_eq_true rfl)⟩) hP hD hS hA rfl rfl (by decide) (by decide) (by decide) (Nat.le_of_ble_eq_true rfl) (Nat.le_of_ble_eq_true rfl) (fun r103_1 u103_2 H locs hp103_3 hP hD hS => ?_)
        have hP : va_P D vwCl [(ureg, .inl (ct 2, 32, .inr (.inl g_ureg))), (upl_, .inl (ct 1, 16, .inl g_upl_)), (mm, .inr (16, fs_mm)), (upb, .inl (ct 1, 4096, .inl g_upb)), (ustk, .inl (ct 1, 64, .inl g_ustk))] _ := hP
        have hD : va_D A [(ureg, .inl (ct 2, 32, .inr (.inl g_ureg))), (upl_, .inl (ct 1, 16, .inl g_upl_)), (mm, .inr (16, fs_mm)), (upb, .inl (ct 1, 4096, .inl g_upb)), (ustk, .inl (ct 1, 64, .inl g_ustk))] := hD
        exact b106 r103_1 H locs ls  (lv_sub hl [] rfl) hP hD hS
      · have t91_2 := FF.mk (i_nlt c91_1)
        have r91_3 : rg z6_1 4 6 := rg_leB t91_2 (show rg (4 : Int32) 4 4 from rg_l (by decide)) r38_3 (by decide)
        refine lv_lload hx hb dX16_loadWord_94 (lv_at hl 0 rfl) ?_
        refine lv_goto (tgt := 106) hx hb dX16_loadWord_96 (by decide) ?_
        exact b106 r76_1 H locs ls  (lv_sub hl [] rfl) hP hD hS
    · have t59_2 := FF.mk (i_eq c59_1)
      have r59_3 : rg r56_1 0 0 := rg_eqA t59_2 hp56_4 (show rg (0 : Int32) 0 0 from rg_l (by decide)) (by decide)
      refine lv_aload_n hx hb dX16_loadWord_62 rfl (lv_at hl 3 rfl) ?_
      refine lv_iconst (v := 1) hx hb dX16_loadWord_63 (by decide) ?_
      refine va_put (D := D) (ci := 16) (v := .int 1) (ty := .boolean) (C := RX16) (T := TX16) (N := 78) hx hb (htX16 hn) (fun _ h => h) tyX16 tyX16_ok nmX16 hown hK hP hD hS 3 rfl rfl 77 (by decide) (hn.get mw_1616 rfl) (fun _ h9 => h9) rfl (by decide +kernel) (by decide) rfl (by rw [hlen_mm]; decide) dX16_loadWord_64 (fun H locs hP hD hS => ?_)
      have hP : va_P D vwCl [(ureg, .inl (ct 2, 32, .inr (.inl g_ureg))), (upb, .inl (ct 1, 4096, .inl g_upb)), (ustk, .inl (ct 1, 64, .inl g_ustk)), (mm, .inr (16, (fs_mm.set 77 (.int 1)))), (upl_, .inl (ct 1, 16, .inl g_upl_))] _ := hP
      have hD : va_D A [(ureg, .inl (ct 2, 32, .inr (.inl g_ureg))), (upb, .inl (ct 1, 4096, .inl g_upb)), (ustk, .inl (ct 1, 64, .inl g_ustk)), (mm, .inr (16, (fs_mm.set 77 (.int 1)))), (upl_, .inl (ct 1, 16, .inl g_upl_))] := hD
      obtain ⟨m64_1, em64_1⟩ : ∃ z, z = (fs_mm.set 77 (.int 1)) := ⟨_, rfl⟩
      rw [← em64_1] at hP hD
      have hsm64_1 : SB fs_mm m64_1 [76, 77] := by rw [em64_1]; exact SB.set (SB.rf _ _) (by decide)
      have hfm64_1_76 : m64_1[76]? = some (.int x_mm_76) := by rw [em64_1]; exact fs_ne (by decide) hf_mm_76
      have hfm64_1_77 : m64_1[77]? = some (.int 1) := by rw [em64_1]; exact fs_eq (by rw [hlen_mm]; decide)
      have hP : va_P D vwCl [(ureg, .inl (ct 2, 32, .inr (.inl g_ureg))), (upb, .inl (ct 1, 4096, .inl g_upb)), (ustk, .inl (ct 1, 64, .inl g_ustk)), (mm, .inr (16, m64_1)), (upl_, .inl (ct 1, 16, .inl g_upl_))] _ := hP
      have hD : va_D A [(ureg, .inl (ct 2, 32, .inr (.inl g_ureg))), (upb, .inl (ct 1, 4096, .inl g_upb)), (ustk, .inl (ct 1, 64, .inl g_ustk)), (mm, .inr (16, m64_1)), (upl_, .inl (ct 1, 16, .inl g_upl_))] := hD
      refine lv_goto (tgt := 109) hx hb dX16_loadWord_67 (by decide) ?_
      exact endq_v hQ hx hb hr hlocks dX16_loadWord_109 (m64_1, x_mm_76, (1 : Int32), g_ureg) ⟨hsm64_1, h_x_mm_76, hfm64_1_76, (rg_w (show rg (1 : Int32) 1 1 from rg_l (by decide)) (by decide)), hfm64_1_77⟩ hP hD hS [3, 0, 4, 1, 2] rfl (by decide) rfl (Nat.le_of_ble_eq_true rfl) (Nat.le_of_ble_eq_true rfl)
  · have t38_2 := FF.mk (i_eq c38_1)
    have r38_3 : rg z6_1 7 7 := rg_eqA t38_2 r6_2 (show rg (7 : Int32) 7 7 from rg_l (by decide)) (by decide)
    refine lv_aload_n hx hb dX16_loadWord_41 rfl (lv_at hl 3 rfl) ?_
    refine lv_iconst (v := 1) hx hb dX16_loadWord_42 (by decide) ?_
    refine va_put (D := D) (ci := 16) (v := .int 1) (ty := .boolean) (C := RX16) (T := TX16) (N := 78) hx hb (htX16 hn) (fun _ h => h) tyX16 tyX16_ok nmX16 hown hK hP hD hS 0 rfl rfl 76 (by decide) (hn.get mw_1615 rfl) (fun _ h9 => h9) rfl (by decide +kernel) (by decide) rfl (by rw [hlen_mm]; decide) dX16_loadWord_43 (fun H locs hP hD hS => ?_)
    have hP : va_P D vwCl [(mm, .inr (16, (fs_mm.set 76 (.int 1)))), (ureg, .inl (ct 2, 32, .inr (.inl g_ureg))), (upl_, .inl (ct 1, 16, .inl g_upl_)), (upb, .inl (ct 1, 4096, .inl g_upb)), (ustk, .inl (ct 1, 64, .inl g_ustk))] _ := hP
    have hD : va_D A [(mm, .inr (16, (fs_mm.set 76 (.int 1)))), (ureg, .inl (ct 2, 32, .inr (.inl g_ureg))), (upl_, .inl (ct 1, 16, .inl g_upl_)), (upb, .inl (ct 1, 4096, .inl g_upb)), (ustk, .inl (ct 1, 64, .inl g_ustk))] := hD
    obtain ⟨m43_1, em43_1⟩ : ∃ z, z = (fs_mm.set 76 (.int 1)) := ⟨_, rfl⟩
    rw [← em43_1] at hP hD
    have hsm43_1 : SB fs_mm m43_1 [76, 77] := by rw [em43_1]; exact SB.set (SB.rf _ _) (by decide)
    have hfm43_1_77 : m43_1[77]? = some (.int x_mm_77) := by rw [em43_1]; exact fs_ne (by decide) hf_mm_77
    have hfm43_1_76 : m43_1[76]? = some (.int 1) := by rw [em43_1]; exact fs_eq (by rw [hlen_mm]; decide)
    have hP : va_P D vwCl [(mm, .inr (16, m43_1)), (ureg, .inl (ct 2, 32, .inr (.inl g_ureg))), (upl_, .inl (ct 1, 16, .inl g_upl_)), (upb, .inl (ct 1, 4096, .inl g_upb)), (ustk, .inl (ct 1, 64, .inl g_ustk))] _ := hP
    have hD : va_D A [(mm, .inr (16, m43_1)), (ureg, .inl (ct 2, 32, .inr (.inl g_ureg))), (upl_, .inl (ct 1, 16, .inl g_upl_)), (upb, .inl (ct 1, 4096, .inl g_upb)), (ustk, .inl (ct 1, 64, .inl g_ustk))] := hD
    refine lv_goto (tgt := 109) hx hb dX16_loadWord_46 (by decide) ?_
    exact endq_v hQ hx hb hr hlocks dX16_loadWord_109 (m43_1, (1 : Int32), x_mm_77, g_ureg) ⟨hsm43_1, (rg_w (show rg (1 : Int32) 1 1 from rg_l (by decide)) (by decide)), hfm43_1_76, h_x_mm_77, hfm43_1_77⟩ hP hD hS [0, 1, 2, 3, 4] rfl (by decide) rfl (Nat.le_of_ble_eq_true rfl) (Nat.le_of_ble_eq_true rfl)
set_option maxHeartbeats 2000000 in
theorem c_X16_storeWord_ (l : Launch) (D : va_G) (ct : Nat → ClassId) (mm : Nat) (v0 : Int32) (v1 : Int32) (fs_mm : List Value) (upl_ : Nat) (ureg : Nat) (ustk : Nat) (x_mm_76 : Int32) (x_mm_77 : Int32) (g_ureg : Nat → Int64) (g_upl_ : Nat → Int32) (g_ustk : Nat → Int32) (h_v0 : rg v0 0 15) (hlen_mm : fs_mm.length = 78) (hf_mm_3 : fs_mm[3]? = some (.ref upl_)) (hf_mm_33 : fs_mm[33]? = some (.ref ureg)) (hf_mm_34 : fs_mm[34]? = some (.ref ustk)) (h_x_mm_76 : rg x_mm_76 0 1) (hf_mm_76 : fs_mm[76]? = some (.int x_mm_76)) (h_x_mm_77 : rg x_mm_77 0 1) (hf_mm_77 : fs_mm[77]? = some (.int x_mm_77)) (h_g_upl_ : Rg g_upl_ 16 0 256) (h_g_ustk : Rg g_ustk 64 0 255) : KV (S := List Value × Int32 × Int32 × (Nat → Int32)) l yX16_storeWord_ cX16_storeWord_ 6 none 3 68 D ct [.ref mm, .int v0, .int v1] [(mm, .inr (16, fs_mm)), (ureg, .inl (ct 2, 32, .inr (.inl g_ureg))), (upl_, .inl (ct 1, 16, .inl g_upl_)), (ustk, .inl (ct 1, 64, .inl g_ustk))] 0 0 (fun (u : List Value × Int32 × Int32 × (Nat → Int32)) => match u with | (fs2_mm, y_mm_76, y_mm_77, k_ustk) => SB fs_mm fs2_mm [76, 77] ∧ rg y_mm_76 0 1 ∧ fs2_mm[76]? = some (.int y_mm_76) ∧ rg y_mm_77 0 1 ∧ fs2_mm[77]? = some (.int y_mm_77) ∧ Rg k_ustk 64 0 255) (fun (u : List Value × Int32 × Int32 × (Nat → Int32)) => match u with | (fs2_mm, y_mm_76, y_mm_77, k_ustk) => [(mm, .inr (16, fs2_mm)), (ureg, .inl (ct 2, 32, .inr (.inl g_ureg))), (upl_, .inl (ct 1, 16, .inl g_upl_)), (ustk, .inl (ct 1, 64, .inl k_ustk))]) := by
  refine KVq_of (by decide) (Nat.le_of_ble_eq_true rfl) (fun p e s m below meth c A Q C0 hA H locs hS hP hD hQ ls hl => ?_)
  obtain ⟨hx, hb, hr, hown, hin, hml, hlocks, hn, hK, hZ, hSK⟩ := C0
  have hl : lv_has ls 6 [(0, .ref mm), (1, .int v0), (2, .int v1)] := hl
  refine lv_iload_n hx hb dX16_storeWord__0 rfl (lv_at hl 2 rfl) ?_
  refine lv_bipush (v := 12) hx hb dX16_storeWord__1 (by decide) ?_
  refine lv_ishr hx hb dX16_storeWord__3 ?_
  refine lv_topi (fun z3_1 ez3_1 => ?_)
  have r3_2 : rg z3_1 (-524288) 524287 := rg_shr (k := 12) ez3_1 (by decide) (rg_any v1) (by decide)
  refine lv_bipush (v := 7) hx hb dX16_storeWord__4 (by decide) ?_
  refine lv_iand hx hb dX16_storeWord__6 ?_
  refine lv_topi (fun z6_1 ez6_1 => ?_)
  have r6_2 : rg z6_1 0 7 := rg_andr ez6_1 (show rg (7 : Int32) 7 7 from rg_l (by decide)) (by decide)
  refine lv_istore_n (lv' := [(3, .int z6_1), (0, .ref mm), (1, .int v0), (2, .int v1)]) hx hb dX16_storeWord__7 rfl hl (by decide) rfl (fun ls hl => ?_)
  refine lv_aload_n hx hb dX16_storeWord__8 rfl (lv_at hl 1 rfl) ?_
  refine va_get (D := D) (ci := 16) (v := .ref ureg) (C := RX16) (T := TX16) (N := 78) hx hb (htX16 hn) (fun _ h => h) hown hK hP 0 rfl rfl 33 (by decide) (hn.get mw_1572 rfl) (fun _ h9 => h9) hf_mm_33 dX16_storeWord__9 ?_
  refine lv_iload_n hx hb dX16_storeWord__12 rfl (lv_at hl 3 rfl) ?_
  refine lv_bipush (v := 15) hx hb dX16_storeWord__13 (by decide) ?_
  refine lv_ishr hx hb dX16_storeWord__15 ?_
  refine lv_topi (fun z15_1 ez15_1 => ?_)
  have r15_2 : rg z15_1 (-65536) 65535 := rg_shr (k := 15) ez15_1 (by decide) (rg_any v1) (by decide)
  refine lv_bipush (v := 31) hx hb dX16_storeWord__16 (by decide) ?_
  refine lv_iand hx hb dX16_storeWord__18 ?_
  refine lv_topi (fun z18_1 ez18_1 => ?_)
  have r18_2 : rg z18_1 0 31 := rg_andr ez18_1 (show rg (31 : Int32) 31 31 from rg_l (by decide)) (by decide)
  have hi19_1 : vp_in z18_1 32 := (in_rg r18_2 (by decide))
  refine va_lald hx hb hK hP 1 2 rfl rfl hi19_1 dX16_storeWord__19 ?_
  refine lv_topl (fun z19_2 ez19_2 => ?_)
  refine lv_iload_n hx hb dX16_storeWord__20 rfl (lv_at hl 3 rfl) ?_
  refine lv_bipush (v := 25) hx hb dX16_storeWord__21 (by decide) ?_
  refine lv_ishr hx hb dX16_storeWord__23 ?_
  refine lv_topi (fun z23_1 ez23_1 => ?_)
  have r23_2 : rg z23_1 (-64) 63 := rg_shr (k := 25) ez23_1 (by decide) (rg_any v1) (by decide)
  refine lv_iconst (v := 5) hx hb dX16_storeWord__24 (by decide) ?_
  refine lv_ishl hx hb dX16_storeWord__25 ?_
  refine lv_topi (fun z25_1 ez25_1 => ?_)
  refine lv_iload_n hx hb dX16_storeWord__26 rfl (lv_at hl 3 rfl) ?_
  refine lv_bipush (v := 7) hx hb dX16_storeWord__27 (by decide) ?_
  refine lv_ishr hx hb dX16_storeWord__29 ?_
  refine lv_topi (fun z29_1 ez29_1 => ?_)
  have r29_2 : rg z29_1 (-16777216) 16777215 := rg_shr (k := 7) ez29_1 (by decide) (rg_any v1) (by decide)
  refine lv_bipush (v := 31) hx hb dX16_storeWord__30 (by decide) ?_
  refine lv_iand hx hb dX16_storeWord__32 ?_
  refine lv_topi (fun z32_1 ez32_1 => ?_)
  have r32_2 : rg z32_1 0 31 := rg_andr ez32_1 (show rg (31 : Int32) 31 31 from rg_l (by decide)) (by decide)
  refine lv_ior hx hb dX16_storeWord__33 ?_
  refine lv_topi (fun z33_1 ez33_1 => ?_)
  refine lv_i2l hx hb dX16_storeWord__34 rfl ?_
  refine lv_topl (fun z34_1 ez34_1 => ?_)
  have r34_2 : rl z34_1 (-2147483648) 2147483647 := rl_i2l ez34_1 (rg_any z33_1)
  refine lv_ladd hx hb dX16_storeWord__35 ?_
  refine lv_topl (fun z35_1 ez35_1 => ?_)
  refine lv_lstore (lv' := [(4, .long z35_1), (3, .int z6_1), (0, .ref mm), (1, .int v0), (2, .int v1)]) hx hb dX16_storeWord__36 hl (by decide) rfl (fun ls hl => ?_)
  refine lv_iload_n hx hb dX16_storeWord__38 rfl (lv_at hl 1 rfl) ?_
  refine lv_iconst (v := 3) hx hb dX16_storeWord__39 (by decide) ?_
  refine lv_icmp_le (tgt := 51) hx hb dX16_storeWord__40 (by decide) (fun c40_1 => ?_) (fun c40_1 => ?_)
  · have t40_2 := FF.mk (i_le c40_1)
    have r40_3 : rg z6_1 0 3 := rg_leA t40_2 r6_2 (show rg (3 : Int32) 3 3 from rg_l (by decide)) (by decide)
    refine lv_aload_n hx hb dX16_storeWord__51 rfl (lv_at hl 2 rfl) ?_
    refine lv_iload_n hx hb dX16_storeWord__52 rfl (lv_at hl 3 rfl) ?_
    refine lv_lload hx hb dX16_storeWord__53 (lv_at hl 0 rfl) ?_
    refine lv_iconst (v := 1) hx hb dX16_storeWord__55 (by decide) ?_
    refine lv_iload_n hx hb dX16_storeWord__56 rfl (lv_at hl 1 rfl) ?_
    refine lv_ishl hx hb dX16_storeWord__57 ?_
    refine lv_topi (fun z57_1 ez57_1 => ?_)
    have r57_2 : rg z57_1 1 8 := rg_shl1 (k := 3) ez57_1 r40_3 (by decide)
    refine lv_iconst (v := 1) hx hb dX16_storeWord__58 (by decide) ?_
    refine go_i (k1 := 0) (n1 := 0) (wr := [(ureg, .inl (ct 2, 32, .inr (.inl g_ureg))), (ustk, .inl (ct 1, 64, .inl g_ustk))]) [0, 2] [1, 3] (rn_V (As := [.int v0, .long z35_1, .int z57_1, .int 1]) (rest := []) (c_X16_isThere l D ct mm v0 z35_1 z57_1 (1 : Int32) fs_mm upl_ g_upl_ h_v0 (rg_w r57_2 (by decide)) (rg_w (show rg (1 : Int32) 1 1 from rg_l (by decide)) (by decide)) hlen_mm hf_mm_3 h_g_upl_ _) (cb_of (n := 4) hn mw_2694 mw_13 mw_2691 mhX16_isThere ⟨(Nat.le_of_ble_eq_true rfl), (Nat.le_of_ble_eq_true rfl)⟩) hx hb hml hown hn hK hSK hZ hS mw_2693 mw_s281 (ci := 16) (q0 := 0) rfl rfl rfl rfl hl.1 (Nat.le_of_ble_eq_true rfl) dX16_storeWord__59 ⟨(Nat.le_of_ble_eq_true rfl), (Nat.le_of_ble_eq_true rfl)⟩) hP hD hS hA rfl rfl (by decide) (by decide) (by decide) (Nat.le_of_ble_eq_true rfl) (Nat.le_of_ble_eq_true rfl) (fun r59_1 u59_2 H locs hp59_3 hP hD hS => ?_)
    obtain ⟨hp59_4, hp59_5⟩ := hp59_3
    have hp59_4 : rg r59_1 0 1 := hp59_4
    replace hp59_5 : FF (r59_1.toInt = 1 → ((1 : Int32).toInt = 0 ∧ 65536 ≤ z35_1.toInt ∧ z35_1.toInt ≤ 65792 - z57_1.toInt) ∨ (131072 ≤ z35_1.toInt ∧ z35_1.toInt ≤ 131136 - z57_1.toInt)) := hp59_5
    have hP : va_P D vwCl [(ureg, .inl (ct 2, 32, .inr (.inl g_ureg))), (ustk, .inl (ct 1, 64, .inl g_ustk)), (mm, .inr (16, fs_mm)), (upl_, .inl (ct 1, 16, .inl g_upl_))] _ := hP
    have hD : va_D A [(ureg, .inl (ct 2, 32, .inr (.inl g_ureg))), (ustk, .inl (ct 1, 64, .inl g_ustk)), (mm, .inr (16, fs_mm)), (upl_, .inl (ct 1, 16, .inl g_upl_))] := hD
    refine lv_if_ne (tgt := 73) hx hb dX16_storeWord__62 (by decide) (fun c62_1 => ?_) (fun c62_1 => ?_)
    · have t62_2 := FF.mk (i_ne c62_1)
      have r62_3 : rg r59_1 1 1 := rg_neAl t62_2 hp59_4 (show rg (0 : Int32) 0 0 from rg_l (by decide)) (by decide)
      refine lv_aload_n hx hb dX16_storeWord__73 rfl (lv_at hl 2 rfl) ?_
      refine lv_lload hx hb dX16_storeWord__74 (lv_at hl 0 rfl) ?_
      refine lv_iconst (v := 1) hx hb dX16_storeWord__76 (by decide) ?_
      refine lv_iload_n hx hb dX16_storeWord__77 rfl (lv_at hl 1 rfl) ?_
      refine lv_ishl hx hb dX16_storeWord__78 ?_
      refine lv_topi (fun z78_1 ez78_1 => ?_)
      obtain rfl : z57_1 = z78_1 := ez57_1.trans ez78_1.symm
      refine lv_aload_n hx hb dX16_storeWord__79 rfl (lv_at hl 2 rfl) ?_
      refine va_get (D := D) (ci := 16) (v := .ref ureg) (C := RX16) (T := TX16) (N := 78) hx hb (htX16 hn) (fun _ h => h) hown hK hP 2 rfl rfl 33 (by decide) (hn.get mw_1572 rfl) (fun _ h9 => h9) hf_mm_33 dX16_storeWord__80 ?_
      refine lv_iload_n hx hb dX16_storeWord__83 rfl (lv_at hl 4 rfl) ?_
      refine lv_bipush (v := 20) hx hb dX16_storeWord__84 (by decide) ?_
      refine lv_ishr hx hb dX16_storeWord__86 ?_
      refine lv_topi (fun z86_1 ez86_1 => ?_)
      have r86_2 : rg z86_1 (-2048) 2047 := rg_shr (k := 20) ez86_1 (by decide) (rg_any v1) (by decide)
      refine lv_bipush (v := 31) hx hb dX16_storeWord__87 (by decide) ?_
      refine lv_iand hx hb dX16_storeWord__89 ?_
      refine lv_topi (fun z89_1 ez89_1 => ?_)
      have r89_2 : rg z89_1 0 31 := rg_andr ez89_1 (show rg (31 : Int32) 31 31 from rg_l (by decide)) (by decide)
      have hi90_1 : vp_in z89_1 32 := (in_rg r89_2 (by decide))
      refine va_lald hx hb hK hP 0 2 rfl rfl hi90_1 dX16_storeWord__90 ?_
      refine lv_topl (fun z90_2 ez90_2 => ?_)
      refine go_v (k1 := 0) (n1 := 0) (wr := [(ureg, .inl (ct 2, 32, .inr (.inl g_ureg))), (upl_, .inl (ct 1, 16, .inl g_upl_))]) [2, 1] [0, 3] (rn_V (As := [.long z35_1, .int z57_1, .long z90_2]) (rest := []) (c_X16_store l D ct mm z35_1 z57_1 z90_2 fs_mm ustk g_ustk (rl_of (show 131072 ≤ z35_1.toInt ∧ z35_1.toInt ≤ 131136 by have q0 := r57_2.1; have q1 := r62_3.1; have q2 := r62_3.2; have q3 := FF.out hp59_5; have q4 := (show (1 : Int32).toInt = 1 from by decide); omega)) (rg_w r57_2 (by decide)) hlen_mm hf_mm_34 h_g_ustk (show z35_1.toInt ≤ 131136 - z57_1.toInt by have q0 := r62_3.1; have q1 := r62_3.2; have q2 := FF.out hp59_5; have q3 := (show (1 : Int32).toInt = 1 from by decide); omega) _) (cb_of (n := 3) hn mw_2393 mw_13 mw_2390 mhX16_store ⟨(Nat.le_of_ble_eq_true rfl), (Nat.le_of_ble_eq_true rfl)⟩) hx hb hml hown hn hK hSK hZ hS mw_2392 mw_s225 (ci := 16) (q0 := 0) rfl rfl rfl rfl hl.1 (Nat.le_of_ble_eq_true rfl) dX16_storeWord__91 ⟨(Nat.le_of_ble_eq_true rfl), (Nat.le_of_ble_eq_true rfl)⟩) hP hD hS hA rfl rfl (by decide) (by decide) (by decide) (Nat.le_of_ble_eq_true rfl) (Nat.le_of_ble_eq_true rfl) (fun u91_2 H locs hp91_3 hP hD hS => ?_)
      have hp91_4 := hp91_3
      have hP : va_P D vwCl [(ureg, .inl (ct 2, 32, .inr (.inl g_ureg))), (upl_, .inl (ct 1, 16, .inl g_upl_)), (mm, .inr (16, fs_mm)), (ustk, .inl (ct 1, 64, .inl u91_2))] _ := hP
      have hD : va_D A [(ureg, .inl (ct 2, 32, .inr (.inl g_ureg))), (upl_, .inl (ct 1, 16, .inl g_upl_)), (mm, .inr (16, fs_mm)), (ustk, .inl (ct 1, 64, .inl u91_2))] := hD
      exact endq_v hQ hx hb hr hlocks dX16_storeWord__94 (fs_mm, x_mm_76, x_mm_77, u91_2) ⟨(SB.rf _ _), h_x_mm_76, hf_mm_76, h_x_mm_77, hf_mm_77, hp91_4⟩ hP hD hS [2, 0, 1, 3] rfl (by decide) rfl (Nat.le_of_ble_eq_true rfl) (Nat.le_of_ble_eq_true rfl)
    · have t62_2 := FF.mk (i_eq c62_1)
      have r62_3 : rg r59_1 0 0 := rg_eqA t62_2 hp59_4 (show rg (0 : Int32) 0 0 from rg_l (by decide)) (by decide)
      refine lv_aload_n hx hb dX16_storeWord__65 rfl (lv_at hl 2 rfl) ?_
      refine lv_iconst (v := 1) hx hb dX16_storeWord__66 (by decide) ?_
      refine va_put (D := D) (ci := 16) (v := .int 1) (ty := .boolean) (C := RX16) (T := TX16) (N := 78) hx hb (htX16 hn) (fun _ h => h) tyX16 tyX16_ok nmX16 hown hK hP hD hS 2 rfl rfl 77 (by decide) (hn.get mw_1616 rfl) (fun _ h9 => h9) rfl (by decide +kernel) (by decide) rfl (by rw [hlen_mm]; decide) dX16_storeWord__67 (fun H locs hP hD hS => ?_)
      have hP : va_P D vwCl [(ureg, .inl (ct 2, 32, .inr (.inl g_ureg))), (ustk, .inl (ct 1, 64, .inl g_ustk)), (mm, .inr (16, (fs_mm.set 77 (.int 1)))), (upl_, .inl (ct 1, 16, .inl g_upl_))] _ := hP
      have hD : va_D A [(ureg, .inl (ct 2, 32, .inr (.inl g_ureg))), (ustk, .inl (ct 1, 64, .inl g_ustk)), (mm, .inr (16, (fs_mm.set 77 (.int 1)))), (upl_, .inl (ct 1, 16, .inl g_upl_))] := hD
      obtain ⟨m67_1, em67_1⟩ : ∃ z, z = (fs_mm.set 77 (.int 1)) := ⟨_, rfl⟩
      rw [← em67_1] at hP hD
      have hsm67_1 : SB fs_mm m67_1 [76, 77] := by rw [em67_1]; exact SB.set (SB.rf _ _) (by decide)
      have hfm67_1_76 : m67_1[76]? = some (.int x_mm_76) := by rw [em67_1]; exact fs_ne (by decide) hf_mm_76
      have hfm67_1_77 : m67_1[77]? = some (.int 1) := by rw [em67_1]; exact fs_eq (by rw [hlen_mm]; decide)
      have hP : va_P D vwCl [(ureg, .inl (ct 2, 32, .inr (.inl g_ureg))), (ustk, .inl (ct 1, 64, .inl g_ustk)), (mm, .inr (16, m67_1)), (upl_, .inl (ct 1, 16, .inl g_upl_))] _ := hP
      have hD : va_D A [(ureg, .inl (ct 2, 32, .inr (.inl g_ureg))), (ustk, .inl (ct 1, 64, .inl g_ustk)), (mm, .inr (16, m67_1)), (upl_, .inl (ct 1, 16, .inl g_upl_))] := hD
      refine lv_goto (tgt := 94) hx hb dX16_storeWord__70 (by decide) ?_
      exact endq_v hQ hx hb hr hlocks dX16_storeWord__94 (m67_1, x_mm_76, (1 : Int32), g_ustk) ⟨hsm67_1, h_x_mm_76, hfm67_1_76, (rg_w (show rg (1 : Int32) 1 1 from rg_l (by decide)) (by decide)), hfm67_1_77, h_g_ustk⟩ hP hD hS [2, 0, 3, 1] rfl (by decide) rfl (Nat.le_of_ble_eq_true rfl) (Nat.le_of_ble_eq_true rfl)
  · have t40_2 := FF.mk (i_nle c40_1)
    have r40_3 : rg z6_1 4 7 := rg_ltB t40_2 (show rg (3 : Int32) 3 3 from rg_l (by decide)) r6_2 (by decide)
    refine lv_aload_n hx hb dX16_storeWord__43 rfl (lv_at hl 2 rfl) ?_
    refine lv_iconst (v := 1) hx hb dX16_storeWord__44 (by decide) ?_
    refine va_put (D := D) (ci := 16) (v := .int 1) (ty := .boolean) (C := RX16) (T := TX16) (N := 78) hx hb (htX16 hn) (fun _ h => h) tyX16 tyX16_ok nmX16 hown hK hP hD hS 0 rfl rfl 76 (by decide) (hn.get mw_1615 rfl) (fun _ h9 => h9) rfl (by decide +kernel) (by decide) rfl (by rw [hlen_mm]; decide) dX16_storeWord__45 (fun H locs hP hD hS => ?_)
    have hP : va_P D vwCl [(mm, .inr (16, (fs_mm.set 76 (.int 1)))), (ureg, .inl (ct 2, 32, .inr (.inl g_ureg))), (upl_, .inl (ct 1, 16, .inl g_upl_)), (ustk, .inl (ct 1, 64, .inl g_ustk))] _ := hP
    have hD : va_D A [(mm, .inr (16, (fs_mm.set 76 (.int 1)))), (ureg, .inl (ct 2, 32, .inr (.inl g_ureg))), (upl_, .inl (ct 1, 16, .inl g_upl_)), (ustk, .inl (ct 1, 64, .inl g_ustk))] := hD
    obtain ⟨m45_1, em45_1⟩ : ∃ z, z = (fs_mm.set 76 (.int 1)) := ⟨_, rfl⟩
    rw [← em45_1] at hP hD
    have hsm45_1 : SB fs_mm m45_1 [76, 77] := by rw [em45_1]; exact SB.set (SB.rf _ _) (by decide)
    have hfm45_1_77 : m45_1[77]? = some (.int x_mm_77) := by rw [em45_1]; exact fs_ne (by decide) hf_mm_77
    have hfm45_1_76 : m45_1[76]? = some (.int 1) := by rw [em45_1]; exact fs_eq (by rw [hlen_mm]; decide)
    have hP : va_P D vwCl [(mm, .inr (16, m45_1)), (ureg, .inl (ct 2, 32, .inr (.inl g_ureg))), (upl_, .inl (ct 1, 16, .inl g_upl_)), (ustk, .inl (ct 1, 64, .inl g_ustk))] _ := hP
    have hD : va_D A [(mm, .inr (16, m45_1)), (ureg, .inl (ct 2, 32, .inr (.inl g_ureg))), (upl_, .inl (ct 1, 16, .inl g_upl_)), (ustk, .inl (ct 1, 64, .inl g_ustk))] := hD
    refine lv_goto (tgt := 94) hx hb dX16_storeWord__48 (by decide) ?_
    exact endq_v hQ hx hb hr hlocks dX16_storeWord__94 (m45_1, (1 : Int32), x_mm_77, g_ustk) ⟨hsm45_1, (rg_w (show rg (1 : Int32) 1 1 from rg_l (by decide)) (by decide)), hfm45_1_76, h_x_mm_77, hfm45_1_77, h_g_ustk⟩ hP hD hS [0, 1, 2, 3] rfl (by decide) rfl (Nat.le_of_ble_eq_true rfl) (Nat.le_of_ble_eq_true rfl)
set_option maxHeartbeats 2000000 in
theorem c_X16_branchWord (l : Launch) (D : va_G) (ct : Nat → ClassId) (mm : Nat) (v0 : Int32) (v1 : Int64) (fs_mm : List Value) (ureg : Nat) (x_mm_75 : Int64) (x_mm_76 : Int32) (g_ureg : Nat → Int64) (hlen_mm : fs_mm.length = 78) (hf_mm_33 : fs_mm[33]? = some (.ref ureg)) (hf_mm_75 : fs_mm[75]? = some (.long x_mm_75)) (h_x_mm_76 : rg x_mm_76 0 1) (hf_mm_76 : fs_mm[76]? = some (.int x_mm_76)) : KV (S := List Value × Int64 × Int32) l yX16_branchWord cX16_branchWord 10 none 3 66 D ct [.ref mm, .int v0, .long v1] [(mm, .inr (16, fs_mm)), (ureg, .inl (ct 2, 32, .inr (.inl g_ureg)))] 0 0 (fun (u : List Value × Int64 × Int32) => match u with | (fs2_mm, y_mm_75, y_mm_76) => SB fs_mm fs2_mm [75, 76] ∧ fs2_mm[75]? = some (.long y_mm_75) ∧ rg y_mm_76 0 1 ∧ fs2_mm[76]? = some (.int y_mm_76)) (fun (u : List Value × Int64 × Int32) => match u with | (fs2_mm, y_mm_75, y_mm_76) => [(mm, .inr (16, fs2_mm)), (ureg, .inl (ct 2, 32, .inr (.inl g_ureg)))]) := by
  refine KVq_of (by decide) (Nat.le_of_ble_eq_true rfl) (fun p e s m below meth c A Q C0 hA H locs hS hP hD hQ ls hl => ?_)
  obtain ⟨hx, hb, hr, hown, hin, hml, hlocks, hn, hK, hZ, hSK⟩ := C0
  have hl : lv_has ls 10 [(0, .ref mm), (1, .int v0), (2, .long v1)] := hl
  refine lv_aload_n hx hb dX16_branchWord_0 rfl (lv_at hl 0 rfl) ?_
  refine va_get (D := D) (ci := 16) (v := .ref ureg) (C := RX16) (T := TX16) (N := 78) hx hb (htX16 hn) (fun _ h => h) hown hK hP 0 rfl rfl 33 (by decide) (hn.get mw_1572 rfl) (fun _ h9 => h9) hf_mm_33 dX16_branchWord_1 ?_
  refine lv_iload_n hx hb dX16_branchWord_4 rfl (lv_at hl 1 rfl) ?_
  refine lv_bipush (v := 15) hx hb dX16_branchWord_5 (by decide) ?_
  refine lv_ishr hx hb dX16_branchWord_7 ?_
  refine lv_topi (fun z7_1 ez7_1 => ?_)
  have r7_2 : rg z7_1 (-65536) 65535 := rg_shr (k := 15) ez7_1 (by decide) (rg_any v0) (by decide)
  refine lv_bipush (v := 31) hx hb dX16_branchWord_8 (by decide) ?_
  refine lv_iand hx hb dX16_branchWord_10 ?_
  refine lv_topi (fun z10_1 ez10_1 => ?_)
  have r10_2 : rg z10_1 0 31 := rg_andr ez10_1 (show rg (31 : Int32) 31 31 from rg_l (by decide)) (by decide)
  have hi11_1 : vp_in z10_1 32 := (in_rg r10_2 (by decide))
  refine va_lald hx hb hK hP 1 2 rfl rfl hi11_1 dX16_branchWord_11 ?_
  refine lv_topl (fun z11_2 ez11_2 => ?_)
  refine lv_lstore (lv' := [(4, .long z11_2), (0, .ref mm), (1, .int v0), (2, .long v1)]) hx hb dX16_branchWord_12 hl (by decide) rfl (fun ls hl => ?_)
  refine lv_aload_n hx hb dX16_branchWord_14 rfl (lv_at hl 1 rfl) ?_
  refine va_get (D := D) (ci := 16) (v := .ref ureg) (C := RX16) (T := TX16) (N := 78) hx hb (htX16 hn) (fun _ h => h) hown hK hP 0 rfl rfl 33 (by decide) (hn.get mw_1572 rfl) (fun _ h9 => h9) hf_mm_33 dX16_branchWord_15 ?_
  refine lv_iload_n hx hb dX16_branchWord_18 rfl (lv_at hl 2 rfl) ?_
  refine lv_bipush (v := 20) hx hb dX16_branchWord_19 (by decide) ?_
  refine lv_ishr hx hb dX16_branchWord_21 ?_
  refine lv_topi (fun z21_1 ez21_1 => ?_)
  have r21_2 : rg z21_1 (-2048) 2047 := rg_shr (k := 20) ez21_1 (by decide) (rg_any v0) (by decide)
  refine lv_bipush (v := 31) hx hb dX16_branchWord_22 (by decide) ?_
  refine lv_iand hx hb dX16_branchWord_24 ?_
  refine lv_topi (fun z24_1 ez24_1 => ?_)
  have r24_2 : rg z24_1 0 31 := rg_andr ez24_1 (show rg (31 : Int32) 31 31 from rg_l (by decide)) (by decide)
  have hi25_1 : vp_in z24_1 32 := (in_rg r24_2 (by decide))
  refine va_lald hx hb hK hP 1 2 rfl rfl hi25_1 dX16_branchWord_25 ?_
  refine lv_topl (fun z25_2 ez25_2 => ?_)
  refine lv_lstore (lv' := [(6, .long z25_2), (4, .long z11_2), (0, .ref mm), (1, .int v0), (2, .long v1)]) hx hb dX16_branchWord_26 hl (by decide) rfl (fun ls hl => ?_)
  refine lv_iload_n hx hb dX16_branchWord_28 rfl (lv_at hl 3 rfl) ?_
  refine lv_bipush (v := 31) hx hb dX16_branchWord_29 (by decide) ?_
  refine lv_ishr hx hb dX16_branchWord_31 ?_
  refine lv_topi (fun z31_1 ez31_1 => ?_)
  refine lv_bipush (v := 12) hx hb dX16_branchWord_32 (by decide) ?_
  refine lv_ishl hx hb dX16_branchWord_34 ?_
  refine lv_topi (fun z34_1 ez34_1 => ?_)
  refine lv_iload_n hx hb dX16_branchWord_35 rfl (lv_at hl 3 rfl) ?_
  refine lv_bipush (v := 7) hx hb dX16_branchWord_36 (by decide) ?_
  refine lv_ishr hx hb dX16_branchWord_38 ?_
  refine lv_topi (fun z38_1 ez38_1 => ?_)
  have r38_2 : rg z38_1 (-16777216) 16777215 := rg_shr (k := 7) ez38_1 (by decide) (rg_any v0) (by decide)
  refine lv_iconst (v := 1) hx hb dX16_branchWord_39 (by decide) ?_
  refine lv_iand hx hb dX16_branchWord_40 ?_
  refine lv_topi (fun z40_1 ez40_1 => ?_)
  have r40_2 : rg z40_1 0 1 := rg_andr ez40_1 (show rg (1 : Int32) 1 1 from rg_l (by decide)) (by decide)
  refine lv_bipush (v := 11) hx hb dX16_branchWord_41 (by decide) ?_
  refine lv_ishl hx hb dX16_branchWord_43 ?_
  refine lv_topi (fun z43_1 ez43_1 => ?_)
  have r43_2 : rg z43_1 0 2048 := rg_shl (c := 2048) (k := 11) ez43_1 (by decide) r40_2 (by decide)
  refine lv_ior hx hb dX16_branchWord_44 ?_
  refine lv_topi (fun z44_1 ez44_1 => ?_)
  refine lv_iload_n hx hb dX16_branchWord_45 rfl (lv_at hl 3 rfl) ?_
  refine lv_bipush (v := 25) hx hb dX16_branchWord_46 (by decide) ?_
  refine lv_ishr hx hb dX16_branchWord_48 ?_
  refine lv_topi (fun z48_1 ez48_1 => ?_)
  have r48_2 : rg z48_1 (-64) 63 := rg_shr (k := 25) ez48_1 (by decide) (rg_any v0) (by decide)
  refine lv_bipush (v := 63) hx hb dX16_branchWord_49 (by decide) ?_
  refine lv_iand hx hb dX16_branchWord_51 ?_
  refine lv_topi (fun z51_1 ez51_1 => ?_)
  have r51_2 : rg z51_1 0 63 := rg_andr ez51_1 (show rg (63 : Int32) 63 63 from rg_l (by decide)) (by decide)
  refine lv_iconst (v := 5) hx hb dX16_branchWord_52 (by decide) ?_
  refine lv_ishl hx hb dX16_branchWord_53 ?_
  refine lv_topi (fun z53_1 ez53_1 => ?_)
  have r53_2 : rg z53_1 0 2016 := rg_shl (c := 32) (k := 5) ez53_1 (by decide) r51_2 (by decide)
  refine lv_ior hx hb dX16_branchWord_54 ?_
  refine lv_topi (fun z54_1 ez54_1 => ?_)
  refine lv_iload_n hx hb dX16_branchWord_55 rfl (lv_at hl 3 rfl) ?_
  refine lv_bipush (v := 8) hx hb dX16_branchWord_56 (by decide) ?_
  refine lv_ishr hx hb dX16_branchWord_58 ?_
  refine lv_topi (fun z58_1 ez58_1 => ?_)
  have r58_2 : rg z58_1 (-8388608) 8388607 := rg_shr (k := 8) ez58_1 (by decide) (rg_any v0) (by decide)
  refine lv_bipush (v := 15) hx hb dX16_branchWord_59 (by decide) ?_
  refine lv_iand hx hb dX16_branchWord_61 ?_
  refine lv_topi (fun z61_1 ez61_1 => ?_)
  have r61_2 : rg z61_1 0 15 := rg_andr ez61_1 (show rg (15 : Int32) 15 15 from rg_l (by decide)) (by decide)
  refine lv_iconst (v := 1) hx hb dX16_branchWord_62 (by decide) ?_
  refine lv_ishl hx hb dX16_branchWord_63 ?_
  refine lv_topi (fun z63_1 ez63_1 => ?_)
  have r63_2 : rg z63_1 0 30 := rg_shl (c := 2) (k := 1) ez63_1 (by decide) r61_2 (by decide)
  refine lv_ior hx hb dX16_branchWord_64 ?_
  refine lv_topi (fun z64_1 ez64_1 => ?_)
  refine lv_istore (lv' := [(8, .int z64_1), (6, .long z25_2), (4, .long z11_2), (0, .ref mm), (1, .int v0), (2, .long v1)]) hx hb dX16_branchWord_65 hl (by decide) rfl (fun ls hl => ?_)
  refine lv_iload_n hx hb dX16_branchWord_67 rfl (lv_at hl 4 rfl) ?_
  refine lv_bipush (v := 12) hx hb dX16_branchWord_68 (by decide) ?_
  refine lv_ishr hx hb dX16_branchWord_70 ?_
  refine lv_topi (fun z70_1 ez70_1 => ?_)
  have r70_2 : rg z70_1 (-524288) 524287 := rg_shr (k := 12) ez70_1 (by decide) (rg_any v0) (by decide)
  refine lv_bipush (v := 7) hx hb dX16_branchWord_71 (by decide) ?_
  refine lv_iand hx hb dX16_branchWord_73 ?_
  refine lv_topi (fun z73_1 ez73_1 => ?_)
  have r73_2 : rg z73_1 0 7 := rg_andr ez73_1 (show rg (7 : Int32) 7 7 from rg_l (by decide)) (by decide)
  have b240 : ∀ (j240_l9 : Int32) (j240_amm : List Value) (j240_fmm_76 : Int32) (H : Heap) (locs : List Loc) (ls : Array Slot), (rg j240_l9 0 1) → (SB fs_mm j240_amm [75, 76]) → (j240_amm[75]? = some (.long x_mm_75)) → (rg j240_fmm_76 0 1) → (j240_amm[76]? = some (.int j240_fmm_76)) → lv_has ls 10 [(0, .ref mm), (2, .long v1), (8, .int z64_1), (9, .int j240_l9)] → va_P D vwCl [(mm, .inr (16, j240_amm)), (ureg, .inl (ct 2, 32, .inr (.inl g_ureg)))] H → va_D A [(mm, .inr (16, j240_amm)), (ureg, .inl (ct 2, 32, .inr (.inl g_ureg)))] → va_S A s.heap H locs → W p l e ({ frames := 3, cells := 0, slots := 0, locals := 66 }) s m [.ref mm, .int v0, .long v1].toArray below meth c H locs 0 0 Q (F0 m 240 ls []) := by
    intro j240_l9 j240_amm j240_fmm_76 H locs ls r240_1001 hs240_1002 hf240_1003 r240_1004 hf240_1005 hl hP hD hS
    refine lv_aload_n hx hb dX16_branchWord_240 rfl (lv_at hl 0 rfl) ?_
    refine lv_iload hx hb dX16_branchWord_241 (lv_at hl 3 rfl) ?_
    have b258 : ∀ (j258_s0 : Int64) (H : Heap) (locs : List Loc) (ls : Array Slot), lv_has ls 10 [] → va_P D vwCl [(mm, .inr (16, j240_amm)), (ureg, .inl (ct 2, 32, .inr (.inl g_ureg)))] H → va_D A [(mm, .inr (16, j240_amm)), (ureg, .inl (ct 2, 32, .inr (.inl g_ureg)))] → va_S A s.heap H locs → W p l e ({ frames := 3, cells := 0, slots := 0, locals := 66 }) s m [.ref mm, .int v0, .long v1].toArray below meth c H locs 0 0 Q (F0 m 258 ls [.long j258_s0, .ref mm]) := by
      intro j258_s0 H locs ls  hl hP hD hS
      refine va_put (D := D) (ci := 16) (v := .long j258_s0) (ty := .long) (C := RX16) (T := TX16) (N := 78) hx hb (htX16 hn) (fun _ h => h) tyX16 tyX16_ok nmX16 hown hK hP hD hS 0 rfl rfl 75 (by decide) (hn.get mw_1614 rfl) (fun _ h9 => h9) rfl (by decide +kernel) rfl rfl (by rw [hs240_1002.1, hlen_mm]; decide) dX16_branchWord_258 (fun H locs hP hD hS => ?_)
      have hP : va_P D vwCl [(mm, .inr (16, (j240_amm.set 75 (.long j258_s0)))), (ureg, .inl (ct 2, 32, .inr (.inl g_ureg)))] _ := hP
      have hD : va_D A [(mm, .inr (16, (j240_amm.set 75 (.long j258_s0)))), (ureg, .inl (ct 2, 32, .inr (.inl g_ureg)))] := hD
      obtain ⟨m258_1, em258_1⟩ : ∃ z, z = (j240_amm.set 75 (.long j258_s0)) := ⟨_, rfl⟩
      rw [← em258_1] at hP hD
      have hsm258_1 : SB fs_mm m258_1 [75, 76] := by rw [em258_1]; exact SB.set hs240_1002 (by decide)
      have hfm258_1_76 : m258_1[76]? = some (.int j240_fmm_76) := by rw [em258_1]; exact fs_ne (by decide) hf240_1005
      have hfm258_1_75 : m258_1[75]? = some (.long j258_s0) := by rw [em258_1]; exact fs_eq (by rw [hs240_1002.1, hlen_mm]; decide)
      have hP : va_P D vwCl [(mm, .inr (16, m258_1)), (ureg, .inl (ct 2, 32, .inr (.inl g_ureg)))] _ := hP
      have hD : va_D A [(mm, .inr (16, m258_1)), (ureg, .inl (ct 2, 32, .inr (.inl g_ureg)))] := hD
      exact endq_v hQ hx hb hr hlocks dX16_branchWord_261 (m258_1, j258_s0, j240_fmm_76) ⟨hsm258_1, hfm258_1_75, r240_1004, hfm258_1_76⟩ hP hD hS [0, 1] rfl (by decide) rfl (Nat.le_of_ble_eq_true rfl) (Nat.le_of_ble_eq_true rfl)
    refine lv_if_eq (tgt := 254) hx hb dX16_branchWord_243 (by decide) (fun c243_1 => ?_) (fun c243_1 => ?_)
    · have t243_2 := FF.mk (i_eq c243_1)
      have r243_3 : rg j240_l9 0 0 := rg_eqA t243_2 r240_1001 (show rg (0 : Int32) 0 0 from rg_l (by decide)) (by decide)
      refine lv_aload_n hx hb dX16_branchWord_254 rfl (lv_at hl 0 rfl) ?_
      refine va_get (D := D) (ci := 16) (v := .long x_mm_75) (C := RX16) (T := TX16) (N := 78) hx hb (htX16 hn) (fun _ h => h) hown hK hP 0 rfl rfl 75 (by decide) (hn.get mw_1614 rfl) (fun _ h9 => h9) hf240_1003 dX16_branchWord_255 ?_
      exact b258 x_mm_75 H locs ls  (lv_sub hl [] rfl) hP hD hS
    · have t243_2 := FF.mk (i_ne c243_1)
      have r243_3 : rg j240_l9 1 1 := rg_neAl t243_2 r240_1001 (show rg (0 : Int32) 0 0 from rg_l (by decide)) (by decide)
      refine lv_lload_n hx hb dX16_branchWord_246 rfl (lv_at hl 1 rfl) ?_
      refine lv_iload hx hb dX16_branchWord_247 (lv_at hl 2 rfl) ?_
      refine lv_i2l hx hb dX16_branchWord_249 rfl ?_
      refine lv_topl (fun z249_1 ez249_1 => ?_)
      have r249_2 : rl z249_1 (-2147483648) 2147483647 := rl_i2l ez249_1 (rg_any z64_1)
      refine lv_ladd hx hb dX16_branchWord_250 ?_
      refine lv_topl (fun z250_1 ez250_1 => ?_)
      refine lv_goto (tgt := 258) hx hb dX16_branchWord_251 (by decide) ?_
      exact b258 z250_1 H locs ls  (lv_sub hl [] rfl) hP hD hS
  have b232 : ∀  (H : Heap) (locs : List Loc) (ls : Array Slot), lv_has ls 10 [(0, .ref mm), (2, .long v1), (8, .int z64_1)] → va_P D vwCl [(mm, .inr (16, fs_mm)), (ureg, .inl (ct 2, 32, .inr (.inl g_ureg)))] H → va_D A [(mm, .inr (16, fs_mm)), (ureg, .inl (ct 2, 32, .inr (.inl g_ureg)))] → va_S A s.heap H locs → W p l e ({ frames := 3, cells := 0, slots := 0, locals := 66 }) s m [.ref mm, .int v0, .long v1].toArray below meth c H locs 0 0 Q (F0 m 232 ls []) := by
    intro  H locs ls  hl hP hD hS
    refine lv_aload_n hx hb dX16_branchWord_232 rfl (lv_at hl 0 rfl) ?_
    refine lv_iconst (v := 1) hx hb dX16_branchWord_233 (by decide) ?_
    refine va_put (D := D) (ci := 16) (v := .int 1) (ty := .boolean) (C := RX16) (T := TX16) (N := 78) hx hb (htX16 hn) (fun _ h => h) tyX16 tyX16_ok nmX16 hown hK hP hD hS 0 rfl rfl 76 (by decide) (hn.get mw_1615 rfl) (fun _ h9 => h9) rfl (by decide +kernel) (by decide) rfl (by rw [hlen_mm]; decide) dX16_branchWord_234 (fun H locs hP hD hS => ?_)
    have hP : va_P D vwCl [(mm, .inr (16, (fs_mm.set 76 (.int 1)))), (ureg, .inl (ct 2, 32, .inr (.inl g_ureg)))] _ := hP
    have hD : va_D A [(mm, .inr (16, (fs_mm.set 76 (.int 1)))), (ureg, .inl (ct 2, 32, .inr (.inl g_ureg)))] := hD
    obtain ⟨m234_1, em234_1⟩ : ∃ z, z = (fs_mm.set 76 (.int 1)) := ⟨_, rfl⟩
    rw [← em234_1] at hP hD
    have hsm234_1 : SB fs_mm m234_1 [75, 76] := by rw [em234_1]; exact SB.set (SB.rf _ _) (by decide)
    have hfm234_1_75 : m234_1[75]? = some (.long x_mm_75) := by rw [em234_1]; exact fs_ne (by decide) hf_mm_75
    have hfm234_1_76 : m234_1[76]? = some (.int 1) := by rw [em234_1]; exact fs_eq (by rw [hlen_mm]; decide)
    have hP : va_P D vwCl [(mm, .inr (16, m234_1)), (ureg, .inl (ct 2, 32, .inr (.inl g_ureg)))] _ := hP
    have hD : va_D A [(mm, .inr (16, m234_1)), (ureg, .inl (ct 2, 32, .inr (.inl g_ureg)))] := hD
    refine lv_iconst (v := 0) hx hb dX16_branchWord_237 (by decide) ?_
    refine lv_istore (lv' := [(9, .int 0), (0, .ref mm), (2, .long v1), (8, .int z64_1)]) hx hb dX16_branchWord_238 hl (by decide) rfl (fun ls hl => ?_)
    exact b240 (0 : Int32) m234_1 (1 : Int32) H locs ls (rg_w (show rg (0 : Int32) 0 0 from rg_l (by decide)) (by decide)) hsm234_1 hfm234_1_75 (rg_w (show rg (1 : Int32) 1 1 from rg_l (by decide)) (by decide)) hfm234_1_76 (lv_sub hl [1, 2, 3, 0] rfl) hP hD hS
  by_cases h74_101 : z73_1.toInt = 0
  · have r74_102 : rg z73_1 0 0 := rg_at h74_101
    refine lv_tableIn (off := 46) (tgt := 120) hx hb dX16_branchWord_74 (by rw [h74_101]; decide) (by rw [h74_101]; decide) (by rw [h74_101]; rfl) (by decide) ?_
    refine lv_lload hx hb dX16_branchWord_120 (lv_at hl 2 rfl) ?_
    refine lv_lload hx hb dX16_branchWord_122 (lv_at hl 1 rfl) ?_
    refine W.lcmp hx hb dX16_branchWord_124 ?_
    refine lv_topi (fun z124_1 ez124_1 => ?_)
    have b133 : ∀ (j133_s0 : Int32) (H : Heap) (locs : List Loc) (ls : Array Slot), (rg j133_s0 0 1) → lv_has ls 10 [(0, .ref mm), (2, .long v1), (8, .int z64_1)] → va_P D vwCl [(mm, .inr (16, fs_mm)), (ureg, .inl (ct 2, 32, .inr (.inl g_ureg)))] H → va_D A [(mm, .inr (16, fs_mm)), (ureg, .inl (ct 2, 32, .inr (.inl g_ureg)))] → va_S A s.heap H locs → W p l e ({ frames := 3, cells := 0, slots := 0, locals := 66 }) s m [.ref mm, .int v0, .long v1].toArray below meth c H locs 0 0 Q (F0 m 133 ls [.int j133_s0]) := by
      intro j133_s0 H locs ls r133_1001 hl hP hD hS
      refine lv_istore (lv' := [(9, .int j133_s0), (0, .ref mm), (2, .long v1), (8, .int z64_1)]) hx hb dX16_branchWord_133 hl (by decide) rfl (fun ls hl => ?_)
      refine lv_goto (tgt := 240) hx hb dX16_branchWord_135 (by decide) ?_
      exact b240 j133_s0 fs_mm x_mm_76 H locs ls r133_1001 (SB.rf _ _) hf_mm_75 h_x_mm_76 hf_mm_76 (lv_sub hl [1, 2, 3, 0] rfl) hP hD hS
    refine lv_if_ne (tgt := 132) hx hb dX16_branchWord_125 (by decide) (fun c125_1 => ?_) (fun c125_1 => ?_)
    · have t125_2 := FF.mk (l_ne ez124_1 c125_1)
      refine lv_iconst (v := 0) hx hb dX16_branchWord_132 (by decide) ?_
      exact b133 (0 : Int32) H locs ls (rg_w (show rg (0 : Int32) 0 0 from rg_l (by decide)) (by decide)) (lv_sub hl [3, 5, 0] rfl) hP hD hS
    · have t125_2 := FF.mk (l_eq ez124_1 c125_1)
      refine lv_iconst (v := 1) hx hb dX16_branchWord_128 (by decide) ?_
      refine lv_goto (tgt := 133) hx hb dX16_branchWord_129 (by decide) ?_
      exact b133 (1 : Int32) H locs ls (rg_w (show rg (1 : Int32) 1 1 from rg_l (by decide)) (by decide)) (lv_sub hl [3, 5, 0] rfl) hP hD hS
  by_cases h74_111 : z73_1.toInt = 1
  · have r74_112 : rg z73_1 1 1 := rg_at h74_111
    refine lv_tableIn (off := 64) (tgt := 138) hx hb dX16_branchWord_74 (by rw [h74_111]; decide) (by rw [h74_111]; decide) (by rw [h74_111]; rfl) (by decide) ?_
    refine lv_lload hx hb dX16_branchWord_138 (lv_at hl 2 rfl) ?_
    refine lv_lload hx hb dX16_branchWord_140 (lv_at hl 1 rfl) ?_
    refine W.lcmp hx hb dX16_branchWord_142 ?_
    refine lv_topi (fun z142_1 ez142_1 => ?_)
    have b151 : ∀ (j151_s0 : Int32) (H : Heap) (locs : List Loc) (ls : Array Slot), (rg j151_s0 0 1) → lv_has ls 10 [(0, .ref mm), (2, .long v1), (8, .int z64_1)] → va_P D vwCl [(mm, .inr (16, fs_mm)), (ureg, .inl (ct 2, 32, .inr (.inl g_ureg)))] H → va_D A [(mm, .inr (16, fs_mm)), (ureg, .inl (ct 2, 32, .inr (.inl g_ureg)))] → va_S A s.heap H locs → W p l e ({ frames := 3, cells := 0, slots := 0, locals := 66 }) s m [.ref mm, .int v0, .long v1].toArray below meth c H locs 0 0 Q (F0 m 151 ls [.int j151_s0]) := by
      intro j151_s0 H locs ls r151_1001 hl hP hD hS
      refine lv_istore (lv' := [(9, .int j151_s0), (0, .ref mm), (2, .long v1), (8, .int z64_1)]) hx hb dX16_branchWord_151 hl (by decide) rfl (fun ls hl => ?_)
      refine lv_goto (tgt := 240) hx hb dX16_branchWord_153 (by decide) ?_
      exact b240 j151_s0 fs_mm x_mm_76 H locs ls r151_1001 (SB.rf _ _) hf_mm_75 h_x_mm_76 hf_mm_76 (lv_sub hl [1, 2, 3, 0] rfl) hP hD hS
    refine lv_if_eq (tgt := 150) hx hb dX16_branchWord_143 (by decide) (fun c143_1 => ?_) (fun c143_1 => ?_)
    · have t143_2 := FF.mk (l_eq ez142_1 c143_1)
      refine lv_iconst (v := 0) hx hb dX16_branchWord_150 (by decide) ?_
      exact b151 (0 : Int32) H locs ls (rg_w (show rg (0 : Int32) 0 0 from rg_l (by decide)) (by decide)) (lv_sub hl [3, 5, 0] rfl) hP hD hS
    · have t143_2 := FF.mk (l_neq ez142_1 c143_1)
      refine lv_iconst (v := 1) hx hb dX16_branchWord_146 (by decide) ?_
      refine lv_goto (tgt := 151) hx hb dX16_branchWord_147 (by decide) ?_
      exact b151 (1 : Int32) H locs ls (rg_w (show rg (1 : Int32) 1 1 from rg_l (by decide)) (by decide)) (lv_sub hl [3, 5, 0] rfl) hP hD hS
  by_cases h74_121 : z73_1.toInt = 2
  · have r74_122 : rg z73_1 2 2 := rg_at h74_121
    refine lv_tableIn (off := 158) (tgt := 232) hx hb dX16_branchWord_74 (by rw [h74_121]; decide) (by rw [h74_121]; decide) (by rw [h74_121]; rfl) (by decide) ?_
    exact b232  H locs ls  (lv_sub hl [3, 5, 0] rfl) hP hD hS
  by_cases h74_131 : z73_1.toInt = 3
  · have r74_132 : rg z73_1 3 3 := rg_at h74_131
    refine lv_tableIn (off := 158) (tgt := 232) hx hb dX16_branchWord_74 (by rw [h74_131]; decide) (by rw [h74_131]; decide) (by rw [h74_131]; rfl) (by decide) ?_
    exact b232  H locs ls  (lv_sub hl [3, 5, 0] rfl) hP hD hS
  by_cases h74_141 : z73_1.toInt = 4
  · have r74_142 : rg z73_1 4 4 := rg_at h74_141
    refine lv_tableIn (off := 82) (tgt := 156) hx hb dX16_branchWord_74 (by rw [h74_141]; decide) (by rw [h74_141]; decide) (by rw [h74_141]; rfl) (by decide) ?_
    refine lv_lload hx hb dX16_branchWord_156 (lv_at hl 2 rfl) ?_
    refine lv_lload hx hb dX16_branchWord_158 (lv_at hl 1 rfl) ?_
    refine W.lcmp hx hb dX16_branchWord_160 ?_
    refine lv_topi (fun z160_1 ez160_1 => ?_)
    have b169 : ∀ (j169_s0 : Int32) (H : Heap) (locs : List Loc) (ls : Array Slot), (rg j169_s0 0 1) → lv_has ls 10 [(0, .ref mm), (2, .long v1), (8, .int z64_1)] → va_P D vwCl [(mm, .inr (16, fs_mm)), (ureg, .inl (ct 2, 32, .inr (.inl g_ureg)))] H → va_D A [(mm, .inr (16, fs_mm)), (ureg, .inl (ct 2, 32, .inr (.inl g_ureg)))] → va_S A s.heap H locs → W p l e ({ frames := 3, cells := 0, slots := 0, locals := 66 }) s m [.ref mm, .int v0, .long v1].toArray below meth c H locs 0 0 Q (F0 m 169 ls [.int j169_s0]) := by
      intro j169_s0 H locs ls r169_1001 hl hP hD hS
      refine lv_istore (lv' := [(9, .int j169_s0), (0, .ref mm), (2, .long v1), (8, .int z64_1)]) hx hb dX16_branchWord_169 hl (by decide) rfl (fun ls hl => ?_)
      refine lv_goto (tgt := 240) hx hb dX16_branchWord_171 (by decide) ?_
      exact b240 j169_s0 fs_mm x_mm_76 H locs ls r169_1001 (SB.rf _ _) hf_mm_75 h_x_mm_76 hf_mm_76 (lv_sub hl [1, 2, 3, 0] rfl) hP hD hS
    refine lv_if_ge (tgt := 168) hx hb dX16_branchWord_161 (by decide) (fun c161_1 => ?_) (fun c161_1 => ?_)
    · have t161_2 := FF.mk (l_ge ez160_1 c161_1)
      refine lv_iconst (v := 0) hx hb dX16_branchWord_168 (by decide) ?_
      exact b169 (0 : Int32) H locs ls (rg_w (show rg (0 : Int32) 0 0 from rg_l (by decide)) (by decide)) (lv_sub hl [3, 5, 0] rfl) hP hD hS
    · have t161_2 := FF.mk (l_nge ez160_1 c161_1)
      have r161_3 : rl z11_2 (-9223372036854775808) 9223372036854775806 := rl_ltA t161_2 (rl_any z11_2) (rl_any z25_2) (by decide)
      have r161_4 : rl z25_2 (-9223372036854775807) 9223372036854775807 := rl_ltB t161_2 (rl_any z11_2) (rl_any z25_2) (by decide)
      refine lv_iconst (v := 1) hx hb dX16_branchWord_164 (by decide) ?_
      refine lv_goto (tgt := 169) hx hb dX16_branchWord_165 (by decide) ?_
      exact b169 (1 : Int32) H locs ls (rg_w (show rg (1 : Int32) 1 1 from rg_l (by decide)) (by decide)) (lv_sub hl [3, 5, 0] rfl) hP hD hS
  by_cases h74_151 : z73_1.toInt = 5
  · have r74_152 : rg z73_1 5 5 := rg_at h74_151
    refine lv_tableIn (off := 100) (tgt := 174) hx hb dX16_branchWord_74 (by rw [h74_151]; decide) (by rw [h74_151]; decide) (by rw [h74_151]; rfl) (by decide) ?_
    refine lv_lload hx hb dX16_branchWord_174 (lv_at hl 2 rfl) ?_
    refine lv_lload hx hb dX16_branchWord_176 (lv_at hl 1 rfl) ?_
    refine W.lcmp hx hb dX16_branchWord_178 ?_
    refine lv_topi (fun z178_1 ez178_1 => ?_)
    have b187 : ∀ (j187_s0 : Int32) (H : Heap) (locs : List Loc) (ls : Array Slot), (rg j187_s0 0 1) → lv_has ls 10 [(0, .ref mm), (2, .long v1), (8, .int z64_1)] → va_P D vwCl [(mm, .inr (16, fs_mm)), (ureg, .inl (ct 2, 32, .inr (.inl g_ureg)))] H → va_D A [(mm, .inr (16, fs_mm)), (ureg, .inl (ct 2, 32, .inr (.inl g_ureg)))] → va_S A s.heap H locs → W p l e ({ frames := 3, cells := 0, slots := 0, locals := 66 }) s m [.ref mm, .int v0, .long v1].toArray below meth c H locs 0 0 Q (F0 m 187 ls [.int j187_s0]) := by
      intro j187_s0 H locs ls r187_1001 hl hP hD hS
      refine lv_istore (lv' := [(9, .int j187_s0), (0, .ref mm), (2, .long v1), (8, .int z64_1)]) hx hb dX16_branchWord_187 hl (by decide) rfl (fun ls hl => ?_)
      refine lv_goto (tgt := 240) hx hb dX16_branchWord_189 (by decide) ?_
      exact b240 j187_s0 fs_mm x_mm_76 H locs ls r187_1001 (SB.rf _ _) hf_mm_75 h_x_mm_76 hf_mm_76 (lv_sub hl [1, 2, 3, 0] rfl) hP hD hS
    refine lv_if_lt (tgt := 186) hx hb dX16_branchWord_179 (by decide) (fun c179_1 => ?_) (fun c179_1 => ?_)
    · have t179_2 := FF.mk (l_lt ez178_1 c179_1)
      have r179_3 : rl z11_2 (-9223372036854775808) 9223372036854775806 := rl_ltA t179_2 (rl_any z11_2) (rl_any z25_2) (by decide)
      have r179_4 : rl z25_2 (-9223372036854775807) 9223372036854775807 := rl_ltB t179_2 (rl_any z11_2) (rl_any z25_2) (by decide)
      refine lv_iconst (v := 0) hx hb dX16_branchWord_186 (by decide) ?_
      exact b187 (0 : Int32) H locs ls (rg_w (show rg (0 : Int32) 0 0 from rg_l (by decide)) (by decide)) (lv_sub hl [3, 5, 0] rfl) hP hD hS
    · have t179_2 := FF.mk (l_nlt ez178_1 c179_1)
      refine lv_iconst (v := 1) hx hb dX16_branchWord_182 (by decide) ?_
      refine lv_goto (tgt := 187) hx hb dX16_branchWord_183 (by decide) ?_
      exact b187 (1 : Int32) H locs ls (rg_w (show rg (1 : Int32) 1 1 from rg_l (by decide)) (by decide)) (lv_sub hl [3, 5, 0] rfl) hP hD hS
  by_cases h74_161 : z73_1.toInt = 6
  · have r74_162 : rg z73_1 6 6 := rg_at h74_161
    refine lv_tableIn (off := 118) (tgt := 192) hx hb dX16_branchWord_74 (by rw [h74_161]; decide) (by rw [h74_161]; decide) (by rw [h74_161]; rfl) (by decide) ?_
    refine lv_lload hx hb dX16_branchWord_192 (lv_at hl 2 rfl) ?_
    refine lv_lload hx hb dX16_branchWord_194 (lv_at hl 1 rfl) ?_
    refine go_i (k1 := 0) (n1 := 0) (wr := [(mm, .inr (16, fs_mm)), (ureg, .inl (ct 2, 32, .inr (.inl g_ureg)))]) [] [0, 1] (rn_S (As := [.long z11_2, .long z25_2]) (rest := []) (c_JL_compareUnsigned l D ct z11_2 z25_2  _) (cb_of (n := 2) hn mw_2370 mw_25 mw_2368 mhJL_compareUnsigned ⟨(Nat.le_of_ble_eq_true rfl), (Nat.le_of_ble_eq_true rfl)⟩) hx hb hml hown hn hK hSK hZ hS mw_2369 rfl hl.1 (Nat.le_of_ble_eq_true rfl) dX16_branchWord_196 ⟨(Nat.le_of_ble_eq_true rfl), (Nat.le_of_ble_eq_true rfl)⟩) hP hD hS hA rfl rfl (by decide) (by decide) (by decide) (Nat.le_of_ble_eq_true rfl) (Nat.le_of_ble_eq_true rfl) (fun r196_1 u196_2 H locs hp196_3 hP hD hS => ?_)
    have hp196_4 := hp196_3
    have hp196_4 : rg r196_1 (-1) 1 := hp196_4
    have hP : va_P D vwCl [(mm, .inr (16, fs_mm)), (ureg, .inl (ct 2, 32, .inr (.inl g_ureg)))] _ := hP
    have hD : va_D A [(mm, .inr (16, fs_mm)), (ureg, .inl (ct 2, 32, .inr (.inl g_ureg)))] := hD
    have b207 : ∀ (j207_s0 : Int32) (H : Heap) (locs : List Loc) (ls : Array Slot), (rg j207_s0 0 1) → lv_has ls 10 [(0, .ref mm), (2, .long v1), (8, .int z64_1)] → va_P D vwCl [(mm, .inr (16, fs_mm)), (ureg, .inl (ct 2, 32, .inr (.inl g_ureg)))] H → va_D A [(mm, .inr (16, fs_mm)), (ureg, .inl (ct 2, 32, .inr (.inl g_ureg)))] → va_S A s.heap H locs → W p l e ({ frames := 3, cells := 0, slots := 0, locals := 66 }) s m [.ref mm, .int v0, .long v1].toArray below meth c H locs 0 0 Q (F0 m 207 ls [.int j207_s0]) := by
      intro j207_s0 H locs ls r207_1001 hl hP hD hS
      refine lv_istore (lv' := [(9, .int j207_s0), (0, .ref mm), (2, .long v1), (8, .int z64_1)]) hx hb dX16_branchWord_207 hl (by decide) rfl (fun ls hl => ?_)
      refine lv_goto (tgt := 240) hx hb dX16_branchWord_209 (by decide) ?_
      exact b240 j207_s0 fs_mm x_mm_76 H locs ls r207_1001 (SB.rf _ _) hf_mm_75 h_x_mm_76 hf_mm_76 (lv_sub hl [1, 2, 3, 0] rfl) hP hD hS
    refine lv_if_ge (tgt := 206) hx hb dX16_branchWord_199 (by decide) (fun c199_1 => ?_) (fun c199_1 => ?_)
    · have t199_2 := FF.mk (i_le c199_1)
      have r199_3 : rg r196_1 0 1 := rg_leB t199_2 (show rg (0 : Int32) 0 0 from rg_l (by decide)) hp196_4 (by decide)
      refine lv_iconst (v := 0) hx hb dX16_branchWord_206 (by decide) ?_
      exact b207 (0 : Int32) H locs ls (rg_w (show rg (0 : Int32) 0 0 from rg_l (by decide)) (by decide)) (lv_sub hl [3, 5, 0] rfl) hP hD hS
    · have t199_2 := FF.mk (i_nle c199_1)
      have r199_3 : rg r196_1 (-1) (-1) := rg_ltA t199_2 hp196_4 (show rg (0 : Int32) 0 0 from rg_l (by decide)) (by decide)
      refine lv_iconst (v := 1) hx hb dX16_branchWord_202 (by decide) ?_
      refine lv_goto (tgt := 207) hx hb dX16_branchWord_203 (by decide) ?_
      exact b207 (1 : Int32) H locs ls (rg_w (show rg (1 : Int32) 1 1 from rg_l (by decide)) (by decide)) (lv_sub hl [3, 5, 0] rfl) hP hD hS
  have h74_171 : z73_1.toInt = 7 := by have q0 := r73_2; have q1 := q0.1; have q2 := q0.2; omega
  have r74_172 : rg z73_1 7 7 := rg_at h74_171
  refine lv_tableIn (off := 138) (tgt := 212) hx hb dX16_branchWord_74 (by rw [h74_171]; decide) (by rw [h74_171]; decide) (by rw [h74_171]; rfl) (by decide) ?_
  refine lv_lload hx hb dX16_branchWord_212 (lv_at hl 2 rfl) ?_
  refine lv_lload hx hb dX16_branchWord_214 (lv_at hl 1 rfl) ?_
  refine go_i (k1 := 0) (n1 := 0) (wr := [(mm, .inr (16, fs_mm)), (ureg, .inl (ct 2, 32, .inr (.inl g_ureg)))]) [] [0, 1] (rn_S (As := [.long z11_2, .long z25_2]) (rest := []) (c_JL_compareUnsigned l D ct z11_2 z25_2  _) (cb_of (n := 2) hn mw_2370 mw_25 mw_2368 mhJL_compareUnsigned ⟨(Nat.le_of_ble_eq_true rfl), (Nat.le_of_ble_eq_true rfl)⟩) hx hb hml hown hn hK hSK hZ hS mw_2369 rfl hl.1 (Nat.le_of_ble_eq_true rfl) dX16_branchWord_216 ⟨(Nat.le_of_ble_eq_true rfl), (Nat.le_of_ble_eq_true rfl)⟩) hP hD hS hA rfl rfl (by decide) (by decide) (by decide) (Nat.le_of_ble_eq_true rfl) (Nat.le_of_ble_eq_true rfl) (fun r216_1 u216_2 H locs hp216_3 hP hD hS => ?_)
  have hp216_4 := hp216_3
  have hp216_4 : rg r216_1 (-1) 1 := hp216_4
  have hP : va_P D vwCl [(mm, .inr (16, fs_mm)), (ureg, .inl (ct 2, 32, .inr (.inl g_ureg)))] _ := hP
  have hD : va_D A [(mm, .inr (16, fs_mm)), (ureg, .inl (ct 2, 32, .inr (.inl g_ureg)))] := hD
  have b227 : ∀ (j227_s0 : Int32) (H : Heap) (locs : List Loc) (ls : Array Slot), (rg j227_s0 0 1) → lv_has ls 10 [(0, .ref mm), (2, .long v1), (8, .int z64_1)] → va_P D vwCl [(mm, .inr (16, fs_mm)), (ureg, .inl (ct 2, 32, .inr (.inl g_ureg)))] H → va_D A [(mm, .inr (16, fs_mm)), (ureg, .inl (ct 2, 32, .inr (.inl g_ureg)))] → va_S A s.heap H locs → W p l e ({ frames := 3, cells := 0, slots := 0, locals := 66 }) s m [.ref mm, .int v0, .long v1].toArray below meth c H locs 0 0 Q (F0 m 227 ls [.int j227_s0]) := by
    intro j227_s0 H locs ls r227_1001 hl hP hD hS
    refine lv_istore (lv' := [(9, .int j227_s0), (0, .ref mm), (2, .long v1), (8, .int z64_1)]) hx hb dX16_branchWord_227 hl (by decide) rfl (fun ls hl => ?_)
    refine lv_goto (tgt := 240) hx hb dX16_branchWord_229 (by decide) ?_
    exact b240 j227_s0 fs_mm x_mm_76 H locs ls r227_1001 (SB.rf _ _) hf_mm_75 h_x_mm_76 hf_mm_76 (lv_sub hl [1, 2, 3, 0] rfl) hP hD hS
  refine lv_if_lt (tgt := 226) hx hb dX16_branchWord_219 (by decide) (fun c219_1 => ?_) (fun c219_1 => ?_)
  · have t219_2 := FF.mk (i_lt c219_1)
    have r219_3 : rg r216_1 (-1) (-1) := rg_ltA t219_2 hp216_4 (show rg (0 : Int32) 0 0 from rg_l (by decide)) (by decide)
    refine lv_iconst (v := 0) hx hb dX16_branchWord_226 (by decide) ?_
    exact b227 (0 : Int32) H locs ls (rg_w (show rg (0 : Int32) 0 0 from rg_l (by decide)) (by decide)) (lv_sub hl [3, 5, 0] rfl) hP hD hS
  · have t219_2 := FF.mk (i_nlt c219_1)
    have r219_3 : rg r216_1 0 1 := rg_leB t219_2 (show rg (0 : Int32) 0 0 from rg_l (by decide)) hp216_4 (by decide)
    refine lv_iconst (v := 1) hx hb dX16_branchWord_222 (by decide) ?_
    refine lv_goto (tgt := 227) hx hb dX16_branchWord_223 (by decide) ?_
    exact b227 (1 : Int32) H locs ls (rg_w (show rg (1 : Int32) 1 1 from rg_l (by decide)) (by decide)) (lv_sub hl [3, 5, 0] rfl) hP hD hS
set_option maxHeartbeats 2000000 in
theorem c_X16_numberWord (l : Launch) (D : va_G) (ct : Nat → ClassId) (mm : Nat) (v0 : Int32) (fs_mm : List Value) (ureg : Nat) (x_mm_76 : Int32) (g_ureg : Nat → Int64) (hlen_mm : fs_mm.length = 78) (hf_mm_33 : fs_mm[33]? = some (.ref ureg)) (h_x_mm_76 : rg x_mm_76 0 1) (hf_mm_76 : fs_mm[76]? = some (.int x_mm_76)) : KV (S := List Value × Int32 × (Nat → Int64)) l yX16_numberWord cX16_numberWord 8 none 3 66 D ct [.ref mm, .int v0] [(mm, .inr (16, fs_mm)), (ureg, .inl (ct 2, 32, .inr (.inl g_ureg)))] 0 0 (fun (u : List Value × Int32 × (Nat → Int64)) => match u with | (fs2_mm, y_mm_76, k_ureg) => SB fs_mm fs2_mm [76] ∧ rg y_mm_76 0 1 ∧ fs2_mm[76]? = some (.int y_mm_76)) (fun (u : List Value × Int32 × (Nat → Int64)) => match u with | (fs2_mm, y_mm_76, k_ureg) => [(mm, .inr (16, fs2_mm)), (ureg, .inl (ct 2, 32, .inr (.inl k_ureg)))]) := by
  refine KVq_of (by decide) (Nat.le_of_ble_eq_true rfl) (fun p e s m below meth c A Q C0 hA H locs hS hP hD hQ ls hl => ?_)
  obtain ⟨hx, hb, hr, hown, hin, hml, hlocks, hn, hK, hZ, hSK⟩ := C0
  have hl : lv_has ls 8 [(0, .ref mm), (1, .int v0)] := hl
  refine lv_iload_n hx hb dX16_numberWord_0 rfl (lv_at hl 1 rfl) ?_
  refine lv_bipush (v := 7) hx hb dX16_numberWord_1 (by decide) ?_
  refine lv_ishr hx hb dX16_numberWord_3 ?_
  refine lv_topi (fun z3_1 ez3_1 => ?_)
  have r3_2 : rg z3_1 (-16777216) 16777215 := rg_shr (k := 7) ez3_1 (by decide) (rg_any v0) (by decide)
  refine lv_bipush (v := 31) hx hb dX16_numberWord_4 (by decide) ?_
  refine lv_iand hx hb dX16_numberWord_6 ?_
  refine lv_topi (fun z6_1 ez6_1 => ?_)
  have r6_2 : rg z6_1 0 31 := rg_andr ez6_1 (show rg (31 : Int32) 31 31 from rg_l (by decide)) (by decide)
  refine lv_istore_n (lv' := [(2, .int z6_1), (0, .ref mm), (1, .int v0)]) hx hb dX16_numberWord_7 rfl hl (by decide) rfl (fun ls hl => ?_)
  refine lv_aload_n hx hb dX16_numberWord_8 rfl (lv_at hl 1 rfl) ?_
  refine va_get (D := D) (ci := 16) (v := .ref ureg) (C := RX16) (T := TX16) (N := 78) hx hb (htX16 hn) (fun _ h => h) hown hK hP 0 rfl rfl 33 (by decide) (hn.get mw_1572 rfl) (fun _ h9 => h9) hf_mm_33 dX16_numberWord_9 ?_
  refine lv_iload_n hx hb dX16_numberWord_12 rfl (lv_at hl 2 rfl) ?_
  refine lv_bipush (v := 15) hx hb dX16_numberWord_13 (by decide) ?_
  refine lv_ishr hx hb dX16_numberWord_15 ?_
  refine lv_topi (fun z15_1 ez15_1 => ?_)
  have r15_2 : rg z15_1 (-65536) 65535 := rg_shr (k := 15) ez15_1 (by decide) (rg_any v0) (by decide)
  refine lv_bipush (v := 31) hx hb dX16_numberWord_16 (by decide) ?_
  refine lv_iand hx hb dX16_numberWord_18 ?_
  refine lv_topi (fun z18_1 ez18_1 => ?_)
  have r18_2 : rg z18_1 0 31 := rg_andr ez18_1 (show rg (31 : Int32) 31 31 from rg_l (by decide)) (by decide)
  have hi19_1 : vp_in z18_1 32 := (in_rg r18_2 (by decide))
  refine va_lald hx hb hK hP 1 2 rfl rfl hi19_1 dX16_numberWord_19 ?_
  refine lv_topl (fun z19_2 ez19_2 => ?_)
  refine lv_lstore_n (lv' := [(3, .long z19_2), (2, .int z6_1), (0, .ref mm), (1, .int v0)]) hx hb dX16_numberWord_20 rfl hl (by decide) rfl (fun ls hl => ?_)
  refine lv_iload_n hx hb dX16_numberWord_21 rfl (lv_at hl 3 rfl) ?_
  refine lv_bipush (v := 20) hx hb dX16_numberWord_22 (by decide) ?_
  refine lv_ishr hx hb dX16_numberWord_24 ?_
  refine lv_topi (fun z24_1 ez24_1 => ?_)
  have r24_2 : rg z24_1 (-2048) 2047 := rg_shr (k := 20) ez24_1 (by decide) (rg_any v0) (by decide)
  refine lv_istore (lv' := [(5, .int z24_1), (3, .long z19_2), (2, .int z6_1), (0, .ref mm), (1, .int v0)]) hx hb dX16_numberWord_25 hl (by decide) rfl (fun ls hl => ?_)
  refine lv_iload hx hb dX16_numberWord_27 (lv_at hl 0 rfl) ?_
  refine lv_bipush (v := 63) hx hb dX16_numberWord_29 (by decide) ?_
  refine lv_iand hx hb dX16_numberWord_31 ?_
  refine lv_topi (fun z31_1 ez31_1 => ?_)
  have r31_2 : rg z31_1 0 63 := rg_andr ez31_1 (show rg (63 : Int32) 63 63 from rg_l (by decide)) (by decide)
  refine lv_istore (lv' := [(6, .int z31_1), (5, .int z24_1), (3, .long z19_2), (2, .int z6_1), (0, .ref mm), (1, .int v0)]) hx hb dX16_numberWord_32 hl (by decide) rfl (fun ls hl => ?_)
  refine lv_iload_n hx hb dX16_numberWord_34 rfl (lv_at hl 5 rfl) ?_
  refine lv_bipush (v := 26) hx hb dX16_numberWord_35 (by decide) ?_
  refine lv_iushr hx hb dX16_numberWord_37 rfl ?_
  refine lv_topi (fun z37_1 ez37_1 => ?_)
  have r37_2 : rg z37_1 0 63 := rg_ushr (k := 26) ez37_1 (by decide) (by decide)
  refine lv_istore (lv' := [(7, .int z37_1), (6, .int z31_1), (5, .int z24_1), (3, .long z19_2), (2, .int z6_1), (0, .ref mm), (1, .int v0)]) hx hb dX16_numberWord_38 hl (by decide) rfl (fun ls hl => ?_)
  refine lv_iload_n hx hb dX16_numberWord_40 rfl (lv_at hl 6 rfl) ?_
  refine lv_bipush (v := 12) hx hb dX16_numberWord_41 (by decide) ?_
  refine lv_ishr hx hb dX16_numberWord_43 ?_
  refine lv_topi (fun z43_1 ez43_1 => ?_)
  have r43_2 : rg z43_1 (-524288) 524287 := rg_shr (k := 12) ez43_1 (by decide) (rg_any v0) (by decide)
  refine lv_bipush (v := 7) hx hb dX16_numberWord_44 (by decide) ?_
  refine lv_iand hx hb dX16_numberWord_46 ?_
  refine lv_topi (fun z46_1 ez46_1 => ?_)
  have r46_2 : rg z46_1 0 7 := rg_andr ez46_1 (show rg (7 : Int32) 7 7 from rg_l (by decide)) (by decide)
  by_cases h47_101 : z46_1.toInt = 0
  · have r47_102 : rg z46_1 0 0 := rg_at h47_101
    refine lv_tableIn (off := 41) (tgt := 88) hx hb dX16_numberWord_47 (by rw [h47_101]; decide) (by rw [h47_101]; decide) (by rw [h47_101]; rfl) (by decide) ?_
    refine lv_aload_n hx hb dX16_numberWord_88 rfl (lv_at hl 5 rfl) ?_
    refine lv_iload_n hx hb dX16_numberWord_89 rfl (lv_at hl 4 rfl) ?_
    refine lv_lload_n hx hb dX16_numberWord_90 rfl (lv_at hl 3 rfl) ?_
    refine lv_iload hx hb dX16_numberWord_91 (lv_at hl 2 rfl) ?_
    refine lv_i2l hx hb dX16_numberWord_93 rfl ?_
    refine lv_topl (fun z93_1 ez93_1 => ?_)
    have r93_2 : rl z93_1 (-2048) 2047 := rl_i2l ez93_1 r24_2
    refine lv_ladd hx hb dX16_numberWord_94 ?_
    refine lv_topl (fun z94_1 ez94_1 => ?_)
    refine go_v (k1 := 0) (n1 := 0) (wr := []) [0, 1] [] (rn_V (As := [.int z6_1, .long z94_1]) (rest := []) (c_X16_set l D ct mm z6_1 z94_1 fs_mm ureg g_ureg r6_2 hlen_mm hf_mm_33 _) (cb_of (n := 2) hn mw_2674 mw_13 mw_2671 mhX16_set ⟨(Nat.le_of_ble_eq_true rfl), (Nat.le_of_ble_eq_true rfl)⟩) hx hb hml hown hn hK hSK hZ hS mw_2673 mw_s276 (ci := 16) (q0 := 0) rfl rfl rfl rfl hl.1 (Nat.le_of_ble_eq_true rfl) dX16_numberWord_95 ⟨(Nat.le_of_ble_eq_true rfl), (Nat.le_of_ble_eq_true rfl)⟩) hP hD hS hA rfl rfl (by decide) (by decide) (by decide) (Nat.le_of_ble_eq_true rfl) (Nat.le_of_ble_eq_true rfl) (fun u95_2 H locs hp95_3 hP hD hS => ?_)
    have hP : va_P D vwCl [(mm, .inr (16, fs_mm)), (ureg, .inl (ct 2, 32, .inr (.inl u95_2)))] _ := hP
    have hD : va_D A [(mm, .inr (16, fs_mm)), (ureg, .inl (ct 2, 32, .inr (.inl u95_2)))] := hD
    refine lv_goto (tgt := 274) hx hb dX16_numberWord_98 (by decide) ?_
    exact endq_v hQ hx hb hr hlocks dX16_numberWord_274 (fs_mm, x_mm_76, u95_2) ⟨(SB.rf _ _), h_x_mm_76, hf_mm_76⟩ hP hD hS [0, 1] rfl (by decide) rfl (Nat.le_of_ble_eq_true rfl) (Nat.le_of_ble_eq_true rfl)
  by_cases h47_111 : z46_1.toInt = 1
  · have r47_112 : rg z46_1 1 1 := rg_at h47_111
    refine lv_tableIn (off := 54) (tgt := 101) hx hb dX16_numberWord_47 (by rw [h47_111]; decide) (by rw [h47_111]; decide) (by rw [h47_111]; rfl) (by decide) ?_
    refine lv_aload_n hx hb dX16_numberWord_101 rfl (lv_at hl 5 rfl) ?_
    refine lv_iload hx hb dX16_numberWord_102 (lv_at hl 0 rfl) ?_
    have b112 : ∀ (j112_s0 : Int32) (H : Heap) (locs : List Loc) (ls : Array Slot), (rg j112_s0 0 1) → lv_has ls 8 [(0, .ref mm), (2, .int z6_1), (3, .long z19_2), (6, .int z31_1)] → va_P D vwCl [(mm, .inr (16, fs_mm)), (ureg, .inl (ct 2, 32, .inr (.inl g_ureg)))] H → va_D A [(mm, .inr (16, fs_mm)), (ureg, .inl (ct 2, 32, .inr (.inl g_ureg)))] → va_S A s.heap H locs → W p l e ({ frames := 3, cells := 0, slots := 0, locals := 66 }) s m [.ref mm, .int v0].toArray below meth c H locs 0 0 Q (F0 m 112 ls [.int j112_s0, .ref mm]) := by
      intro j112_s0 H locs ls r112_1001 hl hP hD hS
      refine va_put (D := D) (ci := 16) (v := .int j112_s0) (ty := .boolean) (C := RX16) (T := TX16) (N := 78) hx hb (htX16 hn) (fun _ h => h) tyX16 tyX16_ok nmX16 hown hK hP hD hS 0 rfl rfl 76 (by decide) (hn.get mw_1615 rfl) (fun _ h9 => h9) rfl (by decide +kernel) (nar_bool r112_1001) (fit_bool r112_1001) (by rw [hlen_mm]; decide) dX16_numberWord_112 (fun H locs hP hD hS => ?_)
      have hP : va_P D vwCl [(mm, .inr (16, (fs_mm.set 76 (.int j112_s0)))), (ureg, .inl (ct 2, 32, .inr (.inl g_ureg)))] _ := hP
      have hD : va_D A [(mm, .inr (16, (fs_mm.set 76 (.int j112_s0)))), (ureg, .inl (ct 2, 32, .inr (.inl g_ureg)))] := hD
      obtain ⟨m112_1, em112_1⟩ : ∃ z, z = (fs_mm.set 76 (.int j112_s0)) := ⟨_, rfl⟩
      rw [← em112_1] at hP hD
      have hsm112_1 : SB fs_mm m112_1 [76] := by rw [em112_1]; exact SB.set (SB.rf _ _) (by decide)
      have hfm112_1_76 : m112_1[76]? = some (.int j112_s0) := by rw [em112_1]; exact fs_eq (by rw [hlen_mm]; decide)
      have hP : va_P D vwCl [(mm, .inr (16, m112_1)), (ureg, .inl (ct 2, 32, .inr (.inl g_ureg)))] _ := hP
      have hD : va_D A [(mm, .inr (16, m112_1)), (ureg, .inl (ct 2, 32, .inr (.inl g_ureg)))] := hD
      refine lv_aload_n hx hb dX16_numberWord_115 rfl (lv_at hl 0 rfl) ?_
      refine lv_aload_n hx hb dX16_numberWord_116 rfl (lv_at hl 0 rfl) ?_
      refine va_get (D := D) (ci := 16) (v := .int j112_s0) (C := RX16) (T := TX16) (N := 78) hx hb (htX16 hn) (fun _ h => h) hown hK hP 0 rfl rfl 76 (by decide) (hn.get mw_1615 rfl) (fun _ h9 => h9) hfm112_1_76 dX16_numberWord_117 ?_
      have b128 : ∀ (j128_s0 : Int32) (H : Heap) (locs : List Loc) (ls : Array Slot), (rg j128_s0 0 31) → lv_has ls 8 [(3, .long z19_2), (6, .int z31_1)] → va_P D vwCl [(mm, .inr (16, m112_1)), (ureg, .inl (ct 2, 32, .inr (.inl g_ureg)))] H → va_D A [(mm, .inr (16, m112_1)), (ureg, .inl (ct 2, 32, .inr (.inl g_ureg)))] → va_S A s.heap H locs → W p l e ({ frames := 3, cells := 0, slots := 0, locals := 66 }) s m [.ref mm, .int v0].toArray below meth c H locs 0 0 Q (F0 m 128 ls [.int j128_s0, .ref mm]) := by
        intro j128_s0 H locs ls r128_1001 hl hP hD hS
        refine lv_lload_n hx hb dX16_numberWord_128 rfl (lv_at hl 0 rfl) ?_
        refine lv_iload hx hb dX16_numberWord_129 (lv_at hl 1 rfl) ?_
        refine lv_lshl hx hb dX16_numberWord_131 rfl ?_
        refine lv_topl (fun z131_1 ez131_1 => ?_)
        refine go_v (k1 := 0) (n1 := 0) (wr := []) [0, 1] [] (rn_V (As := [.int j128_s0, .long z131_1]) (rest := []) (c_X16_set l D ct mm j128_s0 z131_1 m112_1 ureg g_ureg r128_1001 (hsm112_1.1.trans hlen_mm) (SB.get hsm112_1 (by decide) hf_mm_33) _) (cb_of (n := 2) hn mw_2674 mw_13 mw_2671 mhX16_set ⟨(Nat.le_of_ble_eq_true rfl), (Nat.le_of_ble_eq_true rfl)⟩) hx hb hml hown hn hK hSK hZ hS mw_2673 mw_s276 (ci := 16) (q0 := 0) rfl rfl rfl rfl hl.1 (Nat.le_of_ble_eq_true rfl) dX16_numberWord_132 ⟨(Nat.le_of_ble_eq_true rfl), (Nat.le_of_ble_eq_true rfl)⟩) hP hD hS hA rfl rfl (by decide) (by decide) (by decide) (Nat.le_of_ble_eq_true rfl) (Nat.le_of_ble_eq_true rfl) (fun u132_2 H locs hp132_3 hP hD hS => ?_)
        have hP : va_P D vwCl [(mm, .inr (16, m112_1)), (ureg, .inl (ct 2, 32, .inr (.inl u132_2)))] _ := hP
        have hD : va_D A [(mm, .inr (16, m112_1)), (ureg, .inl (ct 2, 32, .inr (.inl u132_2)))] := hD
        refine lv_goto (tgt := 274) hx hb dX16_numberWord_135 (by decide) ?_
        exact endq_v hQ hx hb hr hlocks dX16_numberWord_274 (m112_1, j112_s0, u132_2) ⟨hsm112_1, r112_1001, hfm112_1_76⟩ hP hD hS [0, 1] rfl (by decide) rfl (Nat.le_of_ble_eq_true rfl) (Nat.le_of_ble_eq_true rfl)
      refine lv_if_eq (tgt := 127) hx hb dX16_numberWord_120 (by decide) (fun c120_1 => ?_) (fun c120_1 => ?_)
      · have t120_2 := FF.mk (i_eq c120_1)
        have r120_3 : rg j112_s0 0 0 := rg_eqA t120_2 r112_1001 (show rg (0 : Int32) 0 0 from rg_l (by decide)) (by decide)
        refine lv_iload_n hx hb dX16_numberWord_127 rfl (lv_at hl 1 rfl) ?_
        exact b128 z6_1 H locs ls r6_2 (lv_sub hl [2, 3] rfl) hP hD hS
      · have t120_2 := FF.mk (i_ne c120_1)
        have r120_3 : rg j112_s0 1 1 := rg_neAl t120_2 r112_1001 (show rg (0 : Int32) 0 0 from rg_l (by decide)) (by decide)
        refine lv_iconst (v := 0) hx hb dX16_numberWord_123 (by decide) ?_
        refine lv_goto (tgt := 128) hx hb dX16_numberWord_124 (by decide) ?_
        exact b128 (0 : Int32) H locs ls (rg_w (show rg (0 : Int32) 0 0 from rg_l (by decide)) (by decide)) (lv_sub hl [2, 3] rfl) hP hD hS
    refine lv_if_eq (tgt := 111) hx hb dX16_numberWord_104 (by decide) (fun c104_1 => ?_) (fun c104_1 => ?_)
    · have t104_2 := FF.mk (i_eq c104_1)
      have r104_3 : rg z37_1 0 0 := rg_eqA t104_2 r37_2 (show rg (0 : Int32) 0 0 from rg_l (by decide)) (by decide)
      refine lv_iconst (v := 0) hx hb dX16_numberWord_111 (by decide) ?_
      exact b112 (0 : Int32) H locs ls (rg_w (show rg (0 : Int32) 0 0 from rg_l (by decide)) (by decide)) (lv_sub hl [5, 4, 3, 1] rfl) hP hD hS
    · have t104_2 := FF.mk (i_ne c104_1)
      have r104_3 : rg z37_1 1 63 := rg_neAl t104_2 r37_2 (show rg (0 : Int32) 0 0 from rg_l (by decide)) (by decide)
      refine lv_iconst (v := 1) hx hb dX16_numberWord_107 (by decide) ?_
      refine lv_goto (tgt := 112) hx hb dX16_numberWord_108 (by decide) ?_
      exact b112 (1 : Int32) H locs ls (rg_w (show rg (1 : Int32) 1 1 from rg_l (by decide)) (by decide)) (lv_sub hl [5, 4, 3, 1] rfl) hP hD hS
  by_cases h47_121 : z46_1.toInt = 2
  · have r47_122 : rg z46_1 2 2 := rg_at h47_121
    refine lv_tableIn (off := 91) (tgt := 138) hx hb dX16_numberWord_47 (by rw [h47_121]; decide) (by rw [h47_121]; decide) (by rw [h47_121]; rfl) (by decide) ?_
    refine lv_aload_n hx hb dX16_numberWord_138 rfl (lv_at hl 5 rfl) ?_
    refine lv_iload_n hx hb dX16_numberWord_139 rfl (lv_at hl 4 rfl) ?_
    refine lv_lload_n hx hb dX16_numberWord_140 rfl (lv_at hl 3 rfl) ?_
    refine lv_iload hx hb dX16_numberWord_141 (lv_at hl 2 rfl) ?_
    refine lv_i2l hx hb dX16_numberWord_143 rfl ?_
    refine lv_topl (fun z143_1 ez143_1 => ?_)
    have r143_2 : rl z143_1 (-2048) 2047 := rl_i2l ez143_1 r24_2
    refine W.lcmp hx hb dX16_numberWord_144 ?_
    refine lv_topi (fun z144_1 ez144_1 => ?_)
    have b153 : ∀ (j153_s0 : Int64) (H : Heap) (locs : List Loc) (ls : Array Slot), (rl j153_s0 0 1) → lv_has ls 8 [] → va_P D vwCl [(mm, .inr (16, fs_mm)), (ureg, .inl (ct 2, 32, .inr (.inl g_ureg)))] H → va_D A [(mm, .inr (16, fs_mm)), (ureg, .inl (ct 2, 32, .inr (.inl g_ureg)))] → va_S A s.heap H locs → W p l e ({ frames := 3, cells := 0, slots := 0, locals := 66 }) s m [.ref mm, .int v0].toArray below meth c H locs 0 0 Q (F0 m 153 ls [.long j153_s0, .int z6_1, .ref mm]) := by
      intro j153_s0 H locs ls r153_1001 hl hP hD hS
      refine go_v (k1 := 0) (n1 := 0) (wr := []) [0, 1] [] (rn_V (As := [.int z6_1, .long j153_s0]) (rest := []) (c_X16_set l D ct mm z6_1 j153_s0 fs_mm ureg g_ureg r6_2 hlen_mm hf_mm_33 _) (cb_of (n := 2) hn mw_2674 mw_13 mw_2671 mhX16_set ⟨(Nat.le_of_ble_eq_true rfl), (Nat.le_of_ble_eq_true rfl)⟩) hx hb hml hown hn hK hSK hZ hS mw_2673 mw_s276 (ci := 16) (q0 := 0) rfl rfl rfl rfl hl.1 (Nat.le_of_ble_eq_true rfl) dX16_numberWord_153 ⟨(Nat.le_of_ble_eq_true rfl), (Nat.le_of_ble_eq_true rfl)⟩) hP hD hS hA rfl rfl (by decide) (by decide) (by decide) (Nat.le_of_ble_eq_true rfl) (Nat.le_of_ble_eq_true rfl) (fun u153_2 H locs hp153_3 hP hD hS => ?_)
      have hP : va_P D vwCl [(mm, .inr (16, fs_mm)), (ureg, .inl (ct 2, 32, .inr (.inl u153_2)))] _ := hP
      have hD : va_D A [(mm, .inr (16, fs_mm)), (ureg, .inl (ct 2, 32, .inr (.inl u153_2)))] := hD
      refine lv_goto (tgt := 274) hx hb dX16_numberWord_156 (by decide) ?_
      exact endq_v hQ hx hb hr hlocks dX16_numberWord_274 (fs_mm, x_mm_76, u153_2) ⟨(SB.rf _ _), h_x_mm_76, hf_mm_76⟩ hP hD hS [0, 1] rfl (by decide) rfl (Nat.le_of_ble_eq_true rfl) (Nat.le_of_ble_eq_true rfl)
    refine lv_if_ge (tgt := 152) hx hb dX16_numberWord_145 (by decide) (fun c145_1 => ?_) (fun c145_1 => ?_)
    · have t145_2 := FF.mk (l_ge ez144_1 c145_1)
      have r145_3 : rl z19_2 (-2048) 9223372036854775807 := rl_leB t145_2 r143_2 (rl_any z19_2) (by decide)
      refine lv_lconst (v := 0) hx hb dX16_numberWord_152 (by decide) ?_
      exact b153 (0 : Int64) H locs ls (rl_w (show rl (0 : Int64) 0 0 from rl_l (by decide)) (by decide)) (lv_sub hl [] rfl) hP hD hS
    · have t145_2 := FF.mk (l_nge ez144_1 c145_1)
      have r145_3 : rl z19_2 (-9223372036854775808) 2046 := rl_ltA t145_2 (rl_any z19_2) r143_2 (by decide)
      refine lv_lconst (v := 1) hx hb dX16_numberWord_148 (by decide) ?_
      refine lv_goto (tgt := 153) hx hb dX16_numberWord_149 (by decide) ?_
      exact b153 (1 : Int64) H locs ls (rl_w (show rl (1 : Int64) 1 1 from rl_l (by decide)) (by decide)) (lv_sub hl [] rfl) hP hD hS
  by_cases h47_131 : z46_1.toInt = 3
  · have r47_132 : rg z46_1 3 3 := rg_at h47_131
    refine lv_tableIn (off := 112) (tgt := 159) hx hb dX16_numberWord_47 (by rw [h47_131]; decide) (by rw [h47_131]; decide) (by rw [h47_131]; rfl) (by decide) ?_
    refine lv_aload_n hx hb dX16_numberWord_159 rfl (lv_at hl 5 rfl) ?_
    refine lv_iload_n hx hb dX16_numberWord_160 rfl (lv_at hl 4 rfl) ?_
    refine lv_lload_n hx hb dX16_numberWord_161 rfl (lv_at hl 3 rfl) ?_
    refine lv_iload hx hb dX16_numberWord_162 (lv_at hl 2 rfl) ?_
    refine lv_i2l hx hb dX16_numberWord_164 rfl ?_
    refine lv_topl (fun z164_1 ez164_1 => ?_)
    have r164_2 : rl z164_1 (-2048) 2047 := rl_i2l ez164_1 r24_2
    refine go_i (k1 := 0) (n1 := 0) (wr := [(mm, .inr (16, fs_mm)), (ureg, .inl (ct 2, 32, .inr (.inl g_ureg)))]) [] [0, 1] (rn_S (As := [.long z19_2, .long z164_1]) (rest := [.int z6_1, .ref mm]) (c_JL_compareUnsigned l D ct z19_2 z164_1  _) (cb_of (n := 2) hn mw_2370 mw_25 mw_2368 mhJL_compareUnsigned ⟨(Nat.le_of_ble_eq_true rfl), (Nat.le_of_ble_eq_true rfl)⟩) hx hb hml hown hn hK hSK hZ hS mw_2369 rfl hl.1 (Nat.le_of_ble_eq_true rfl) dX16_numberWord_165 ⟨(Nat.le_of_ble_eq_true rfl), (Nat.le_of_ble_eq_true rfl)⟩) hP hD hS hA rfl rfl (by decide) (by decide) (by decide) (Nat.le_of_ble_eq_true rfl) (Nat.le_of_ble_eq_true rfl) (fun r165_1 u165_2 H locs hp165_3 hP hD hS => ?_)
    have hp165_4 := hp165_3
    have hp165_4 : rg r165_1 (-1) 1 := hp165_4
    have hP : va_P D vwCl [(mm, .inr (16, fs_mm)), (ureg, .inl (ct 2, 32, .inr (.inl g_ureg)))] _ := hP
    have hD : va_D A [(mm, .inr (16, fs_mm)), (ureg, .inl (ct 2, 32, .inr (.inl g_ureg)))] := hD
    have b176 : ∀ (j176_s0 : Int64) (H : Heap) (locs : List Loc) (ls : Array Slot), (rl j176_s0 0 1) → lv_has ls 8 [] → va_P D vwCl [(mm, .inr (16, fs_mm)), (ureg, .inl (ct 2, 32, .inr (.inl g_ureg)))] H → va_D A [(mm, .inr (16, fs_mm)), (ureg, .inl (ct 2, 32, .inr (.inl g_ureg)))] → va_S A s.heap H locs → W p l e ({ frames := 3, cells := 0, slots := 0, locals := 66 }) s m [.ref mm, .int v0].toArray below meth c H locs 0 0 Q (F0 m 176 ls [.long j176_s0, .int z6_1, .ref mm]) := by
      intro j176_s0 H locs ls r176_1001 hl hP hD hS
      refine go_v (k1 := 0) (n1 := 0) (wr := []) [0, 1] [] (rn_V (As := [.int z6_1, .long j176_s0]) (rest := []) (c_X16_set l D ct mm z6_1 j176_s0 fs_mm ureg g_ureg r6_2 hlen_mm hf_mm_33 _) (cb_of (n := 2) hn mw_2674 mw_13 mw_2671 mhX16_set ⟨(Nat.le_of_ble_eq_true rfl), (Nat.le_of_ble_eq_true rfl)⟩) hx hb hml hown hn hK hSK hZ hS mw_2673 mw_s276 (ci := 16) (q0 := 0) rfl rfl rfl rfl hl.1 (Nat.le_of_ble_eq_true rfl) dX16_numberWord_176 ⟨(Nat.le_of_ble_eq_true rfl), (Nat.le_of_ble_eq_true rfl)⟩) hP hD hS hA rfl rfl (by decide) (by decide) (by decide) (Nat.le_of_ble_eq_true rfl) (Nat.le_of_ble_eq_true rfl) (fun u176_2 H locs hp176_3 hP hD hS => ?_)
      have hP : va_P D vwCl [(mm, .inr (16, fs_mm)), (ureg, .inl (ct 2, 32, .inr (.inl u176_2)))] _ := hP
      have hD : va_D A [(mm, .inr (16, fs_mm)), (ureg, .inl (ct 2, 32, .inr (.inl u176_2)))] := hD
      refine lv_goto (tgt := 274) hx hb dX16_numberWord_179 (by decide) ?_
      exact endq_v hQ hx hb hr hlocks dX16_numberWord_274 (fs_mm, x_mm_76, u176_2) ⟨(SB.rf _ _), h_x_mm_76, hf_mm_76⟩ hP hD hS [0, 1] rfl (by decide) rfl (Nat.le_of_ble_eq_true rfl) (Nat.le_of_ble_eq_true rfl)
    refine lv_if_ge (tgt := 175) hx hb dX16_numberWord_168 (by decide) (fun c168_1 => ?_) (fun c168_1 => ?_)
    · have t168_2 := FF.mk (i_le c168_1)
      have r168_3 : rg r165_1 0 1 := rg_leB t168_2 (show rg (0 : Int32) 0 0 from rg_l (by decide)) hp165_4 (by decide)
      refine lv_lconst (v := 0) hx hb dX16_numberWord_175 (by decide) ?_
      exact b176 (0 : Int64) H locs ls (rl_w (show rl (0 : Int64) 0 0 from rl_l (by decide)) (by decide)) (lv_sub hl [] rfl) hP hD hS
    · have t168_2 := FF.mk (i_nle c168_1)
      have r168_3 : rg r165_1 (-1) (-1) := rg_ltA t168_2 hp165_4 (show rg (0 : Int32) 0 0 from rg_l (by decide)) (by decide)
      refine lv_lconst (v := 1) hx hb dX16_numberWord_171 (by decide) ?_
      refine lv_goto (tgt := 176) hx hb dX16_numberWord_172 (by decide) ?_
      exact b176 (1 : Int64) H locs ls (rl_w (show rl (1 : Int64) 1 1 from rl_l (by decide)) (by decide)) (lv_sub hl [] rfl) hP hD hS
  by_cases h47_141 : z46_1.toInt = 4
  · have r47_142 : rg z46_1 4 4 := rg_at h47_141
    refine lv_tableIn (off := 135) (tgt := 182) hx hb dX16_numberWord_47 (by rw [h47_141]; decide) (by rw [h47_141]; decide) (by rw [h47_141]; rfl) (by decide) ?_
    refine lv_aload_n hx hb dX16_numberWord_182 rfl (lv_at hl 5 rfl) ?_
    refine lv_iload_n hx hb dX16_numberWord_183 rfl (lv_at hl 4 rfl) ?_
    refine lv_lload_n hx hb dX16_numberWord_184 rfl (lv_at hl 3 rfl) ?_
    refine lv_iload hx hb dX16_numberWord_185 (lv_at hl 2 rfl) ?_
    refine lv_i2l hx hb dX16_numberWord_187 rfl ?_
    refine lv_topl (fun z187_1 ez187_1 => ?_)
    have r187_2 : rl z187_1 (-2048) 2047 := rl_i2l ez187_1 r24_2
    refine lv_lxor hx hb dX16_numberWord_188 ?_
    refine lv_topl (fun z188_1 ez188_1 => ?_)
    refine go_v (k1 := 0) (n1 := 0) (wr := []) [0, 1] [] (rn_V (As := [.int z6_1, .long z188_1]) (rest := []) (c_X16_set l D ct mm z6_1 z188_1 fs_mm ureg g_ureg r6_2 hlen_mm hf_mm_33 _) (cb_of (n := 2) hn mw_2674 mw_13 mw_2671 mhX16_set ⟨(Nat.le_of_ble_eq_true rfl), (Nat.le_of_ble_eq_true rfl)⟩) hx hb hml hown hn hK hSK hZ hS mw_2673 mw_s276 (ci := 16) (q0 := 0) rfl rfl rfl rfl hl.1 (Nat.le_of_ble_eq_true rfl) dX16_numberWord_189 ⟨(Nat.le_of_ble_eq_true rfl), (Nat.le_of_ble_eq_true rfl)⟩) hP hD hS hA rfl rfl (by decide) (by decide) (by decide) (Nat.le_of_ble_eq_true rfl) (Nat.le_of_ble_eq_true rfl) (fun u189_2 H locs hp189_3 hP hD hS => ?_)
    have hP : va_P D vwCl [(mm, .inr (16, fs_mm)), (ureg, .inl (ct 2, 32, .inr (.inl u189_2)))] _ := hP
    have hD : va_D A [(mm, .inr (16, fs_mm)), (ureg, .inl (ct 2, 32, .inr (.inl u189_2)))] := hD
    refine lv_goto (tgt := 274) hx hb dX16_numberWord_192 (by decide) ?_
    exact endq_v hQ hx hb hr hlocks dX16_numberWord_274 (fs_mm, x_mm_76, u189_2) ⟨(SB.rf _ _), h_x_mm_76, hf_mm_76⟩ hP hD hS [0, 1] rfl (by decide) rfl (Nat.le_of_ble_eq_true rfl) (Nat.le_of_ble_eq_true rfl)
  by_cases h47_151 : z46_1.toInt = 5
  · have r47_152 : rg z46_1 5 5 := rg_at h47_151
    refine lv_tableIn (off := 148) (tgt := 195) hx hb dX16_numberWord_47 (by rw [h47_151]; decide) (by rw [h47_151]; decide) (by rw [h47_151]; rfl) (by decide) ?_
    refine lv_aload_n hx hb dX16_numberWord_195 rfl (lv_at hl 5 rfl) ?_
    refine lv_iload hx hb dX16_numberWord_196 (lv_at hl 0 rfl) ?_
    have b213 : ∀ (j213_s0 : Int32) (H : Heap) (locs : List Loc) (ls : Array Slot), (rg j213_s0 0 1) → lv_has ls 8 [(0, .ref mm), (2, .int z6_1), (3, .long z19_2), (6, .int z31_1), (7, .int z37_1)] → va_P D vwCl [(mm, .inr (16, fs_mm)), (ureg, .inl (ct 2, 32, .inr (.inl g_ureg)))] H → va_D A [(mm, .inr (16, fs_mm)), (ureg, .inl (ct 2, 32, .inr (.inl g_ureg)))] → va_S A s.heap H locs → W p l e ({ frames := 3, cells := 0, slots := 0, locals := 66 }) s m [.ref mm, .int v0].toArray below meth c H locs 0 0 Q (F0 m 213 ls [.int j213_s0, .ref mm]) := by
      intro j213_s0 H locs ls r213_1001 hl hP hD hS
      refine va_put (D := D) (ci := 16) (v := .int j213_s0) (ty := .boolean) (C := RX16) (T := TX16) (N := 78) hx hb (htX16 hn) (fun _ h => h) tyX16 tyX16_ok nmX16 hown hK hP hD hS 0 rfl rfl 76 (by decide) (hn.get mw_1615 rfl) (fun _ h9 => h9) rfl (by decide +kernel) (nar_bool r213_1001) (fit_bool r213_1001) (by rw [hlen_mm]; decide) dX16_numberWord_213 (fun H locs hP hD hS => ?_)
      have hP : va_P D vwCl [(mm, .inr (16, (fs_mm.set 76 (.int j213_s0)))), (ureg, .inl (ct 2, 32, .inr (.inl g_ureg)))] _ := hP
      have hD : va_D A [(mm, .inr (16, (fs_mm.set 76 (.int j213_s0)))), (ureg, .inl (ct 2, 32, .inr (.inl g_ureg)))] := hD
      obtain ⟨m213_1, em213_1⟩ : ∃ z, z = (fs_mm.set 76 (.int j213_s0)) := ⟨_, rfl⟩
      rw [← em213_1] at hP hD
      have hsm213_1 : SB fs_mm m213_1 [76] := by rw [em213_1]; exact SB.set (SB.rf _ _) (by decide)
      have hfm213_1_76 : m213_1[76]? = some (.int j213_s0) := by rw [em213_1]; exact fs_eq (by rw [hlen_mm]; decide)
      have hP : va_P D vwCl [(mm, .inr (16, m213_1)), (ureg, .inl (ct 2, 32, .inr (.inl g_ureg)))] _ := hP
      have hD : va_D A [(mm, .inr (16, m213_1)), (ureg, .inl (ct 2, 32, .inr (.inl g_ureg)))] := hD
      refine lv_aload_n hx hb dX16_numberWord_216 rfl (lv_at hl 0 rfl) ?_
      refine lv_aload_n hx hb dX16_numberWord_217 rfl (lv_at hl 0 rfl) ?_
      refine va_get (D := D) (ci := 16) (v := .int j213_s0) (C := RX16) (T := TX16) (N := 78) hx hb (htX16 hn) (fun _ h => h) hown hK hP 0 rfl rfl 76 (by decide) (hn.get mw_1615 rfl) (fun _ h9 => h9) hfm213_1_76 dX16_numberWord_218 ?_
      have b229 : ∀ (j229_s0 : Int32) (H : Heap) (locs : List Loc) (ls : Array Slot), (rg j229_s0 0 31) → lv_has ls 8 [(3, .long z19_2), (6, .int z31_1), (7, .int z37_1)] → va_P D vwCl [(mm, .inr (16, m213_1)), (ureg, .inl (ct 2, 32, .inr (.inl g_ureg)))] H → va_D A [(mm, .inr (16, m213_1)), (ureg, .inl (ct 2, 32, .inr (.inl g_ureg)))] → va_S A s.heap H locs → W p l e ({ frames := 3, cells := 0, slots := 0, locals := 66 }) s m [.ref mm, .int v0].toArray below meth c H locs 0 0 Q (F0 m 229 ls [.int j229_s0, .ref mm]) := by
        intro j229_s0 H locs ls r229_1001 hl hP hD hS
        refine lv_iload hx hb dX16_numberWord_229 (lv_at hl 2 rfl) ?_
        have b245 : ∀ (j245_s0 : Int64) (H : Heap) (locs : List Loc) (ls : Array Slot), lv_has ls 8 [] → va_P D vwCl [(mm, .inr (16, m213_1)), (ureg, .inl (ct 2, 32, .inr (.inl g_ureg)))] H → va_D A [(mm, .inr (16, m213_1)), (ureg, .inl (ct 2, 32, .inr (.inl g_ureg)))] → va_S A s.heap H locs → W p l e ({ frames := 3, cells := 0, slots := 0, locals := 66 }) s m [.ref mm, .int v0].toArray below meth c H locs 0 0 Q (F0 m 245 ls [.long j245_s0, .int j229_s0, .ref mm]) := by
          intro j245_s0 H locs ls  hl hP hD hS
          refine go_v (k1 := 0) (n1 := 0) (wr := []) [0, 1] [] (rn_V (As := [.int j229_s0, .long j245_s0]) (rest := []) (c_X16_set l D ct mm j229_s0 j245_s0 m213_1 ureg g_ureg r229_1001 (hsm213_1.1.trans hlen_mm) (SB.get hsm213_1 (by decide) hf_mm_33) _) (cb_of (n := 2) hn mw_2674 mw_13 mw_2671 mhX16_set ⟨(Nat.le_of_ble_eq_true rfl), (Nat.le_of_ble_eq_true rfl)⟩) hx hb hml hown hn hK hSK hZ hS mw_2673 mw_s276 (ci := 16) (q0 := 0) rfl rfl rfl rfl hl.1 (Nat.le_of_ble_eq_true rfl) dX16_numberWord_245 ⟨(Nat.le_of_ble_eq_true rfl), (Nat.le_of_ble_eq_true rfl)⟩) hP hD hS hA rfl rfl (by decide) (by decide) (by decide) (Nat.le_of_ble_eq_true rfl) (Nat.le_of_ble_eq_true rfl) (fun u245_2 H locs hp245_3 hP hD hS => ?_)
          have hP : va_P D vwCl [(mm, .inr (16, m213_1)), (ureg, .inl (ct 2, 32, .inr (.inl u245_2)))] _ := hP
          have hD : va_D A [(mm, .inr (16, m213_1)), (ureg, .inl (ct 2, 32, .inr (.inl u245_2)))] := hD
          refine lv_goto (tgt := 274) hx hb dX16_numberWord_248 (by decide) ?_
          exact endq_v hQ hx hb hr hlocks dX16_numberWord_274 (m213_1, j213_s0, u245_2) ⟨hsm213_1, r213_1001, hfm213_1_76⟩ hP hD hS [0, 1] rfl (by decide) rfl (Nat.le_of_ble_eq_true rfl) (Nat.le_of_ble_eq_true rfl)
        refine lv_if_ne (tgt := 241) hx hb dX16_numberWord_231 (by decide) (fun c231_1 => ?_) (fun c231_1 => ?_)
        · have t231_2 := FF.mk (i_ne c231_1)
          have r231_3 : rg z37_1 1 63 := rg_neAl t231_2 r37_2 (show rg (0 : Int32) 0 0 from rg_l (by decide)) (by decide)
          refine lv_lload_n hx hb dX16_numberWord_241 rfl (lv_at hl 0 rfl) ?_
          refine lv_iload hx hb dX16_numberWord_242 (lv_at hl 1 rfl) ?_
          refine lv_lshr hx hb dX16_numberWord_244 rfl ?_
          refine lv_topl (fun z244_1 ez244_1 => ?_)
          exact b245 z244_1 H locs ls  (lv_sub hl [] rfl) hP hD hS
        · have t231_2 := FF.mk (i_eq c231_1)
          have r231_3 : rg z37_1 0 0 := rg_eqA t231_2 r37_2 (show rg (0 : Int32) 0 0 from rg_l (by decide)) (by decide)
          refine lv_lload_n hx hb dX16_numberWord_234 rfl (lv_at hl 0 rfl) ?_
          refine lv_iload hx hb dX16_numberWord_235 (lv_at hl 1 rfl) ?_
          refine lv_lushr hx hb dX16_numberWord_237 rfl ?_
          refine lv_topl (fun z237_1 ez237_1 => ?_)
          refine lv_goto (tgt := 245) hx hb dX16_numberWord_238 (by decide) ?_
          exact b245 z237_1 H locs ls  (lv_sub hl [] rfl) hP hD hS
      refine lv_if_eq (tgt := 228) hx hb dX16_numberWord_221 (by decide) (fun c221_1 => ?_) (fun c221_1 => ?_)
      · have t221_2 := FF.mk (i_eq c221_1)
        have r221_3 : rg j213_s0 0 0 := rg_eqA t221_2 r213_1001 (show rg (0 : Int32) 0 0 from rg_l (by decide)) (by decide)
        refine lv_iload_n hx hb dX16_numberWord_228 rfl (lv_at hl 1 rfl) ?_
        exact b229 z6_1 H locs ls r6_2 (lv_sub hl [2, 3, 4] rfl) hP hD hS
      · have t221_2 := FF.mk (i_ne c221_1)
        have r221_3 : rg j213_s0 1 1 := rg_neAl t221_2 r213_1001 (show rg (0 : Int32) 0 0 from rg_l (by decide)) (by decide)
        refine lv_iconst (v := 0) hx hb dX16_numberWord_224 (by decide) ?_
        refine lv_goto (tgt := 229) hx hb dX16_numberWord_225 (by decide) ?_
        exact b229 (0 : Int32) H locs ls (rg_w (show rg (0 : Int32) 0 0 from rg_l (by decide)) (by decide)) (lv_sub hl [2, 3, 4] rfl) hP hD hS
    have b212 : ∀  (H : Heap) (locs : List Loc) (ls : Array Slot), lv_has ls 8 [(0, .ref mm), (2, .int z6_1), (3, .long z19_2), (6, .int z31_1), (7, .int z37_1)] → va_P D vwCl [(mm, .inr (16, fs_mm)), (ureg, .inl (ct 2, 32, .inr (.inl g_ureg)))] H → va_D A [(mm, .inr (16, fs_mm)), (ureg, .inl (ct 2, 32, .inr (.inl g_ureg)))] → va_S A s.heap H locs → W p l e ({ frames := 3, cells := 0, slots := 0, locals := 66 }) s m [.ref mm, .int v0].toArray below meth c H locs 0 0 Q (F0 m 212 ls [.ref mm]) := by
      intro  H locs ls  hl hP hD hS
      refine lv_iconst (v := 0) hx hb dX16_numberWord_212 (by decide) ?_
      exact b213 (0 : Int32) H locs ls (rg_w (show rg (0 : Int32) 0 0 from rg_l (by decide)) (by decide)) (lv_sub hl [0, 1, 2, 3, 4] rfl) hP hD hS
    refine lv_if_eq (tgt := 212) hx hb dX16_numberWord_198 (by decide) (fun c198_1 => ?_) (fun c198_1 => ?_)
    · have t198_2 := FF.mk (i_eq c198_1)
      have r198_3 : rg z37_1 0 0 := rg_eqA t198_2 r37_2 (show rg (0 : Int32) 0 0 from rg_l (by decide)) (by decide)
      exact b212  H locs ls  (lv_sub hl [5, 4, 3, 1, 0] rfl) hP hD hS
    · have t198_2 := FF.mk (i_ne c198_1)
      have r198_3 : rg z37_1 1 63 := rg_neAl t198_2 r37_2 (show rg (0 : Int32) 0 0 from rg_l (by decide)) (by decide)
      refine lv_iload hx hb dX16_numberWord_201 (lv_at hl 0 rfl) ?_
      refine lv_bipush (v := 16) hx hb dX16_numberWord_203 (by decide) ?_
      refine lv_icmp_eq (tgt := 212) hx hb dX16_numberWord_205 (by decide) (fun c205_1 => ?_) (fun c205_1 => ?_)
      · have t205_2 := FF.mk (i_eq c205_1)
        have r205_3 : rg z37_1 16 16 := rg_eqA t205_2 r198_3 (show rg (16 : Int32) 16 16 from rg_l (by decide)) (by decide)
        exact b212  H locs ls  (lv_sub hl [5, 4, 3, 1, 0] rfl) hP hD hS
      · have t205_2 := FF.mk (i_ne c205_1)
        refine lv_iconst (v := 1) hx hb dX16_numberWord_208 (by decide) ?_
        refine lv_goto (tgt := 213) hx hb dX16_numberWord_209 (by decide) ?_
        exact b213 (1 : Int32) H locs ls (rg_w (show rg (1 : Int32) 1 1 from rg_l (by decide)) (by decide)) (lv_sub hl [5, 4, 3, 1, 0] rfl) hP hD hS
  by_cases h47_161 : z46_1.toInt = 6
  · have r47_162 : rg z46_1 6 6 := rg_at h47_161
    refine lv_tableIn (off := 204) (tgt := 251) hx hb dX16_numberWord_47 (by rw [h47_161]; decide) (by rw [h47_161]; decide) (by rw [h47_161]; rfl) (by decide) ?_
    refine lv_aload_n hx hb dX16_numberWord_251 rfl (lv_at hl 5 rfl) ?_
    refine lv_iload_n hx hb dX16_numberWord_252 rfl (lv_at hl 4 rfl) ?_
    refine lv_lload_n hx hb dX16_numberWord_253 rfl (lv_at hl 3 rfl) ?_
    refine lv_iload hx hb dX16_numberWord_254 (lv_at hl 2 rfl) ?_
    refine lv_i2l hx hb dX16_numberWord_256 rfl ?_
    refine lv_topl (fun z256_1 ez256_1 => ?_)
    have r256_2 : rl z256_1 (-2048) 2047 := rl_i2l ez256_1 r24_2
    refine lv_lor hx hb dX16_numberWord_257 ?_
    refine lv_topl (fun z257_1 ez257_1 => ?_)
    refine go_v (k1 := 0) (n1 := 0) (wr := []) [0, 1] [] (rn_V (As := [.int z6_1, .long z257_1]) (rest := []) (c_X16_set l D ct mm z6_1 z257_1 fs_mm ureg g_ureg r6_2 hlen_mm hf_mm_33 _) (cb_of (n := 2) hn mw_2674 mw_13 mw_2671 mhX16_set ⟨(Nat.le_of_ble_eq_true rfl), (Nat.le_of_ble_eq_true rfl)⟩) hx hb hml hown hn hK hSK hZ hS mw_2673 mw_s276 (ci := 16) (q0 := 0) rfl rfl rfl rfl hl.1 (Nat.le_of_ble_eq_true rfl) dX16_numberWord_258 ⟨(Nat.le_of_ble_eq_true rfl), (Nat.le_of_ble_eq_true rfl)⟩) hP hD hS hA rfl rfl (by decide) (by decide) (by decide) (Nat.le_of_ble_eq_true rfl) (Nat.le_of_ble_eq_true rfl) (fun u258_2 H locs hp258_3 hP hD hS => ?_)
    have hP : va_P D vwCl [(mm, .inr (16, fs_mm)), (ureg, .inl (ct 2, 32, .inr (.inl u258_2)))] _ := hP
    have hD : va_D A [(mm, .inr (16, fs_mm)), (ureg, .inl (ct 2, 32, .inr (.inl u258_2)))] := hD
    refine lv_goto (tgt := 274) hx hb dX16_numberWord_261 (by decide) ?_
    exact endq_v hQ hx hb hr hlocks dX16_numberWord_274 (fs_mm, x_mm_76, u258_2) ⟨(SB.rf _ _), h_x_mm_76, hf_mm_76⟩ hP hD hS [0, 1] rfl (by decide) rfl (Nat.le_of_ble_eq_true rfl) (Nat.le_of_ble_eq_true rfl)
  refine lv_tableOut (tgt := 264) hx hb dX16_numberWord_47 (by have q0 := r46_2; have q1 := q0.1; have q2 := q0.2; omega) (by decide) ?_
  have hl47_5001 := FF.mk h47_101
  have hl47_5002 := FF.mk h47_111
  have hl47_5003 := FF.mk h47_121
  have hl47_5004 := FF.mk h47_131
  have hl47_5005 := FF.mk h47_141
  have hl47_5006 := FF.mk h47_151
  have hl47_5007 := FF.mk h47_161
  refine lv_aload_n hx hb dX16_numberWord_264 rfl (lv_at hl 5 rfl) ?_
  refine lv_iload_n hx hb dX16_numberWord_265 rfl (lv_at hl 4 rfl) ?_
  refine lv_lload_n hx hb dX16_numberWord_266 rfl (lv_at hl 3 rfl) ?_
  refine lv_iload hx hb dX16_numberWord_267 (lv_at hl 2 rfl) ?_
  refine lv_i2l hx hb dX16_numberWord_269 rfl ?_
  refine lv_topl (fun z269_1 ez269_1 => ?_)
  have r269_2 : rl z269_1 (-2048) 2047 := rl_i2l ez269_1 r24_2
  refine lv_land hx hb dX16_numberWord_270 ?_
  refine lv_topl (fun z270_1 ez270_1 => ?_)
  refine go_v (k1 := 0) (n1 := 0) (wr := []) [0, 1] [] (rn_V (As := [.int z6_1, .long z270_1]) (rest := []) (c_X16_set l D ct mm z6_1 z270_1 fs_mm ureg g_ureg r6_2 hlen_mm hf_mm_33 _) (cb_of (n := 2) hn mw_2674 mw_13 mw_2671 mhX16_set ⟨(Nat.le_of_ble_eq_true rfl), (Nat.le_of_ble_eq_true rfl)⟩) hx hb hml hown hn hK hSK hZ hS mw_2673 mw_s276 (ci := 16) (q0 := 0) rfl rfl rfl rfl hl.1 (Nat.le_of_ble_eq_true rfl) dX16_numberWord_271 ⟨(Nat.le_of_ble_eq_true rfl), (Nat.le_of_ble_eq_true rfl)⟩) hP hD hS hA rfl rfl (by decide) (by decide) (by decide) (Nat.le_of_ble_eq_true rfl) (Nat.le_of_ble_eq_true rfl) (fun u271_2 H locs hp271_3 hP hD hS => ?_)
  have hP : va_P D vwCl [(mm, .inr (16, fs_mm)), (ureg, .inl (ct 2, 32, .inr (.inl u271_2)))] _ := hP
  have hD : va_D A [(mm, .inr (16, fs_mm)), (ureg, .inl (ct 2, 32, .inr (.inl u271_2)))] := hD
  exact endq_v hQ hx hb hr hlocks dX16_numberWord_274 (fs_mm, x_mm_76, u271_2) ⟨(SB.rf _ _), h_x_mm_76, hf_mm_76⟩ hP hD hS [0, 1] rfl (by decide) rfl (Nat.le_of_ble_eq_true rfl) (Nat.le_of_ble_eq_true rfl)
set_option maxHeartbeats 2000000 in
theorem c_X16_numberWordShort (l : Launch) (D : va_G) (ct : Nat → ClassId) (mm : Nat) (v0 : Int32) (fs_mm : List Value) (ureg : Nat) (x_mm_76 : Int32) (g_ureg : Nat → Int64) (hlen_mm : fs_mm.length = 78) (hf_mm_33 : fs_mm[33]? = some (.ref ureg)) (h_x_mm_76 : rg x_mm_76 0 1) (hf_mm_76 : fs_mm[76]? = some (.int x_mm_76)) : KV (S := List Value × Int32 × (Nat → Int64)) l yX16_numberWordShort cX16_numberWordShort 7 none 2 43 D ct [.ref mm, .int v0] [(mm, .inr (16, fs_mm)), (ureg, .inl (ct 2, 32, .inr (.inl g_ureg)))] 0 0 (fun (u : List Value × Int32 × (Nat → Int64)) => match u with | (fs2_mm, y_mm_76, k_ureg) => SB fs_mm fs2_mm [76] ∧ rg y_mm_76 0 1 ∧ fs2_mm[76]? = some (.int y_mm_76)) (fun (u : List Value × Int32 × (Nat → Int64)) => match u with | (fs2_mm, y_mm_76, k_ureg) => [(mm, .inr (16, fs2_mm)), (ureg, .inl (ct 2, 32, .inr (.inl k_ureg)))]) := by
  refine KVq_of (by decide) (Nat.le_of_ble_eq_true rfl) (fun p e s m below meth c A Q C0 hA H locs hS hP hD hQ ls hl => ?_)
  obtain ⟨hx, hb, hr, hown, hin, hml, hlocks, hn, hK, hZ, hSK⟩ := C0
  have hl : lv_has ls 7 [(0, .ref mm), (1, .int v0)] := hl
  refine lv_iload_n hx hb dX16_numberWordShort_0 rfl (lv_at hl 1 rfl) ?_
  refine lv_bipush (v := 7) hx hb dX16_numberWordShort_1 (by decide) ?_
  refine lv_ishr hx hb dX16_numberWordShort_3 ?_
  refine lv_topi (fun z3_1 ez3_1 => ?_)
  have r3_2 : rg z3_1 (-16777216) 16777215 := rg_shr (k := 7) ez3_1 (by decide) (rg_any v0) (by decide)
  refine lv_bipush (v := 31) hx hb dX16_numberWordShort_4 (by decide) ?_
  refine lv_iand hx hb dX16_numberWordShort_6 ?_
  refine lv_topi (fun z6_1 ez6_1 => ?_)
  have r6_2 : rg z6_1 0 31 := rg_andr ez6_1 (show rg (31 : Int32) 31 31 from rg_l (by decide)) (by decide)
  refine lv_istore_n (lv' := [(2, .int z6_1), (0, .ref mm), (1, .int v0)]) hx hb dX16_numberWordShort_7 rfl hl (by decide) rfl (fun ls hl => ?_)
  refine lv_aload_n hx hb dX16_numberWordShort_8 rfl (lv_at hl 1 rfl) ?_
  refine va_get (D := D) (ci := 16) (v := .ref ureg) (C := RX16) (T := TX16) (N := 78) hx hb (htX16 hn) (fun _ h => h) hown hK hP 0 rfl rfl 33 (by decide) (hn.get mw_1572 rfl) (fun _ h9 => h9) hf_mm_33 dX16_numberWordShort_9 ?_
  refine lv_iload_n hx hb dX16_numberWordShort_12 rfl (lv_at hl 2 rfl) ?_
  refine lv_bipush (v := 15) hx hb dX16_numberWordShort_13 (by decide) ?_
  refine lv_ishr hx hb dX16_numberWordShort_15 ?_
  refine lv_topi (fun z15_1 ez15_1 => ?_)
  have r15_2 : rg z15_1 (-65536) 65535 := rg_shr (k := 15) ez15_1 (by decide) (rg_any v0) (by decide)
  refine lv_bipush (v := 31) hx hb dX16_numberWordShort_16 (by decide) ?_
  refine lv_iand hx hb dX16_numberWordShort_18 ?_
  refine lv_topi (fun z18_1 ez18_1 => ?_)
  have r18_2 : rg z18_1 0 31 := rg_andr ez18_1 (show rg (31 : Int32) 31 31 from rg_l (by decide)) (by decide)
  have hi19_1 : vp_in z18_1 32 := (in_rg r18_2 (by decide))
  refine va_lald hx hb hK hP 1 2 rfl rfl hi19_1 dX16_numberWordShort_19 ?_
  refine lv_topl (fun z19_2 ez19_2 => ?_)
  refine lv_l2i hx hb dX16_numberWordShort_20 rfl ?_
  refine lv_topi (fun z20_1 ez20_1 => ?_)
  refine lv_istore_n (lv' := [(3, .int z20_1), (2, .int z6_1), (0, .ref mm), (1, .int v0)]) hx hb dX16_numberWordShort_21 rfl hl (by decide) rfl (fun ls hl => ?_)
  refine lv_iload_n hx hb dX16_numberWordShort_22 rfl (lv_at hl 3 rfl) ?_
  refine lv_bipush (v := 20) hx hb dX16_numberWordShort_23 (by decide) ?_
  refine lv_ishr hx hb dX16_numberWordShort_25 ?_
  refine lv_topi (fun z25_1 ez25_1 => ?_)
  have r25_2 : rg z25_1 (-2048) 2047 := rg_shr (k := 20) ez25_1 (by decide) (rg_any v0) (by decide)
  refine lv_istore (lv' := [(4, .int z25_1), (3, .int z20_1), (2, .int z6_1), (0, .ref mm), (1, .int v0)]) hx hb dX16_numberWordShort_26 hl (by decide) rfl (fun ls hl => ?_)
  refine lv_iload hx hb dX16_numberWordShort_28 (lv_at hl 0 rfl) ?_
  refine lv_bipush (v := 31) hx hb dX16_numberWordShort_30 (by decide) ?_
  refine lv_iand hx hb dX16_numberWordShort_32 ?_
  refine lv_topi (fun z32_1 ez32_1 => ?_)
  have r32_2 : rg z32_1 0 31 := rg_andr ez32_1 (show rg (31 : Int32) 31 31 from rg_l (by decide)) (by decide)
  refine lv_istore (lv' := [(5, .int z32_1), (4, .int z25_1), (3, .int z20_1), (2, .int z6_1), (0, .ref mm), (1, .int v0)]) hx hb dX16_numberWordShort_33 hl (by decide) rfl (fun ls hl => ?_)
  refine lv_iload_n hx hb dX16_numberWordShort_35 rfl (lv_at hl 5 rfl) ?_
  refine lv_bipush (v := 25) hx hb dX16_numberWordShort_36 (by decide) ?_
  refine lv_iushr hx hb dX16_numberWordShort_38 rfl ?_
  refine lv_topi (fun z38_1 ez38_1 => ?_)
  have r38_2 : rg z38_1 0 127 := rg_ushr (k := 25) ez38_1 (by decide) (by decide)
  refine lv_istore (lv' := [(6, .int z38_1), (5, .int z32_1), (4, .int z25_1), (3, .int z20_1), (2, .int z6_1), (0, .ref mm), (1, .int v0)]) hx hb dX16_numberWordShort_39 hl (by decide) rfl (fun ls hl => ?_)
  refine lv_iload_n hx hb dX16_numberWordShort_41 rfl (lv_at hl 6 rfl) ?_
  refine lv_bipush (v := 12) hx hb dX16_numberWordShort_42 (by decide) ?_
  refine lv_ishr hx hb dX16_numberWordShort_44 ?_
  refine lv_topi (fun z44_1 ez44_1 => ?_)
  have r44_2 : rg z44_1 (-524288) 524287 := rg_shr (k := 12) ez44_1 (by decide) (rg_any v0) (by decide)
  refine lv_bipush (v := 7) hx hb dX16_numberWordShort_45 (by decide) ?_
  refine lv_iand hx hb dX16_numberWordShort_47 ?_
  refine lv_topi (fun z47_1 ez47_1 => ?_)
  have r47_2 : rg z47_1 0 7 := rg_andr ez47_1 (show rg (7 : Int32) 7 7 from rg_l (by decide)) (by decide)
  by_cases h48_101 : z47_1.toInt = 0
  · have r48_102 : rg z47_1 0 0 := rg_at h48_101
    refine lv_lookup (off := 36) (tgt := 84) hx hb dX16_numberWordShort_48 (by decide) (by rw [h48_101]; rfl) (by decide) ?_
    refine lv_aload_n hx hb dX16_numberWordShort_84 rfl (lv_at hl 5 rfl) ?_
    refine lv_iload_n hx hb dX16_numberWordShort_85 rfl (lv_at hl 4 rfl) ?_
    refine lv_iload_n hx hb dX16_numberWordShort_86 rfl (lv_at hl 3 rfl) ?_
    refine lv_iload hx hb dX16_numberWordShort_87 (lv_at hl 2 rfl) ?_
    refine lv_iadd hx hb dX16_numberWordShort_89 ?_
    refine lv_topi (fun z89_1 ez89_1 => ?_)
    refine lv_i2l hx hb dX16_numberWordShort_90 rfl ?_
    refine lv_topl (fun z90_1 ez90_1 => ?_)
    have r90_2 : rl z90_1 (-2147483648) 2147483647 := rl_i2l ez90_1 (rg_any z89_1)
    refine go_v (k1 := 0) (n1 := 0) (wr := []) [0, 1] [] (rn_V (As := [.int z6_1, .long z90_1]) (rest := []) (c_X16_set l D ct mm z6_1 z90_1 fs_mm ureg g_ureg r6_2 hlen_mm hf_mm_33 _) (cb_of (n := 2) hn mw_2674 mw_13 mw_2671 mhX16_set ⟨(Nat.le_of_ble_eq_true rfl), (Nat.le_of_ble_eq_true rfl)⟩) hx hb hml hown hn hK hSK hZ hS mw_2673 mw_s276 (ci := 16) (q0 := 0) rfl rfl rfl rfl hl.1 (Nat.le_of_ble_eq_true rfl) dX16_numberWordShort_91 ⟨(Nat.le_of_ble_eq_true rfl), (Nat.le_of_ble_eq_true rfl)⟩) hP hD hS hA rfl rfl (by decide) (by decide) (by decide) (Nat.le_of_ble_eq_true rfl) (Nat.le_of_ble_eq_true rfl) (fun u91_2 H locs hp91_3 hP hD hS => ?_)
    have hP : va_P D vwCl [(mm, .inr (16, fs_mm)), (ureg, .inl (ct 2, 32, .inr (.inl u91_2)))] _ := hP
    have hD : va_D A [(mm, .inr (16, fs_mm)), (ureg, .inl (ct 2, 32, .inr (.inl u91_2)))] := hD
    refine lv_goto (tgt := 198) hx hb dX16_numberWordShort_94 (by decide) ?_
    exact endq_v hQ hx hb hr hlocks dX16_numberWordShort_198 (fs_mm, x_mm_76, u91_2) ⟨(SB.rf _ _), h_x_mm_76, hf_mm_76⟩ hP hD hS [0, 1] rfl (by decide) rfl (Nat.le_of_ble_eq_true rfl) (Nat.le_of_ble_eq_true rfl)
  by_cases h48_111 : z47_1.toInt = 1
  · have r48_112 : rg z47_1 1 1 := rg_at h48_111
    refine lv_lookup (off := 49) (tgt := 97) hx hb dX16_numberWordShort_48 (by decide) (by rw [h48_111]; rfl) (by decide) ?_
    refine lv_aload_n hx hb dX16_numberWordShort_97 rfl (lv_at hl 5 rfl) ?_
    refine lv_iload hx hb dX16_numberWordShort_98 (lv_at hl 0 rfl) ?_
    have b108 : ∀ (j108_s0 : Int32) (H : Heap) (locs : List Loc) (ls : Array Slot), (rg j108_s0 0 1) → lv_has ls 7 [(0, .ref mm), (2, .int z6_1), (3, .int z20_1), (5, .int z32_1)] → va_P D vwCl [(mm, .inr (16, fs_mm)), (ureg, .inl (ct 2, 32, .inr (.inl g_ureg)))] H → va_D A [(mm, .inr (16, fs_mm)), (ureg, .inl (ct 2, 32, .inr (.inl g_ureg)))] → va_S A s.heap H locs → W p l e ({ frames := 2, cells := 0, slots := 0, locals := 43 }) s m [.ref mm, .int v0].toArray below meth c H locs 0 0 Q (F0 m 108 ls [.int j108_s0, .ref mm]) := by
      intro j108_s0 H locs ls r108_1001 hl hP hD hS
      refine va_put (D := D) (ci := 16) (v := .int j108_s0) (ty := .boolean) (C := RX16) (T := TX16) (N := 78) hx hb (htX16 hn) (fun _ h => h) tyX16 tyX16_ok nmX16 hown hK hP hD hS 0 rfl rfl 76 (by decide) (hn.get mw_1615 rfl) (fun _ h9 => h9) rfl (by decide +kernel) (nar_bool r108_1001) (fit_bool r108_1001) (by rw [hlen_mm]; decide) dX16_numberWordShort_108 (fun H locs hP hD hS => ?_)
      have hP : va_P D vwCl [(mm, .inr (16, (fs_mm.set 76 (.int j108_s0)))), (ureg, .inl (ct 2, 32, .inr (.inl g_ureg)))] _ := hP
      have hD : va_D A [(mm, .inr (16, (fs_mm.set 76 (.int j108_s0)))), (ureg, .inl (ct 2, 32, .inr (.inl g_ureg)))] := hD
      obtain ⟨m108_1, em108_1⟩ : ∃ z, z = (fs_mm.set 76 (.int j108_s0)) := ⟨_, rfl⟩
      rw [← em108_1] at hP hD
      have hsm108_1 : SB fs_mm m108_1 [76] := by rw [em108_1]; exact SB.set (SB.rf _ _) (by decide)
      have hfm108_1_76 : m108_1[76]? = some (.int j108_s0) := by rw [em108_1]; exact fs_eq (by rw [hlen_mm]; decide)
      have hP : va_P D vwCl [(mm, .inr (16, m108_1)), (ureg, .inl (ct 2, 32, .inr (.inl g_ureg)))] _ := hP
      have hD : va_D A [(mm, .inr (16, m108_1)), (ureg, .inl (ct 2, 32, .inr (.inl g_ureg)))] := hD
      refine lv_aload_n hx hb dX16_numberWordShort_111 rfl (lv_at hl 0 rfl) ?_
      refine lv_aload_n hx hb dX16_numberWordShort_112 rfl (lv_at hl 0 rfl) ?_
      refine va_get (D := D) (ci := 16) (v := .int j108_s0) (C := RX16) (T := TX16) (N := 78) hx hb (htX16 hn) (fun _ h => h) hown hK hP 0 rfl rfl 76 (by decide) (hn.get mw_1615 rfl) (fun _ h9 => h9) hfm108_1_76 dX16_numberWordShort_113 ?_
      have b124 : ∀ (j124_s0 : Int32) (H : Heap) (locs : List Loc) (ls : Array Slot), (rg j124_s0 0 31) → lv_has ls 7 [(3, .int z20_1), (5, .int z32_1)] → va_P D vwCl [(mm, .inr (16, m108_1)), (ureg, .inl (ct 2, 32, .inr (.inl g_ureg)))] H → va_D A [(mm, .inr (16, m108_1)), (ureg, .inl (ct 2, 32, .inr (.inl g_ureg)))] → va_S A s.heap H locs → W p l e ({ frames := 2, cells := 0, slots := 0, locals := 43 }) s m [.ref mm, .int v0].toArray below meth c H locs 0 0 Q (F0 m 124 ls [.int j124_s0, .ref mm]) := by
        intro j124_s0 H locs ls r124_1001 hl hP hD hS
        refine lv_iload_n hx hb dX16_numberWordShort_124 rfl (lv_at hl 0 rfl) ?_
        refine lv_iload hx hb dX16_numberWordShort_125 (lv_at hl 1 rfl) ?_
        refine lv_ishl hx hb dX16_numberWordShort_127 ?_
        refine lv_topi (fun z127_1 ez127_1 => ?_)
        refine lv_i2l hx hb dX16_numberWordShort_128 rfl ?_
        refine lv_topl (fun z128_1 ez128_1 => ?_)
        have r128_2 : rl z128_1 (-2147483648) 2147483647 := rl_i2l ez128_1 (rg_any z127_1)
        refine go_v (k1 := 0) (n1 := 0) (wr := []) [0, 1] [] (rn_V (As := [.int j124_s0, .long z128_1]) (rest := []) (c_X16_set l D ct mm j124_s0 z128_1 m108_1 ureg g_ureg r124_1001 (hsm108_1.1.trans hlen_mm) (SB.get hsm108_1 (by decide) hf_mm_33) _) (cb_of (n := 2) hn mw_2674 mw_13 mw_2671 mhX16_set ⟨(Nat.le_of_ble_eq_true rfl), (Nat.le_of_ble_eq_true rfl)⟩) hx hb hml hown hn hK hSK hZ hS mw_2673 mw_s276 (ci := 16) (q0 := 0) rfl rfl rfl rfl hl.1 (Nat.le_of_ble_eq_true rfl) dX16_numberWordShort_129 ⟨(Nat.le_of_ble_eq_true rfl), (Nat.le_of_ble_eq_true rfl)⟩) hP hD hS hA rfl rfl (by decide) (by decide) (by decide) (Nat.le_of_ble_eq_true rfl) (Nat.le_of_ble_eq_true rfl) (fun u129_2 H locs hp129_3 hP hD hS => ?_)
        have hP : va_P D vwCl [(mm, .inr (16, m108_1)), (ureg, .inl (ct 2, 32, .inr (.inl u129_2)))] _ := hP
        have hD : va_D A [(mm, .inr (16, m108_1)), (ureg, .inl (ct 2, 32, .inr (.inl u129_2)))] := hD
        refine lv_goto (tgt := 198) hx hb dX16_numberWordShort_132 (by decide) ?_
        exact endq_v hQ hx hb hr hlocks dX16_numberWordShort_198 (m108_1, j108_s0, u129_2) ⟨hsm108_1, r108_1001, hfm108_1_76⟩ hP hD hS [0, 1] rfl (by decide) rfl (Nat.le_of_ble_eq_true rfl) (Nat.le_of_ble_eq_true rfl)
      refine lv_if_eq (tgt := 123) hx hb dX16_numberWordShort_116 (by decide) (fun c116_1 => ?_) (fun c116_1 => ?_)
      · have t116_2 := FF.mk (i_eq c116_1)
        have r116_3 : rg j108_s0 0 0 := rg_eqA t116_2 r108_1001 (show rg (0 : Int32) 0 0 from rg_l (by decide)) (by decide)
        refine lv_iload_n hx hb dX16_numberWordShort_123 rfl (lv_at hl 1 rfl) ?_
        exact b124 z6_1 H locs ls r6_2 (lv_sub hl [2, 3] rfl) hP hD hS
      · have t116_2 := FF.mk (i_ne c116_1)
        have r116_3 : rg j108_s0 1 1 := rg_neAl t116_2 r108_1001 (show rg (0 : Int32) 0 0 from rg_l (by decide)) (by decide)
        refine lv_iconst (v := 0) hx hb dX16_numberWordShort_119 (by decide) ?_
        refine lv_goto (tgt := 124) hx hb dX16_numberWordShort_120 (by decide) ?_
        exact b124 (0 : Int32) H locs ls (rg_w (show rg (0 : Int32) 0 0 from rg_l (by decide)) (by decide)) (lv_sub hl [2, 3] rfl) hP hD hS
    refine lv_if_eq (tgt := 107) hx hb dX16_numberWordShort_100 (by decide) (fun c100_1 => ?_) (fun c100_1 => ?_)
    · have t100_2 := FF.mk (i_eq c100_1)
      have r100_3 : rg z38_1 0 0 := rg_eqA t100_2 r38_2 (show rg (0 : Int32) 0 0 from rg_l (by decide)) (by decide)
      refine lv_iconst (v := 0) hx hb dX16_numberWordShort_107 (by decide) ?_
      exact b108 (0 : Int32) H locs ls (rg_w (show rg (0 : Int32) 0 0 from rg_l (by decide)) (by decide)) (lv_sub hl [5, 4, 3, 1] rfl) hP hD hS
    · have t100_2 := FF.mk (i_ne c100_1)
      have r100_3 : rg z38_1 1 127 := rg_neAl t100_2 r38_2 (show rg (0 : Int32) 0 0 from rg_l (by decide)) (by decide)
      refine lv_iconst (v := 1) hx hb dX16_numberWordShort_103 (by decide) ?_
      refine lv_goto (tgt := 108) hx hb dX16_numberWordShort_104 (by decide) ?_
      exact b108 (1 : Int32) H locs ls (rg_w (show rg (1 : Int32) 1 1 from rg_l (by decide)) (by decide)) (lv_sub hl [5, 4, 3, 1] rfl) hP hD hS
  by_cases h48_121 : z47_1.toInt = 5
  · have r48_122 : rg z47_1 5 5 := rg_at h48_121
    refine lv_lookup (off := 87) (tgt := 135) hx hb dX16_numberWordShort_48 (by decide) (by rw [h48_121]; rfl) (by decide) ?_
    refine lv_aload_n hx hb dX16_numberWordShort_135 rfl (lv_at hl 5 rfl) ?_
    refine lv_iload hx hb dX16_numberWordShort_136 (lv_at hl 0 rfl) ?_
    have b153 : ∀ (j153_s0 : Int32) (H : Heap) (locs : List Loc) (ls : Array Slot), (rg j153_s0 0 1) → lv_has ls 7 [(0, .ref mm), (2, .int z6_1), (3, .int z20_1), (5, .int z32_1), (6, .int z38_1)] → va_P D vwCl [(mm, .inr (16, fs_mm)), (ureg, .inl (ct 2, 32, .inr (.inl g_ureg)))] H → va_D A [(mm, .inr (16, fs_mm)), (ureg, .inl (ct 2, 32, .inr (.inl g_ureg)))] → va_S A s.heap H locs → W p l e ({ frames := 2, cells := 0, slots := 0, locals := 43 }) s m [.ref mm, .int v0].toArray below meth c H locs 0 0 Q (F0 m 153 ls [.int j153_s0, .ref mm]) := by
      intro j153_s0 H locs ls r153_1001 hl hP hD hS
      refine va_put (D := D) (ci := 16) (v := .int j153_s0) (ty := .boolean) (C := RX16) (T := TX16) (N := 78) hx hb (htX16 hn) (fun _ h => h) tyX16 tyX16_ok nmX16 hown hK hP hD hS 0 rfl rfl 76 (by decide) (hn.get mw_1615 rfl) (fun _ h9 => h9) rfl (by decide +kernel) (nar_bool r153_1001) (fit_bool r153_1001) (by rw [hlen_mm]; decide) dX16_numberWordShort_153 (fun H locs hP hD hS => ?_)
      have hP : va_P D vwCl [(mm, .inr (16, (fs_mm.set 76 (.int j153_s0)))), (ureg, .inl (ct 2, 32, .inr (.inl g_ureg)))] _ := hP
      have hD : va_D A [(mm, .inr (16, (fs_mm.set 76 (.int j153_s0)))), (ureg, .inl (ct 2, 32, .inr (.inl g_ureg)))] := hD
      obtain ⟨m153_1, em153_1⟩ : ∃ z, z = (fs_mm.set 76 (.int j153_s0)) := ⟨_, rfl⟩
      rw [← em153_1] at hP hD
      have hsm153_1 : SB fs_mm m153_1 [76] := by rw [em153_1]; exact SB.set (SB.rf _ _) (by decide)
      have hfm153_1_76 : m153_1[76]? = some (.int j153_s0) := by rw [em153_1]; exact fs_eq (by rw [hlen_mm]; decide)
      have hP : va_P D vwCl [(mm, .inr (16, m153_1)), (ureg, .inl (ct 2, 32, .inr (.inl g_ureg)))] _ := hP
      have hD : va_D A [(mm, .inr (16, m153_1)), (ureg, .inl (ct 2, 32, .inr (.inl g_ureg)))] := hD
      refine lv_aload_n hx hb dX16_numberWordShort_156 rfl (lv_at hl 0 rfl) ?_
      refine lv_aload_n hx hb dX16_numberWordShort_157 rfl (lv_at hl 0 rfl) ?_
      refine va_get (D := D) (ci := 16) (v := .int j153_s0) (C := RX16) (T := TX16) (N := 78) hx hb (htX16 hn) (fun _ h => h) hown hK hP 0 rfl rfl 76 (by decide) (hn.get mw_1615 rfl) (fun _ h9 => h9) hfm153_1_76 dX16_numberWordShort_158 ?_
      have b169 : ∀ (j169_s0 : Int32) (H : Heap) (locs : List Loc) (ls : Array Slot), (rg j169_s0 0 31) → lv_has ls 7 [(3, .int z20_1), (5, .int z32_1), (6, .int z38_1)] → va_P D vwCl [(mm, .inr (16, m153_1)), (ureg, .inl (ct 2, 32, .inr (.inl g_ureg)))] H → va_D A [(mm, .inr (16, m153_1)), (ureg, .inl (ct 2, 32, .inr (.inl g_ureg)))] → va_S A s.heap H locs → W p l e ({ frames := 2, cells := 0, slots := 0, locals := 43 }) s m [.ref mm, .int v0].toArray below meth c H locs 0 0 Q (F0 m 169 ls [.int j169_s0, .ref mm]) := by
        intro j169_s0 H locs ls r169_1001 hl hP hD hS
        refine lv_iload hx hb dX16_numberWordShort_169 (lv_at hl 2 rfl) ?_
        have b187 : ∀ (j187_s0 : Int64) (H : Heap) (locs : List Loc) (ls : Array Slot), (rl j187_s0 (-2147483648) 2147483647) → lv_has ls 7 [] → va_P D vwCl [(mm, .inr (16, m153_1)), (ureg, .inl (ct 2, 32, .inr (.inl g_ureg)))] H → va_D A [(mm, .inr (16, m153_1)), (ureg, .inl (ct 2, 32, .inr (.inl g_ureg)))] → va_S A s.heap H locs → W p l e ({ frames := 2, cells := 0, slots := 0, locals := 43 }) s m [.ref mm, .int v0].toArray below meth c H locs 0 0 Q (F0 m 187 ls [.long j187_s0, .int j169_s0, .ref mm]) := by
          intro j187_s0 H locs ls r187_1001 hl hP hD hS
          refine go_v (k1 := 0) (n1 := 0) (wr := []) [0, 1] [] (rn_V (As := [.int j169_s0, .long j187_s0]) (rest := []) (c_X16_set l D ct mm j169_s0 j187_s0 m153_1 ureg g_ureg r169_1001 (hsm153_1.1.trans hlen_mm) (SB.get hsm153_1 (by decide) hf_mm_33) _) (cb_of (n := 2) hn mw_2674 mw_13 mw_2671 mhX16_set ⟨(Nat.le_of_ble_eq_true rfl), (Nat.le_of_ble_eq_true rfl)⟩) hx hb hml hown hn hK hSK hZ hS mw_2673 mw_s276 (ci := 16) (q0 := 0) rfl rfl rfl rfl hl.1 (Nat.le_of_ble_eq_true rfl) dX16_numberWordShort_187 ⟨(Nat.le_of_ble_eq_true rfl), (Nat.le_of_ble_eq_true rfl)⟩) hP hD hS hA rfl rfl (by decide) (by decide) (by decide) (Nat.le_of_ble_eq_true rfl) (Nat.le_of_ble_eq_true rfl) (fun u187_2 H locs hp187_3 hP hD hS => ?_)
          have hP : va_P D vwCl [(mm, .inr (16, m153_1)), (ureg, .inl (ct 2, 32, .inr (.inl u187_2)))] _ := hP
          have hD : va_D A [(mm, .inr (16, m153_1)), (ureg, .inl (ct 2, 32, .inr (.inl u187_2)))] := hD
          refine lv_goto (tgt := 198) hx hb dX16_numberWordShort_190 (by decide) ?_
          exact endq_v hQ hx hb hr hlocks dX16_numberWordShort_198 (m153_1, j153_s0, u187_2) ⟨hsm153_1, r153_1001, hfm153_1_76⟩ hP hD hS [0, 1] rfl (by decide) rfl (Nat.le_of_ble_eq_true rfl) (Nat.le_of_ble_eq_true rfl)
        refine lv_if_ne (tgt := 182) hx hb dX16_numberWordShort_171 (by decide) (fun c171_1 => ?_) (fun c171_1 => ?_)
        · have t171_2 := FF.mk (i_ne c171_1)
          have r171_3 : rg z38_1 1 127 := rg_neAl t171_2 r38_2 (show rg (0 : Int32) 0 0 from rg_l (by decide)) (by decide)
          refine lv_iload_n hx hb dX16_numberWordShort_182 rfl (lv_at hl 0 rfl) ?_
          refine lv_iload hx hb dX16_numberWordShort_183 (lv_at hl 1 rfl) ?_
          refine lv_ishr hx hb dX16_numberWordShort_185 ?_
          refine lv_topi (fun z185_1 ez185_1 => ?_)
          refine lv_i2l hx hb dX16_numberWordShort_186 rfl ?_
          refine lv_topl (fun z186_1 ez186_1 => ?_)
          have r186_2 : rl z186_1 (-2147483648) 2147483647 := rl_i2l ez186_1 (rg_any z185_1)
          exact b187 z186_1 H locs ls r186_2 (lv_sub hl [] rfl) hP hD hS
        · have t171_2 := FF.mk (i_eq c171_1)
          have r171_3 : rg z38_1 0 0 := rg_eqA t171_2 r38_2 (show rg (0 : Int32) 0 0 from rg_l (by decide)) (by decide)
          refine lv_iload_n hx hb dX16_numberWordShort_174 rfl (lv_at hl 0 rfl) ?_
          refine lv_iload hx hb dX16_numberWordShort_175 (lv_at hl 1 rfl) ?_
          refine lv_iushr hx hb dX16_numberWordShort_177 rfl ?_
          refine lv_topi (fun z177_1 ez177_1 => ?_)
          refine lv_i2l hx hb dX16_numberWordShort_178 rfl ?_
          refine lv_topl (fun z178_1 ez178_1 => ?_)
          have r178_2 : rl z178_1 (-2147483648) 2147483647 := rl_i2l ez178_1 (rg_any z177_1)
          refine lv_goto (tgt := 187) hx hb dX16_numberWordShort_179 (by decide) ?_
          exact b187 z178_1 H locs ls r178_2 (lv_sub hl [] rfl) hP hD hS
      refine lv_if_eq (tgt := 168) hx hb dX16_numberWordShort_161 (by decide) (fun c161_1 => ?_) (fun c161_1 => ?_)
      · have t161_2 := FF.mk (i_eq c161_1)
        have r161_3 : rg j153_s0 0 0 := rg_eqA t161_2 r153_1001 (show rg (0 : Int32) 0 0 from rg_l (by decide)) (by decide)
        refine lv_iload_n hx hb dX16_numberWordShort_168 rfl (lv_at hl 1 rfl) ?_
        exact b169 z6_1 H locs ls r6_2 (lv_sub hl [2, 3, 4] rfl) hP hD hS
      · have t161_2 := FF.mk (i_ne c161_1)
        have r161_3 : rg j153_s0 1 1 := rg_neAl t161_2 r153_1001 (show rg (0 : Int32) 0 0 from rg_l (by decide)) (by decide)
        refine lv_iconst (v := 0) hx hb dX16_numberWordShort_164 (by decide) ?_
        refine lv_goto (tgt := 169) hx hb dX16_numberWordShort_165 (by decide) ?_
        exact b169 (0 : Int32) H locs ls (rg_w (show rg (0 : Int32) 0 0 from rg_l (by decide)) (by decide)) (lv_sub hl [2, 3, 4] rfl) hP hD hS
    have b152 : ∀  (H : Heap) (locs : List Loc) (ls : Array Slot), lv_has ls 7 [(0, .ref mm), (2, .int z6_1), (3, .int z20_1), (5, .int z32_1), (6, .int z38_1)] → va_P D vwCl [(mm, .inr (16, fs_mm)), (ureg, .inl (ct 2, 32, .inr (.inl g_ureg)))] H → va_D A [(mm, .inr (16, fs_mm)), (ureg, .inl (ct 2, 32, .inr (.inl g_ureg)))] → va_S A s.heap H locs → W p l e ({ frames := 2, cells := 0, slots := 0, locals := 43 }) s m [.ref mm, .int v0].toArray below meth c H locs 0 0 Q (F0 m 152 ls [.ref mm]) := by
      intro  H locs ls  hl hP hD hS
      refine lv_iconst (v := 0) hx hb dX16_numberWordShort_152 (by decide) ?_
      exact b153 (0 : Int32) H locs ls (rg_w (show rg (0 : Int32) 0 0 from rg_l (by decide)) (by decide)) (lv_sub hl [0, 1, 2, 3, 4] rfl) hP hD hS
    refine lv_if_eq (tgt := 152) hx hb dX16_numberWordShort_138 (by decide) (fun c138_1 => ?_) (fun c138_1 => ?_)
    · have t138_2 := FF.mk (i_eq c138_1)
      have r138_3 : rg z38_1 0 0 := rg_eqA t138_2 r38_2 (show rg (0 : Int32) 0 0 from rg_l (by decide)) (by decide)
      exact b152  H locs ls  (lv_sub hl [5, 4, 3, 1, 0] rfl) hP hD hS
    · have t138_2 := FF.mk (i_ne c138_1)
      have r138_3 : rg z38_1 1 127 := rg_neAl t138_2 r38_2 (show rg (0 : Int32) 0 0 from rg_l (by decide)) (by decide)
      refine lv_iload hx hb dX16_numberWordShort_141 (lv_at hl 0 rfl) ?_
      refine lv_bipush (v := 32) hx hb dX16_numberWordShort_143 (by decide) ?_
      refine lv_icmp_eq (tgt := 152) hx hb dX16_numberWordShort_145 (by decide) (fun c145_1 => ?_) (fun c145_1 => ?_)
      · have t145_2 := FF.mk (i_eq c145_1)
        have r145_3 : rg z38_1 32 32 := rg_eqA t145_2 r138_3 (show rg (32 : Int32) 32 32 from rg_l (by decide)) (by decide)
        exact b152  H locs ls  (lv_sub hl [5, 4, 3, 1, 0] rfl) hP hD hS
      · have t145_2 := FF.mk (i_ne c145_1)
        refine lv_iconst (v := 1) hx hb dX16_numberWordShort_148 (by decide) ?_
        refine lv_goto (tgt := 153) hx hb dX16_numberWordShort_149 (by decide) ?_
        exact b153 (1 : Int32) H locs ls (rg_w (show rg (1 : Int32) 1 1 from rg_l (by decide)) (by decide)) (lv_sub hl [5, 4, 3, 1, 0] rfl) hP hD hS
  refine lv_lookup (off := 145) (tgt := 193) hx hb dX16_numberWordShort_48 (by decide) (by simp [Op.lookupswitch.offset, (show ¬ (0 : Int) = z47_1.toInt from fun q => h48_101 q.symm), (show ¬ (1 : Int) = z47_1.toInt from fun q => h48_111 q.symm), (show ¬ (5 : Int) = z47_1.toInt from fun q => h48_121 q.symm)]) (by decide) ?_
  have hl48_5001 := FF.mk h48_101
  have hl48_5002 := FF.mk h48_111
  have hl48_5003 := FF.mk h48_121
  refine lv_aload_n hx hb dX16_numberWordShort_193 rfl (lv_at hl 5 rfl) ?_
  refine lv_iconst (v := 1) hx hb dX16_numberWordShort_194 (by decide) ?_
  refine va_put (D := D) (ci := 16) (v := .int 1) (ty := .boolean) (C := RX16) (T := TX16) (N := 78) hx hb (htX16 hn) (fun _ h => h) tyX16 tyX16_ok nmX16 hown hK hP hD hS 0 rfl rfl 76 (by decide) (hn.get mw_1615 rfl) (fun _ h9 => h9) rfl (by decide +kernel) (by decide) rfl (by rw [hlen_mm]; decide) dX16_numberWordShort_195 (fun H locs hP hD hS => ?_)
  have hP : va_P D vwCl [(mm, .inr (16, (fs_mm.set 76 (.int 1)))), (ureg, .inl (ct 2, 32, .inr (.inl g_ureg)))] _ := hP
  have hD : va_D A [(mm, .inr (16, (fs_mm.set 76 (.int 1)))), (ureg, .inl (ct 2, 32, .inr (.inl g_ureg)))] := hD
  obtain ⟨m195_1, em195_1⟩ : ∃ z, z = (fs_mm.set 76 (.int 1)) := ⟨_, rfl⟩
  rw [← em195_1] at hP hD
  have hsm195_1 : SB fs_mm m195_1 [76] := by rw [em195_1]; exact SB.set (SB.rf _ _) (by decide)
  have hfm195_1_76 : m195_1[76]? = some (.int 1) := by rw [em195_1]; exact fs_eq (by rw [hlen_mm]; decide)
  have hP : va_P D vwCl [(mm, .inr (16, m195_1)), (ureg, .inl (ct 2, 32, .inr (.inl g_ureg)))] _ := hP
  have hD : va_D A [(mm, .inr (16, m195_1)), (ureg, .inl (ct 2, 32, .inr (.inl g_ureg)))] := hD
  exact endq_v hQ hx hb hr hlocks dX16_numberWordShort_198 (m195_1, (1 : Int32), g_ureg) ⟨hsm195_1, (rg_w (show rg (1 : Int32) 1 1 from rg_l (by decide)) (by decide)), hfm195_1_76⟩ hP hD hS [0, 1] rfl (by decide) rfl (Nat.le_of_ble_eq_true rfl) (Nat.le_of_ble_eq_true rfl)
set_option maxHeartbeats 2000000 in
theorem c_X16_registerWord (l : Launch) (D : va_G) (ct : Nat → ClassId) (mm : Nat) (v0 : Int32) (fs_mm : List Value) (ureg : Nat) (x_mm_76 : Int32) (g_ureg : Nat → Int64) (hlen_mm : fs_mm.length = 78) (hf_mm_33 : fs_mm[33]? = some (.ref ureg)) (h_x_mm_76 : rg x_mm_76 0 1) (hf_mm_76 : fs_mm[76]? = some (.int x_mm_76)) : KV (S := List Value × Int32 × (Nat → Int64)) l yX16_registerWord cX16_registerWord 7 none 3 66 D ct [.ref mm, .int v0] [(mm, .inr (16, fs_mm)), (ureg, .inl (ct 2, 32, .inr (.inl g_ureg)))] 0 0 (fun (u : List Value × Int32 × (Nat → Int64)) => match u with | (fs2_mm, y_mm_76, k_ureg) => SB fs_mm fs2_mm [76] ∧ rg y_mm_76 0 1 ∧ fs2_mm[76]? = some (.int y_mm_76)) (fun (u : List Value × Int32 × (Nat → Int64)) => match u with | (fs2_mm, y_mm_76, k_ureg) => [(mm, .inr (16, fs2_mm)), (ureg, .inl (ct 2, 32, .inr (.inl k_ureg)))]) := by
  refine KVq_of (by decide) (Nat.le_of_ble_eq_true rfl) (fun p e s m below meth c A Q C0 hA H locs hS hP hD hQ ls hl => ?_)
  obtain ⟨hx, hb, hr, hown, hin, hml, hlocks, hn, hK, hZ, hSK⟩ := C0
  have hl : lv_has ls 7 [(0, .ref mm), (1, .int v0)] := hl
  refine lv_iload_n hx hb dX16_registerWord_0 rfl (lv_at hl 1 rfl) ?_
  refine lv_bipush (v := 7) hx hb dX16_registerWord_1 (by decide) ?_
  refine lv_ishr hx hb dX16_registerWord_3 ?_
  refine lv_topi (fun z3_1 ez3_1 => ?_)
  have r3_2 : rg z3_1 (-16777216) 16777215 := rg_shr (k := 7) ez3_1 (by decide) (rg_any v0) (by decide)
  refine lv_bipush (v := 31) hx hb dX16_registerWord_4 (by decide) ?_
  refine lv_iand hx hb dX16_registerWord_6 ?_
  refine lv_topi (fun z6_1 ez6_1 => ?_)
  have r6_2 : rg z6_1 0 31 := rg_andr ez6_1 (show rg (31 : Int32) 31 31 from rg_l (by decide)) (by decide)
  refine lv_istore_n (lv' := [(2, .int z6_1), (0, .ref mm), (1, .int v0)]) hx hb dX16_registerWord_7 rfl hl (by decide) rfl (fun ls hl => ?_)
  refine lv_aload_n hx hb dX16_registerWord_8 rfl (lv_at hl 1 rfl) ?_
  refine va_get (D := D) (ci := 16) (v := .ref ureg) (C := RX16) (T := TX16) (N := 78) hx hb (htX16 hn) (fun _ h => h) hown hK hP 0 rfl rfl 33 (by decide) (hn.get mw_1572 rfl) (fun _ h9 => h9) hf_mm_33 dX16_registerWord_9 ?_
  refine lv_iload_n hx hb dX16_registerWord_12 rfl (lv_at hl 2 rfl) ?_
  refine lv_bipush (v := 15) hx hb dX16_registerWord_13 (by decide) ?_
  refine lv_ishr hx hb dX16_registerWord_15 ?_
  refine lv_topi (fun z15_1 ez15_1 => ?_)
  have r15_2 : rg z15_1 (-65536) 65535 := rg_shr (k := 15) ez15_1 (by decide) (rg_any v0) (by decide)
  refine lv_bipush (v := 31) hx hb dX16_registerWord_16 (by decide) ?_
  refine lv_iand hx hb dX16_registerWord_18 ?_
  refine lv_topi (fun z18_1 ez18_1 => ?_)
  have r18_2 : rg z18_1 0 31 := rg_andr ez18_1 (show rg (31 : Int32) 31 31 from rg_l (by decide)) (by decide)
  have hi19_1 : vp_in z18_1 32 := (in_rg r18_2 (by decide))
  refine va_lald hx hb hK hP 1 2 rfl rfl hi19_1 dX16_registerWord_19 ?_
  refine lv_topl (fun z19_2 ez19_2 => ?_)
  refine lv_lstore_n (lv' := [(3, .long z19_2), (2, .int z6_1), (0, .ref mm), (1, .int v0)]) hx hb dX16_registerWord_20 rfl hl (by decide) rfl (fun ls hl => ?_)
  refine lv_aload_n hx hb dX16_registerWord_21 rfl (lv_at hl 2 rfl) ?_
  refine va_get (D := D) (ci := 16) (v := .ref ureg) (C := RX16) (T := TX16) (N := 78) hx hb (htX16 hn) (fun _ h => h) hown hK hP 0 rfl rfl 33 (by decide) (hn.get mw_1572 rfl) (fun _ h9 => h9) hf_mm_33 dX16_registerWord_22 ?_
  refine lv_iload_n hx hb dX16_registerWord_25 rfl (lv_at hl 3 rfl) ?_
  refine lv_bipush (v := 20) hx hb dX16_registerWord_26 (by decide) ?_
  refine lv_ishr hx hb dX16_registerWord_28 ?_
  refine lv_topi (fun z28_1 ez28_1 => ?_)
  have r28_2 : rg z28_1 (-2048) 2047 := rg_shr (k := 20) ez28_1 (by decide) (rg_any v0) (by decide)
  refine lv_bipush (v := 31) hx hb dX16_registerWord_29 (by decide) ?_
  refine lv_iand hx hb dX16_registerWord_31 ?_
  refine lv_topi (fun z31_1 ez31_1 => ?_)
  have r31_2 : rg z31_1 0 31 := rg_andr ez31_1 (show rg (31 : Int32) 31 31 from rg_l (by decide)) (by decide)
  have hi32_1 : vp_in z31_1 32 := (in_rg r31_2 (by decide))
  refine va_lald hx hb hK hP 1 2 rfl rfl hi32_1 dX16_registerWord_32 ?_
  refine lv_topl (fun z32_2 ez32_2 => ?_)
  refine lv_lstore (lv' := [(5, .long z32_2), (3, .long z19_2), (2, .int z6_1), (0, .ref mm), (1, .int v0)]) hx hb dX16_registerWord_33 hl (by decide) rfl (fun ls hl => ?_)
  refine lv_iload_n hx hb dX16_registerWord_35 rfl (lv_at hl 4 rfl) ?_
  refine lv_bipush (v := 25) hx hb dX16_registerWord_36 (by decide) ?_
  refine lv_iushr hx hb dX16_registerWord_38 rfl ?_
  refine lv_topi (fun z38_1 ez38_1 => ?_)
  have r38_2 : rg z38_1 0 127 := rg_ushr (k := 25) ez38_1 (by decide) (by decide)
  refine lv_iconst (v := 3) hx hb dX16_registerWord_39 (by decide) ?_
  refine lv_ishl hx hb dX16_registerWord_40 ?_
  refine lv_topi (fun z40_1 ez40_1 => ?_)
  have r40_2 : rg z40_1 0 1016 := rg_shl (c := 8) (k := 3) ez40_1 (by decide) r38_2 (by decide)
  refine lv_iload_n hx hb dX16_registerWord_41 rfl (lv_at hl 4 rfl) ?_
  refine lv_bipush (v := 12) hx hb dX16_registerWord_42 (by decide) ?_
  refine lv_ishr hx hb dX16_registerWord_44 ?_
  refine lv_topi (fun z44_1 ez44_1 => ?_)
  have r44_2 : rg z44_1 (-524288) 524287 := rg_shr (k := 12) ez44_1 (by decide) (rg_any v0) (by decide)
  refine lv_bipush (v := 7) hx hb dX16_registerWord_45 (by decide) ?_
  refine lv_iand hx hb dX16_registerWord_47 ?_
  refine lv_topi (fun z47_1 ez47_1 => ?_)
  have r47_2 : rg z47_1 0 7 := rg_andr ez47_1 (show rg (7 : Int32) 7 7 from rg_l (by decide)) (by decide)
  refine lv_ior hx hb dX16_registerWord_48 ?_
  refine lv_topi (fun z48_1 ez48_1 => ?_)
  have r48_2 : rg z48_1 0 1023 := rg_or (k := 10) ez48_1 r40_2 r47_2 (by decide)
  by_cases h49_101 : z48_1.toInt = 0
  · have r49_102 : rg z48_1 0 0 := rg_at h49_101
    refine lv_lookup (off := 115) (tgt := 164) hx hb dX16_registerWord_49 (by decide) (by rw [h49_101]; rfl) (by decide) ?_
    refine lv_aload_n hx hb dX16_registerWord_164 rfl (lv_at hl 3 rfl) ?_
    refine lv_iload_n hx hb dX16_registerWord_165 rfl (lv_at hl 2 rfl) ?_
    refine lv_lload_n hx hb dX16_registerWord_166 rfl (lv_at hl 1 rfl) ?_
    refine lv_lload hx hb dX16_registerWord_167 (lv_at hl 0 rfl) ?_
    refine lv_ladd hx hb dX16_registerWord_169 ?_
    refine lv_topl (fun z169_1 ez169_1 => ?_)
    refine go_v (k1 := 0) (n1 := 0) (wr := []) [0, 1] [] (rn_V (As := [.int z6_1, .long z169_1]) (rest := []) (c_X16_set l D ct mm z6_1 z169_1 fs_mm ureg g_ureg r6_2 hlen_mm hf_mm_33 _) (cb_of (n := 2) hn mw_2674 mw_13 mw_2671 mhX16_set ⟨(Nat.le_of_ble_eq_true rfl), (Nat.le_of_ble_eq_true rfl)⟩) hx hb hml hown hn hK hSK hZ hS mw_2673 mw_s276 (ci := 16) (q0 := 0) rfl rfl rfl rfl hl.1 (Nat.le_of_ble_eq_true rfl) dX16_registerWord_170 ⟨(Nat.le_of_ble_eq_true rfl), (Nat.le_of_ble_eq_true rfl)⟩) hP hD hS hA rfl rfl (by decide) (by decide) (by decide) (Nat.le_of_ble_eq_true rfl) (Nat.le_of_ble_eq_true rfl) (fun u170_2 H locs hp170_3 hP hD hS => ?_)
    have hP : va_P D vwCl [(mm, .inr (16, fs_mm)), (ureg, .inl (ct 2, 32, .inr (.inl u170_2)))] _ := hP
    have hD : va_D A [(mm, .inr (16, fs_mm)), (ureg, .inl (ct 2, 32, .inr (.inl u170_2)))] := hD
    refine lv_goto (tgt := 386) hx hb dX16_registerWord_173 (by decide) ?_
    exact endq_v hQ hx hb hr hlocks dX16_registerWord_386 (fs_mm, x_mm_76, u170_2) ⟨(SB.rf _ _), h_x_mm_76, hf_mm_76⟩ hP hD hS [0, 1] rfl (by decide) rfl (Nat.le_of_ble_eq_true rfl) (Nat.le_of_ble_eq_true rfl)
  by_cases h49_111 : z48_1.toInt = 1
  · have r49_112 : rg z48_1 1 1 := rg_at h49_111
    refine lv_lookup (off := 139) (tgt := 188) hx hb dX16_registerWord_49 (by decide) (by rw [h49_111]; rfl) (by decide) ?_
    refine lv_aload_n hx hb dX16_registerWord_188 rfl (lv_at hl 3 rfl) ?_
    refine lv_iload_n hx hb dX16_registerWord_189 rfl (lv_at hl 2 rfl) ?_
    refine lv_lload_n hx hb dX16_registerWord_190 rfl (lv_at hl 1 rfl) ?_
    refine lv_lload hx hb dX16_registerWord_191 (lv_at hl 0 rfl) ?_
    refine lv_ldc2 (v := 63) hx hb hown (hn.get mw_2361 rfl) dX16_registerWord_193 ?_
    refine lv_land hx hb dX16_registerWord_196 ?_
    refine lv_topl (fun z196_1 ez196_1 => ?_)
    have r196_2 : rl z196_1 0 63 := rgL_andr ez196_1 (show rl (63 : Int64) 63 63 from rl_l (by decide)) (by decide)
    refine lv_l2i hx hb dX16_registerWord_197 rfl ?_
    refine lv_topi (fun z197_1 ez197_1 => ?_)
    have r197_2 : rg z197_1 0 63 := rg_l2i ez197_1 r196_2 (by decide)
    refine lv_lshl hx hb dX16_registerWord_198 rfl ?_
    refine lv_topl (fun z198_1 ez198_1 => ?_)
    refine go_v (k1 := 0) (n1 := 0) (wr := []) [0, 1] [] (rn_V (As := [.int z6_1, .long z198_1]) (rest := []) (c_X16_set l D ct mm z6_1 z198_1 fs_mm ureg g_ureg r6_2 hlen_mm hf_mm_33 _) (cb_of (n := 2) hn mw_2674 mw_13 mw_2671 mhX16_set ⟨(Nat.le_of_ble_eq_true rfl), (Nat.le_of_ble_eq_true rfl)⟩) hx hb hml hown hn hK hSK hZ hS mw_2673 mw_s276 (ci := 16) (q0 := 0) rfl rfl rfl rfl hl.1 (Nat.le_of_ble_eq_true rfl) dX16_registerWord_199 ⟨(Nat.le_of_ble_eq_true rfl), (Nat.le_of_ble_eq_true rfl)⟩) hP hD hS hA rfl rfl (by decide) (by decide) (by decide) (Nat.le_of_ble_eq_true rfl) (Nat.le_of_ble_eq_true rfl) (fun u199_2 H locs hp199_3 hP hD hS => ?_)
    have hP : va_P D vwCl [(mm, .inr (16, fs_mm)), (ureg, .inl (ct 2, 32, .inr (.inl u199_2)))] _ := hP
    have hD : va_D A [(mm, .inr (16, fs_mm)), (ureg, .inl (ct 2, 32, .inr (.inl u199_2)))] := hD
    refine lv_goto (tgt := 386) hx hb dX16_registerWord_202 (by decide) ?_
    exact endq_v hQ hx hb hr hlocks dX16_registerWord_386 (fs_mm, x_mm_76, u199_2) ⟨(SB.rf _ _), h_x_mm_76, hf_mm_76⟩ hP hD hS [0, 1] rfl (by decide) rfl (Nat.le_of_ble_eq_true rfl) (Nat.le_of_ble_eq_true rfl)
  by_cases h49_121 : z48_1.toInt = 2
  · have r49_122 : rg z48_1 2 2 := rg_at h49_121
    refine lv_lookup (off := 156) (tgt := 205) hx hb dX16_registerWord_49 (by decide) (by rw [h49_121]; rfl) (by decide) ?_
    refine lv_aload_n hx hb dX16_registerWord_205 rfl (lv_at hl 3 rfl) ?_
    refine lv_iload_n hx hb dX16_registerWord_206 rfl (lv_at hl 2 rfl) ?_
    refine lv_lload_n hx hb dX16_registerWord_207 rfl (lv_at hl 1 rfl) ?_
    refine lv_lload hx hb dX16_registerWord_208 (lv_at hl 0 rfl) ?_
    refine W.lcmp hx hb dX16_registerWord_210 ?_
    refine lv_topi (fun z210_1 ez210_1 => ?_)
    have b219 : ∀ (j219_s0 : Int64) (H : Heap) (locs : List Loc) (ls : Array Slot), (rl j219_s0 0 1) → lv_has ls 7 [] → va_P D vwCl [(mm, .inr (16, fs_mm)), (ureg, .inl (ct 2, 32, .inr (.inl g_ureg)))] H → va_D A [(mm, .inr (16, fs_mm)), (ureg, .inl (ct 2, 32, .inr (.inl g_ureg)))] → va_S A s.heap H locs → W p l e ({ frames := 3, cells := 0, slots := 0, locals := 66 }) s m [.ref mm, .int v0].toArray below meth c H locs 0 0 Q (F0 m 219 ls [.long j219_s0, .int z6_1, .ref mm]) := by
      intro j219_s0 H locs ls r219_1001 hl hP hD hS
      refine go_v (k1 := 0) (n1 := 0) (wr := []) [0, 1] [] (rn_V (As := [.int z6_1, .long j219_s0]) (rest := []) (c_X16_set l D ct mm z6_1 j219_s0 fs_mm ureg g_ureg r6_2 hlen_mm hf_mm_33 _) (cb_of (n := 2) hn mw_2674 mw_13 mw_2671 mhX16_set ⟨(Nat.le_of_ble_eq_true rfl), (Nat.le_of_ble_eq_true rfl)⟩) hx hb hml hown hn hK hSK hZ hS mw_2673 mw_s276 (ci := 16) (q0 := 0) rfl rfl rfl rfl hl.1 (Nat.le_of_ble_eq_true rfl) dX16_registerWord_219 ⟨(Nat.le_of_ble_eq_true rfl), (Nat.le_of_ble_eq_true rfl)⟩) hP hD hS hA rfl rfl (by decide) (by decide) (by decide) (Nat.le_of_ble_eq_true rfl) (Nat.le_of_ble_eq_true rfl) (fun u219_2 H locs hp219_3 hP hD hS => ?_)
      have hP : va_P D vwCl [(mm, .inr (16, fs_mm)), (ureg, .inl (ct 2, 32, .inr (.inl u219_2)))] _ := hP
      have hD : va_D A [(mm, .inr (16, fs_mm)), (ureg, .inl (ct 2, 32, .inr (.inl u219_2)))] := hD
      refine lv_goto (tgt := 386) hx hb dX16_registerWord_222 (by decide) ?_
      exact endq_v hQ hx hb hr hlocks dX16_registerWord_386 (fs_mm, x_mm_76, u219_2) ⟨(SB.rf _ _), h_x_mm_76, hf_mm_76⟩ hP hD hS [0, 1] rfl (by decide) rfl (Nat.le_of_ble_eq_true rfl) (Nat.le_of_ble_eq_true rfl)
    refine lv_if_ge (tgt := 218) hx hb dX16_registerWord_211 (by decide) (fun c211_1 => ?_) (fun c211_1 => ?_)
    · have t211_2 := FF.mk (l_ge ez210_1 c211_1)
      refine lv_lconst (v := 0) hx hb dX16_registerWord_218 (by decide) ?_
      exact b219 (0 : Int64) H locs ls (rl_w (show rl (0 : Int64) 0 0 from rl_l (by decide)) (by decide)) (lv_sub hl [] rfl) hP hD hS
    · have t211_2 := FF.mk (l_nge ez210_1 c211_1)
      have r211_3 : rl z19_2 (-9223372036854775808) 9223372036854775806 := rl_ltA t211_2 (rl_any z19_2) (rl_any z32_2) (by decide)
      have r211_4 : rl z32_2 (-9223372036854775807) 9223372036854775807 := rl_ltB t211_2 (rl_any z19_2) (rl_any z32_2) (by decide)
      refine lv_lconst (v := 1) hx hb dX16_registerWord_214 (by decide) ?_
      refine lv_goto (tgt := 219) hx hb dX16_registerWord_215 (by decide) ?_
      exact b219 (1 : Int64) H locs ls (rl_w (show rl (1 : Int64) 1 1 from rl_l (by decide)) (by decide)) (lv_sub hl [] rfl) hP hD hS
  by_cases h49_131 : z48_1.toInt = 3
  · have r49_132 : rg z48_1 3 3 := rg_at h49_131
    refine lv_lookup (off := 176) (tgt := 225) hx hb dX16_registerWord_49 (by decide) (by rw [h49_131]; rfl) (by decide) ?_
    refine lv_aload_n hx hb dX16_registerWord_225 rfl (lv_at hl 3 rfl) ?_
    refine lv_iload_n hx hb dX16_registerWord_226 rfl (lv_at hl 2 rfl) ?_
    refine lv_lload_n hx hb dX16_registerWord_227 rfl (lv_at hl 1 rfl) ?_
    refine lv_lload hx hb dX16_registerWord_228 (lv_at hl 0 rfl) ?_
    refine go_i (k1 := 0) (n1 := 0) (wr := [(mm, .inr (16, fs_mm)), (ureg, .inl (ct 2, 32, .inr (.inl g_ureg)))]) [] [0, 1] (rn_S (As := [.long z19_2, .long z32_2]) (rest := [.int z6_1, .ref mm]) (c_JL_compareUnsigned l D ct z19_2 z32_2  _) (cb_of (n := 2) hn mw_2370 mw_25 mw_2368 mhJL_compareUnsigned ⟨(Nat.le_of_ble_eq_true rfl), (Nat.le_of_ble_eq_true rfl)⟩) hx hb hml hown hn hK hSK hZ hS mw_2369 rfl hl.1 (Nat.le_of_ble_eq_true rfl) dX16_registerWord_230 ⟨(Nat.le_of_ble_eq_true rfl), (Nat.le_of_ble_eq_true rfl)⟩) hP hD hS hA rfl rfl (by decide) (by decide) (by decide) (Nat.le_of_ble_eq_true rfl) (Nat.le_of_ble_eq_true rfl) (fun r230_1 u230_2 H locs hp230_3 hP hD hS => ?_)
    have hp230_4 := hp230_3
    have hp230_4 : rg r230_1 (-1) 1 := hp230_4
    have hP : va_P D vwCl [(mm, .inr (16, fs_mm)), (ureg, .inl (ct 2, 32, .inr (.inl g_ureg)))] _ := hP
    have hD : va_D A [(mm, .inr (16, fs_mm)), (ureg, .inl (ct 2, 32, .inr (.inl g_ureg)))] := hD
    have b241 : ∀ (j241_s0 : Int64) (H : Heap) (locs : List Loc) (ls : Array Slot), (rl j241_s0 0 1) → lv_has ls 7 [] → va_P D vwCl [(mm, .inr (16, fs_mm)), (ureg, .inl (ct 2, 32, .inr (.inl g_ureg)))] H → va_D A [(mm, .inr (16, fs_mm)), (ureg, .inl (ct 2, 32, .inr (.inl g_ureg)))] → va_S A s.heap H locs → W p l e ({ frames := 3, cells := 0, slots := 0, locals := 66 }) s m [.ref mm, .int v0].toArray below meth c H locs 0 0 Q (F0 m 241 ls [.long j241_s0, .int z6_1, .ref mm]) := by
      intro j241_s0 H locs ls r241_1001 hl hP hD hS
      refine go_v (k1 := 0) (n1 := 0) (wr := []) [0, 1] [] (rn_V (As := [.int z6_1, .long j241_s0]) (rest := []) (c_X16_set l D ct mm z6_1 j241_s0 fs_mm ureg g_ureg r6_2 hlen_mm hf_mm_33 _) (cb_of (n := 2) hn mw_2674 mw_13 mw_2671 mhX16_set ⟨(Nat.le_of_ble_eq_true rfl), (Nat.le_of_ble_eq_true rfl)⟩) hx hb hml hown hn hK hSK hZ hS mw_2673 mw_s276 (ci := 16) (q0 := 0) rfl rfl rfl rfl hl.1 (Nat.le_of_ble_eq_true rfl) dX16_registerWord_241 ⟨(Nat.le_of_ble_eq_true rfl), (Nat.le_of_ble_eq_true rfl)⟩) hP hD hS hA rfl rfl (by decide) (by decide) (by decide) (Nat.le_of_ble_eq_true rfl) (Nat.le_of_ble_eq_true rfl) (fun u241_2 H locs hp241_3 hP hD hS => ?_)
      have hP : va_P D vwCl [(mm, .inr (16, fs_mm)), (ureg, .inl (ct 2, 32, .inr (.inl u241_2)))] _ := hP
      have hD : va_D A [(mm, .inr (16, fs_mm)), (ureg, .inl (ct 2, 32, .inr (.inl u241_2)))] := hD
      refine lv_goto (tgt := 386) hx hb dX16_registerWord_244 (by decide) ?_
      exact endq_v hQ hx hb hr hlocks dX16_registerWord_386 (fs_mm, x_mm_76, u241_2) ⟨(SB.rf _ _), h_x_mm_76, hf_mm_76⟩ hP hD hS [0, 1] rfl (by decide) rfl (Nat.le_of_ble_eq_true rfl) (Nat.le_of_ble_eq_true rfl)
    refine lv_if_ge (tgt := 240) hx hb dX16_registerWord_233 (by decide) (fun c233_1 => ?_) (fun c233_1 => ?_)
    · have t233_2 := FF.mk (i_le c233_1)
      have r233_3 : rg r230_1 0 1 := rg_leB t233_2 (show rg (0 : Int32) 0 0 from rg_l (by decide)) hp230_4 (by decide)
      refine lv_lconst (v := 0) hx hb dX16_registerWord_240 (by decide) ?_
      exact b241 (0 : Int64) H locs ls (rl_w (show rl (0 : Int64) 0 0 from rl_l (by decide)) (by decide)) (lv_sub hl [] rfl) hP hD hS
    · have t233_2 := FF.mk (i_nle c233_1)
      have r233_3 : rg r230_1 (-1) (-1) := rg_ltA t233_2 hp230_4 (show rg (0 : Int32) 0 0 from rg_l (by decide)) (by decide)
      refine lv_lconst (v := 1) hx hb dX16_registerWord_236 (by decide) ?_
      refine lv_goto (tgt := 241) hx hb dX16_registerWord_237 (by decide) ?_
      exact b241 (1 : Int64) H locs ls (rl_w (show rl (1 : Int64) 1 1 from rl_l (by decide)) (by decide)) (lv_sub hl [] rfl) hP hD hS
  by_cases h49_141 : z48_1.toInt = 4
  · have r49_142 : rg z48_1 4 4 := rg_at h49_141
    refine lv_lookup (off := 198) (tgt := 247) hx hb dX16_registerWord_49 (by decide) (by rw [h49_141]; rfl) (by decide) ?_
    refine lv_aload_n hx hb dX16_registerWord_247 rfl (lv_at hl 3 rfl) ?_
    refine lv_iload_n hx hb dX16_registerWord_248 rfl (lv_at hl 2 rfl) ?_
    refine lv_lload_n hx hb dX16_registerWord_249 rfl (lv_at hl 1 rfl) ?_
    refine lv_lload hx hb dX16_registerWord_250 (lv_at hl 0 rfl) ?_
    refine lv_lxor hx hb dX16_registerWord_252 ?_
    refine lv_topl (fun z252_1 ez252_1 => ?_)
    refine go_v (k1 := 0) (n1 := 0) (wr := []) [0, 1] [] (rn_V (As := [.int z6_1, .long z252_1]) (rest := []) (c_X16_set l D ct mm z6_1 z252_1 fs_mm ureg g_ureg r6_2 hlen_mm hf_mm_33 _) (cb_of (n := 2) hn mw_2674 mw_13 mw_2671 mhX16_set ⟨(Nat.le_of_ble_eq_true rfl), (Nat.le_of_ble_eq_true rfl)⟩) hx hb hml hown hn hK hSK hZ hS mw_2673 mw_s276 (ci := 16) (q0 := 0) rfl rfl rfl rfl hl.1 (Nat.le_of_ble_eq_true rfl) dX16_registerWord_253 ⟨(Nat.le_of_ble_eq_true rfl), (Nat.le_of_ble_eq_true rfl)⟩) hP hD hS hA rfl rfl (by decide) (by decide) (by decide) (Nat.le_of_ble_eq_true rfl) (Nat.le_of_ble_eq_true rfl) (fun u253_2 H locs hp253_3 hP hD hS => ?_)
    have hP : va_P D vwCl [(mm, .inr (16, fs_mm)), (ureg, .inl (ct 2, 32, .inr (.inl u253_2)))] _ := hP
    have hD : va_D A [(mm, .inr (16, fs_mm)), (ureg, .inl (ct 2, 32, .inr (.inl u253_2)))] := hD
    refine lv_goto (tgt := 386) hx hb dX16_registerWord_256 (by decide) ?_
    exact endq_v hQ hx hb hr hlocks dX16_registerWord_386 (fs_mm, x_mm_76, u253_2) ⟨(SB.rf _ _), h_x_mm_76, hf_mm_76⟩ hP hD hS [0, 1] rfl (by decide) rfl (Nat.le_of_ble_eq_true rfl) (Nat.le_of_ble_eq_true rfl)
  by_cases h49_151 : z48_1.toInt = 5
  · have r49_152 : rg z48_1 5 5 := rg_at h49_151
    refine lv_lookup (off := 210) (tgt := 259) hx hb dX16_registerWord_49 (by decide) (by rw [h49_151]; rfl) (by decide) ?_
    refine lv_aload_n hx hb dX16_registerWord_259 rfl (lv_at hl 3 rfl) ?_
    refine lv_iload_n hx hb dX16_registerWord_260 rfl (lv_at hl 2 rfl) ?_
    refine lv_lload_n hx hb dX16_registerWord_261 rfl (lv_at hl 1 rfl) ?_
    refine lv_lload hx hb dX16_registerWord_262 (lv_at hl 0 rfl) ?_
    refine lv_ldc2 (v := 63) hx hb hown (hn.get mw_2361 rfl) dX16_registerWord_264 ?_
    refine lv_land hx hb dX16_registerWord_267 ?_
    refine lv_topl (fun z267_1 ez267_1 => ?_)
    have r267_2 : rl z267_1 0 63 := rgL_andr ez267_1 (show rl (63 : Int64) 63 63 from rl_l (by decide)) (by decide)
    refine lv_l2i hx hb dX16_registerWord_268 rfl ?_
    refine lv_topi (fun z268_1 ez268_1 => ?_)
    have r268_2 : rg z268_1 0 63 := rg_l2i ez268_1 r267_2 (by decide)
    refine lv_lushr hx hb dX16_registerWord_269 rfl ?_
    refine lv_topl (fun z269_1 ez269_1 => ?_)
    refine go_v (k1 := 0) (n1 := 0) (wr := []) [0, 1] [] (rn_V (As := [.int z6_1, .long z269_1]) (rest := []) (c_X16_set l D ct mm z6_1 z269_1 fs_mm ureg g_ureg r6_2 hlen_mm hf_mm_33 _) (cb_of (n := 2) hn mw_2674 mw_13 mw_2671 mhX16_set ⟨(Nat.le_of_ble_eq_true rfl), (Nat.le_of_ble_eq_true rfl)⟩) hx hb hml hown hn hK hSK hZ hS mw_2673 mw_s276 (ci := 16) (q0 := 0) rfl rfl rfl rfl hl.1 (Nat.le_of_ble_eq_true rfl) dX16_registerWord_270 ⟨(Nat.le_of_ble_eq_true rfl), (Nat.le_of_ble_eq_true rfl)⟩) hP hD hS hA rfl rfl (by decide) (by decide) (by decide) (Nat.le_of_ble_eq_true rfl) (Nat.le_of_ble_eq_true rfl) (fun u270_2 H locs hp270_3 hP hD hS => ?_)
    have hP : va_P D vwCl [(mm, .inr (16, fs_mm)), (ureg, .inl (ct 2, 32, .inr (.inl u270_2)))] _ := hP
    have hD : va_D A [(mm, .inr (16, fs_mm)), (ureg, .inl (ct 2, 32, .inr (.inl u270_2)))] := hD
    refine lv_goto (tgt := 386) hx hb dX16_registerWord_273 (by decide) ?_
    exact endq_v hQ hx hb hr hlocks dX16_registerWord_386 (fs_mm, x_mm_76, u270_2) ⟨(SB.rf _ _), h_x_mm_76, hf_mm_76⟩ hP hD hS [0, 1] rfl (by decide) rfl (Nat.le_of_ble_eq_true rfl) (Nat.le_of_ble_eq_true rfl)
  by_cases h49_161 : z48_1.toInt = 6
  · have r49_162 : rg z48_1 6 6 := rg_at h49_161
    refine lv_lookup (off := 244) (tgt := 293) hx hb dX16_registerWord_49 (by decide) (by rw [h49_161]; rfl) (by decide) ?_
    refine lv_aload_n hx hb dX16_registerWord_293 rfl (lv_at hl 3 rfl) ?_
    refine lv_iload_n hx hb dX16_registerWord_294 rfl (lv_at hl 2 rfl) ?_
    refine lv_lload_n hx hb dX16_registerWord_295 rfl (lv_at hl 1 rfl) ?_
    refine lv_lload hx hb dX16_registerWord_296 (lv_at hl 0 rfl) ?_
    refine lv_lor hx hb dX16_registerWord_298 ?_
    refine lv_topl (fun z298_1 ez298_1 => ?_)
    refine go_v (k1 := 0) (n1 := 0) (wr := []) [0, 1] [] (rn_V (As := [.int z6_1, .long z298_1]) (rest := []) (c_X16_set l D ct mm z6_1 z298_1 fs_mm ureg g_ureg r6_2 hlen_mm hf_mm_33 _) (cb_of (n := 2) hn mw_2674 mw_13 mw_2671 mhX16_set ⟨(Nat.le_of_ble_eq_true rfl), (Nat.le_of_ble_eq_true rfl)⟩) hx hb hml hown hn hK hSK hZ hS mw_2673 mw_s276 (ci := 16) (q0 := 0) rfl rfl rfl rfl hl.1 (Nat.le_of_ble_eq_true rfl) dX16_registerWord_299 ⟨(Nat.le_of_ble_eq_true rfl), (Nat.le_of_ble_eq_true rfl)⟩) hP hD hS hA rfl rfl (by decide) (by decide) (by decide) (Nat.le_of_ble_eq_true rfl) (Nat.le_of_ble_eq_true rfl) (fun u299_2 H locs hp299_3 hP hD hS => ?_)
    have hP : va_P D vwCl [(mm, .inr (16, fs_mm)), (ureg, .inl (ct 2, 32, .inr (.inl u299_2)))] _ := hP
    have hD : va_D A [(mm, .inr (16, fs_mm)), (ureg, .inl (ct 2, 32, .inr (.inl u299_2)))] := hD
    refine lv_goto (tgt := 386) hx hb dX16_registerWord_302 (by decide) ?_
    exact endq_v hQ hx hb hr hlocks dX16_registerWord_386 (fs_mm, x_mm_76, u299_2) ⟨(SB.rf _ _), h_x_mm_76, hf_mm_76⟩ hP hD hS [0, 1] rfl (by decide) rfl (Nat.le_of_ble_eq_true rfl) (Nat.le_of_ble_eq_true rfl)
  by_cases h49_171 : z48_1.toInt = 7
  · have r49_172 : rg z48_1 7 7 := rg_at h49_171
    refine lv_lookup (off := 256) (tgt := 305) hx hb dX16_registerWord_49 (by decide) (by rw [h49_171]; rfl) (by decide) ?_
    refine lv_aload_n hx hb dX16_registerWord_305 rfl (lv_at hl 3 rfl) ?_
    refine lv_iload_n hx hb dX16_registerWord_306 rfl (lv_at hl 2 rfl) ?_
    refine lv_lload_n hx hb dX16_registerWord_307 rfl (lv_at hl 1 rfl) ?_
    refine lv_lload hx hb dX16_registerWord_308 (lv_at hl 0 rfl) ?_
    refine lv_land hx hb dX16_registerWord_310 ?_
    refine lv_topl (fun z310_1 ez310_1 => ?_)
    refine go_v (k1 := 0) (n1 := 0) (wr := []) [0, 1] [] (rn_V (As := [.int z6_1, .long z310_1]) (rest := []) (c_X16_set l D ct mm z6_1 z310_1 fs_mm ureg g_ureg r6_2 hlen_mm hf_mm_33 _) (cb_of (n := 2) hn mw_2674 mw_13 mw_2671 mhX16_set ⟨(Nat.le_of_ble_eq_true rfl), (Nat.le_of_ble_eq_true rfl)⟩) hx hb hml hown hn hK hSK hZ hS mw_2673 mw_s276 (ci := 16) (q0 := 0) rfl rfl rfl rfl hl.1 (Nat.le_of_ble_eq_true rfl) dX16_registerWord_311 ⟨(Nat.le_of_ble_eq_true rfl), (Nat.le_of_ble_eq_true rfl)⟩) hP hD hS hA rfl rfl (by decide) (by decide) (by decide) (Nat.le_of_ble_eq_true rfl) (Nat.le_of_ble_eq_true rfl) (fun u311_2 H locs hp311_3 hP hD hS => ?_)
    have hP : va_P D vwCl [(mm, .inr (16, fs_mm)), (ureg, .inl (ct 2, 32, .inr (.inl u311_2)))] _ := hP
    have hD : va_D A [(mm, .inr (16, fs_mm)), (ureg, .inl (ct 2, 32, .inr (.inl u311_2)))] := hD
    refine lv_goto (tgt := 386) hx hb dX16_registerWord_314 (by decide) ?_
    exact endq_v hQ hx hb hr hlocks dX16_registerWord_386 (fs_mm, x_mm_76, u311_2) ⟨(SB.rf _ _), h_x_mm_76, hf_mm_76⟩ hP hD hS [0, 1] rfl (by decide) rfl (Nat.le_of_ble_eq_true rfl) (Nat.le_of_ble_eq_true rfl)
  by_cases h49_181 : z48_1.toInt = 8
  · have r49_182 : rg z48_1 8 8 := rg_at h49_181
    refine lv_lookup (off := 268) (tgt := 317) hx hb dX16_registerWord_49 (by decide) (by rw [h49_181]; rfl) (by decide) ?_
    refine lv_aload_n hx hb dX16_registerWord_317 rfl (lv_at hl 3 rfl) ?_
    refine lv_iload_n hx hb dX16_registerWord_318 rfl (lv_at hl 2 rfl) ?_
    refine lv_lload_n hx hb dX16_registerWord_319 rfl (lv_at hl 1 rfl) ?_
    refine lv_lload hx hb dX16_registerWord_320 (lv_at hl 0 rfl) ?_
    refine lv_lmul hx hb dX16_registerWord_322 ?_
    refine lv_topl (fun z322_1 ez322_1 => ?_)
    refine go_v (k1 := 0) (n1 := 0) (wr := []) [0, 1] [] (rn_V (As := [.int z6_1, .long z322_1]) (rest := []) (c_X16_set l D ct mm z6_1 z322_1 fs_mm ureg g_ureg r6_2 hlen_mm hf_mm_33 _) (cb_of (n := 2) hn mw_2674 mw_13 mw_2671 mhX16_set ⟨(Nat.le_of_ble_eq_true rfl), (Nat.le_of_ble_eq_true rfl)⟩) hx hb hml hown hn hK hSK hZ hS mw_2673 mw_s276 (ci := 16) (q0 := 0) rfl rfl rfl rfl hl.1 (Nat.le_of_ble_eq_true rfl) dX16_registerWord_323 ⟨(Nat.le_of_ble_eq_true rfl), (Nat.le_of_ble_eq_true rfl)⟩) hP hD hS hA rfl rfl (by decide) (by decide) (by decide) (Nat.le_of_ble_eq_true rfl) (Nat.le_of_ble_eq_true rfl) (fun u323_2 H locs hp323_3 hP hD hS => ?_)
    have hP : va_P D vwCl [(mm, .inr (16, fs_mm)), (ureg, .inl (ct 2, 32, .inr (.inl u323_2)))] _ := hP
    have hD : va_D A [(mm, .inr (16, fs_mm)), (ureg, .inl (ct 2, 32, .inr (.inl u323_2)))] := hD
    refine lv_goto (tgt := 386) hx hb dX16_registerWord_326 (by decide) ?_
    exact endq_v hQ hx hb hr hlocks dX16_registerWord_386 (fs_mm, x_mm_76, u323_2) ⟨(SB.rf _ _), h_x_mm_76, hf_mm_76⟩ hP hD hS [0, 1] rfl (by decide) rfl (Nat.le_of_ble_eq_true rfl) (Nat.le_of_ble_eq_true rfl)
  by_cases h49_191 : z48_1.toInt = 13
  · have r49_192 : rg z48_1 13 13 := rg_at h49_191
    refine lv_lookup (off := 280) (tgt := 329) hx hb dX16_registerWord_49 (by decide) (by rw [h49_191]; rfl) (by decide) ?_
    refine lv_aload_n hx hb dX16_registerWord_329 rfl (lv_at hl 3 rfl) ?_
    refine lv_iload_n hx hb dX16_registerWord_330 rfl (lv_at hl 2 rfl) ?_
    refine lv_lload hx hb dX16_registerWord_331 (lv_at hl 0 rfl) ?_
    refine lv_lconst (v := 0) hx hb dX16_registerWord_333 (by decide) ?_
    refine W.lcmp hx hb dX16_registerWord_334 ?_
    refine lv_topi (fun z334_1 ez334_1 => ?_)
    have b350 : ∀ (j350_s0 : Int64) (H : Heap) (locs : List Loc) (ls : Array Slot), lv_has ls 7 [] → va_P D vwCl [(mm, .inr (16, fs_mm)), (ureg, .inl (ct 2, 32, .inr (.inl g_ureg)))] H → va_D A [(mm, .inr (16, fs_mm)), (ureg, .inl (ct 2, 32, .inr (.inl g_ureg)))] → va_S A s.heap H locs → W p l e ({ frames := 3, cells := 0, slots := 0, locals := 66 }) s m [.ref mm, .int v0].toArray below meth c H locs 0 0 Q (F0 m 350 ls [.long j350_s0, .int z6_1, .ref mm]) := by
      intro j350_s0 H locs ls  hl hP hD hS
      refine go_v (k1 := 0) (n1 := 0) (wr := []) [0, 1] [] (rn_V (As := [.int z6_1, .long j350_s0]) (rest := []) (c_X16_set l D ct mm z6_1 j350_s0 fs_mm ureg g_ureg r6_2 hlen_mm hf_mm_33 _) (cb_of (n := 2) hn mw_2674 mw_13 mw_2671 mhX16_set ⟨(Nat.le_of_ble_eq_true rfl), (Nat.le_of_ble_eq_true rfl)⟩) hx hb hml hown hn hK hSK hZ hS mw_2673 mw_s276 (ci := 16) (q0 := 0) rfl rfl rfl rfl hl.1 (Nat.le_of_ble_eq_true rfl) dX16_registerWord_350 ⟨(Nat.le_of_ble_eq_true rfl), (Nat.le_of_ble_eq_true rfl)⟩) hP hD hS hA rfl rfl (by decide) (by decide) (by decide) (Nat.le_of_ble_eq_true rfl) (Nat.le_of_ble_eq_true rfl) (fun u350_2 H locs hp350_3 hP hD hS => ?_)
      have hP : va_P D vwCl [(mm, .inr (16, fs_mm)), (ureg, .inl (ct 2, 32, .inr (.inl u350_2)))] _ := hP
      have hD : va_D A [(mm, .inr (16, fs_mm)), (ureg, .inl (ct 2, 32, .inr (.inl u350_2)))] := hD
      refine lv_goto (tgt := 386) hx hb dX16_registerWord_353 (by decide) ?_
      exact endq_v hQ hx hb hr hlocks dX16_registerWord_386 (fs_mm, x_mm_76, u350_2) ⟨(SB.rf _ _), h_x_mm_76, hf_mm_76⟩ hP hD hS [0, 1] rfl (by decide) rfl (Nat.le_of_ble_eq_true rfl) (Nat.le_of_ble_eq_true rfl)
    refine lv_if_ne (tgt := 344) hx hb dX16_registerWord_335 (by decide) (fun c335_1 => ?_) (fun c335_1 => ?_)
    · have t335_2 := FF.mk (l_ne ez334_1 c335_1)
      refine lv_lload_n hx hb dX16_registerWord_344 rfl (lv_at hl 1 rfl) ?_
      refine lv_lload hx hb dX16_registerWord_345 (lv_at hl 0 rfl) ?_
      refine go_l (k1 := 0) (n1 := 0) (wr := [(mm, .inr (16, fs_mm)), (ureg, .inl (ct 2, 32, .inr (.inl g_ureg)))]) [] [0, 1] (rn_S (As := [.long z19_2, .long z32_2]) (rest := [.int z6_1, .ref mm]) (c_JL_divideUnsigned l D ct z19_2 z32_2 (show z32_2.toInt ≠ 0 by have q0 := FF.out t335_2; have q1 := (show (0 : Int64).toInt = 0 from by decide); omega) _) (cb_of (n := 2) hn mw_2359 mw_25 mw_2357 mhJL_divideUnsigned ⟨(Nat.le_of_ble_eq_true rfl), (Nat.le_of_ble_eq_true rfl)⟩) hx hb hml hown hn hK hSK hZ hS mw_2358 rfl hl.1 (Nat.le_of_ble_eq_true rfl) dX16_registerWord_347 ⟨(Nat.le_of_ble_eq_true rfl), (Nat.le_of_ble_eq_true rfl)⟩) hP hD hS hA rfl rfl (by decide) (by decide) (by decide) (Nat.le_of_ble_eq_true rfl) (Nat.le_of_ble_eq_true rfl) (fun r347_1 u347_2 H locs hp347_3 hP hD hS => ?_)
      have hP : va_P D vwCl [(mm, .inr (16, fs_mm)), (ureg, .inl (ct 2, 32, .inr (.inl g_ureg)))] _ := hP
      have hD : va_D A [(mm, .inr (16, fs_mm)), (ureg, .inl (ct 2, 32, .inr (.inl g_ureg)))] := hD
      exact b350 r347_1 H locs ls  (lv_sub hl [] rfl) hP hD hS
    · have t335_2 := FF.mk (l_eq ez334_1 c335_1)
      have r335_3 : rl z32_2 0 0 := rl_eqA t335_2 (rl_any z32_2) (show rl (0 : Int64) 0 0 from rl_l (by decide)) (by decide)
      refine lv_ldc2 (v := (-1)) hx hb hown (hn.get mw_1798 rfl) dX16_registerWord_338 ?_
      refine lv_goto (tgt := 350) hx hb dX16_registerWord_341 (by decide) ?_
      exact b350 ((-1) : Int64) H locs ls  (lv_sub hl [] rfl) hP hD hS
  by_cases h49_201 : z48_1.toInt = 15
  · have r49_202 : rg z48_1 15 15 := rg_at h49_201
    refine lv_lookup (off := 307) (tgt := 356) hx hb dX16_registerWord_49 (by decide) (by rw [h49_201]; rfl) (by decide) ?_
    refine lv_aload_n hx hb dX16_registerWord_356 rfl (lv_at hl 3 rfl) ?_
    refine lv_iload_n hx hb dX16_registerWord_357 rfl (lv_at hl 2 rfl) ?_
    refine lv_lload hx hb dX16_registerWord_358 (lv_at hl 0 rfl) ?_
    refine lv_lconst (v := 0) hx hb dX16_registerWord_360 (by decide) ?_
    refine W.lcmp hx hb dX16_registerWord_361 ?_
    refine lv_topi (fun z361_1 ez361_1 => ?_)
    have b375 : ∀ (j375_s0 : Int64) (H : Heap) (locs : List Loc) (ls : Array Slot), lv_has ls 7 [] → va_P D vwCl [(mm, .inr (16, fs_mm)), (ureg, .inl (ct 2, 32, .inr (.inl g_ureg)))] H → va_D A [(mm, .inr (16, fs_mm)), (ureg, .inl (ct 2, 32, .inr (.inl g_ureg)))] → va_S A s.heap H locs → W p l e ({ frames := 3, cells := 0, slots := 0, locals := 66 }) s m [.ref mm, .int v0].toArray below meth c H locs 0 0 Q (F0 m 375 ls [.long j375_s0, .int z6_1, .ref mm]) := by
      intro j375_s0 H locs ls  hl hP hD hS
      refine go_v (k1 := 0) (n1 := 0) (wr := []) [0, 1] [] (rn_V (As := [.int z6_1, .long j375_s0]) (rest := []) (c_X16_set l D ct mm z6_1 j375_s0 fs_mm ureg g_ureg r6_2 hlen_mm hf_mm_33 _) (cb_of (n := 2) hn mw_2674 mw_13 mw_2671 mhX16_set ⟨(Nat.le_of_ble_eq_true rfl), (Nat.le_of_ble_eq_true rfl)⟩) hx hb hml hown hn hK hSK hZ hS mw_2673 mw_s276 (ci := 16) (q0 := 0) rfl rfl rfl rfl hl.1 (Nat.le_of_ble_eq_true rfl) dX16_registerWord_375 ⟨(Nat.le_of_ble_eq_true rfl), (Nat.le_of_ble_eq_true rfl)⟩) hP hD hS hA rfl rfl (by decide) (by decide) (by decide) (Nat.le_of_ble_eq_true rfl) (Nat.le_of_ble_eq_true rfl) (fun u375_2 H locs hp375_3 hP hD hS => ?_)
      have hP : va_P D vwCl [(mm, .inr (16, fs_mm)), (ureg, .inl (ct 2, 32, .inr (.inl u375_2)))] _ := hP
      have hD : va_D A [(mm, .inr (16, fs_mm)), (ureg, .inl (ct 2, 32, .inr (.inl u375_2)))] := hD
      refine lv_goto (tgt := 386) hx hb dX16_registerWord_378 (by decide) ?_
      exact endq_v hQ hx hb hr hlocks dX16_registerWord_386 (fs_mm, x_mm_76, u375_2) ⟨(SB.rf _ _), h_x_mm_76, hf_mm_76⟩ hP hD hS [0, 1] rfl (by decide) rfl (Nat.le_of_ble_eq_true rfl) (Nat.le_of_ble_eq_true rfl)
    refine lv_if_ne (tgt := 369) hx hb dX16_registerWord_362 (by decide) (fun c362_1 => ?_) (fun c362_1 => ?_)
    · have t362_2 := FF.mk (l_ne ez361_1 c362_1)
      refine lv_lload_n hx hb dX16_registerWord_369 rfl (lv_at hl 1 rfl) ?_
      refine lv_lload hx hb dX16_registerWord_370 (lv_at hl 0 rfl) ?_
      refine go_l (k1 := 0) (n1 := 0) (wr := [(mm, .inr (16, fs_mm)), (ureg, .inl (ct 2, 32, .inr (.inl g_ureg)))]) [] [0, 1] (rn_S (As := [.long z19_2, .long z32_2]) (rest := [.int z6_1, .ref mm]) (c_JL_remainderUnsigned l D ct z19_2 z32_2 (show z32_2.toInt ≠ 0 by have q0 := FF.out t362_2; have q1 := (show (0 : Int64).toInt = 0 from by decide); omega) _) (cb_of (n := 2) hn mw_2364 mw_25 mw_2362 mhJL_remainderUnsigned ⟨(Nat.le_of_ble_eq_true rfl), (Nat.le_of_ble_eq_true rfl)⟩) hx hb hml hown hn hK hSK hZ hS mw_2363 rfl hl.1 (Nat.le_of_ble_eq_true rfl) dX16_registerWord_372 ⟨(Nat.le_of_ble_eq_true rfl), (Nat.le_of_ble_eq_true rfl)⟩) hP hD hS hA rfl rfl (by decide) (by decide) (by decide) (Nat.le_of_ble_eq_true rfl) (Nat.le_of_ble_eq_true rfl) (fun r372_1 u372_2 H locs hp372_3 hP hD hS => ?_)
      have hP : va_P D vwCl [(mm, .inr (16, fs_mm)), (ureg, .inl (ct 2, 32, .inr (.inl g_ureg)))] _ := hP
      have hD : va_D A [(mm, .inr (16, fs_mm)), (ureg, .inl (ct 2, 32, .inr (.inl g_ureg)))] := hD
      exact b375 r372_1 H locs ls  (lv_sub hl [] rfl) hP hD hS
    · have t362_2 := FF.mk (l_eq ez361_1 c362_1)
      have r362_3 : rl z32_2 0 0 := rl_eqA t362_2 (rl_any z32_2) (show rl (0 : Int64) 0 0 from rl_l (by decide)) (by decide)
      refine lv_lload_n hx hb dX16_registerWord_365 rfl (lv_at hl 1 rfl) ?_
      refine lv_goto (tgt := 375) hx hb dX16_registerWord_366 (by decide) ?_
      exact b375 z19_2 H locs ls  (lv_sub hl [] rfl) hP hD hS
  by_cases h49_211 : z48_1.toInt = 256
  · have r49_212 : rg z48_1 256 256 := rg_at h49_211
    refine lv_lookup (off := 127) (tgt := 176) hx hb dX16_registerWord_49 (by decide) (by rw [h49_211]; rfl) (by decide) ?_
    refine lv_aload_n hx hb dX16_registerWord_176 rfl (lv_at hl 3 rfl) ?_
    refine lv_iload_n hx hb dX16_registerWord_177 rfl (lv_at hl 2 rfl) ?_
    refine lv_lload_n hx hb dX16_registerWord_178 rfl (lv_at hl 1 rfl) ?_
    refine lv_lload hx hb dX16_registerWord_179 (lv_at hl 0 rfl) ?_
    refine lv_lsub hx hb dX16_registerWord_181 ?_
    refine lv_topl (fun z181_1 ez181_1 => ?_)
    refine go_v (k1 := 0) (n1 := 0) (wr := []) [0, 1] [] (rn_V (As := [.int z6_1, .long z181_1]) (rest := []) (c_X16_set l D ct mm z6_1 z181_1 fs_mm ureg g_ureg r6_2 hlen_mm hf_mm_33 _) (cb_of (n := 2) hn mw_2674 mw_13 mw_2671 mhX16_set ⟨(Nat.le_of_ble_eq_true rfl), (Nat.le_of_ble_eq_true rfl)⟩) hx hb hml hown hn hK hSK hZ hS mw_2673 mw_s276 (ci := 16) (q0 := 0) rfl rfl rfl rfl hl.1 (Nat.le_of_ble_eq_true rfl) dX16_registerWord_182 ⟨(Nat.le_of_ble_eq_true rfl), (Nat.le_of_ble_eq_true rfl)⟩) hP hD hS hA rfl rfl (by decide) (by decide) (by decide) (Nat.le_of_ble_eq_true rfl) (Nat.le_of_ble_eq_true rfl) (fun u182_2 H locs hp182_3 hP hD hS => ?_)
    have hP : va_P D vwCl [(mm, .inr (16, fs_mm)), (ureg, .inl (ct 2, 32, .inr (.inl u182_2)))] _ := hP
    have hD : va_D A [(mm, .inr (16, fs_mm)), (ureg, .inl (ct 2, 32, .inr (.inl u182_2)))] := hD
    refine lv_goto (tgt := 386) hx hb dX16_registerWord_185 (by decide) ?_
    exact endq_v hQ hx hb hr hlocks dX16_registerWord_386 (fs_mm, x_mm_76, u182_2) ⟨(SB.rf _ _), h_x_mm_76, hf_mm_76⟩ hP hD hS [0, 1] rfl (by decide) rfl (Nat.le_of_ble_eq_true rfl) (Nat.le_of_ble_eq_true rfl)
  by_cases h49_221 : z48_1.toInt = 261
  · have r49_222 : rg z48_1 261 261 := rg_at h49_221
    refine lv_lookup (off := 227) (tgt := 276) hx hb dX16_registerWord_49 (by decide) (by rw [h49_221]; rfl) (by decide) ?_
    refine lv_aload_n hx hb dX16_registerWord_276 rfl (lv_at hl 3 rfl) ?_
    refine lv_iload_n hx hb dX16_registerWord_277 rfl (lv_at hl 2 rfl) ?_
    refine lv_lload_n hx hb dX16_registerWord_278 rfl (lv_at hl 1 rfl) ?_
    refine lv_lload hx hb dX16_registerWord_279 (lv_at hl 0 rfl) ?_
    refine lv_ldc2 (v := 63) hx hb hown (hn.get mw_2361 rfl) dX16_registerWord_281 ?_
    refine lv_land hx hb dX16_registerWord_284 ?_
    refine lv_topl (fun z284_1 ez284_1 => ?_)
    have r284_2 : rl z284_1 0 63 := rgL_andr ez284_1 (show rl (63 : Int64) 63 63 from rl_l (by decide)) (by decide)
    refine lv_l2i hx hb dX16_registerWord_285 rfl ?_
    refine lv_topi (fun z285_1 ez285_1 => ?_)
    have r285_2 : rg z285_1 0 63 := rg_l2i ez285_1 r284_2 (by decide)
    refine lv_lshr hx hb dX16_registerWord_286 rfl ?_
    refine lv_topl (fun z286_1 ez286_1 => ?_)
    refine go_v (k1 := 0) (n1 := 0) (wr := []) [0, 1] [] (rn_V (As := [.int z6_1, .long z286_1]) (rest := []) (c_X16_set l D ct mm z6_1 z286_1 fs_mm ureg g_ureg r6_2 hlen_mm hf_mm_33 _) (cb_of (n := 2) hn mw_2674 mw_13 mw_2671 mhX16_set ⟨(Nat.le_of_ble_eq_true rfl), (Nat.le_of_ble_eq_true rfl)⟩) hx hb hml hown hn hK hSK hZ hS mw_2673 mw_s276 (ci := 16) (q0 := 0) rfl rfl rfl rfl hl.1 (Nat.le_of_ble_eq_true rfl) dX16_registerWord_287 ⟨(Nat.le_of_ble_eq_true rfl), (Nat.le_of_ble_eq_true rfl)⟩) hP hD hS hA rfl rfl (by decide) (by decide) (by decide) (Nat.le_of_ble_eq_true rfl) (Nat.le_of_ble_eq_true rfl) (fun u287_2 H locs hp287_3 hP hD hS => ?_)
    have hP : va_P D vwCl [(mm, .inr (16, fs_mm)), (ureg, .inl (ct 2, 32, .inr (.inl u287_2)))] _ := hP
    have hD : va_D A [(mm, .inr (16, fs_mm)), (ureg, .inl (ct 2, 32, .inr (.inl u287_2)))] := hD
    refine lv_goto (tgt := 386) hx hb dX16_registerWord_290 (by decide) ?_
    exact endq_v hQ hx hb hr hlocks dX16_registerWord_386 (fs_mm, x_mm_76, u287_2) ⟨(SB.rf _ _), h_x_mm_76, hf_mm_76⟩ hP hD hS [0, 1] rfl (by decide) rfl (Nat.le_of_ble_eq_true rfl) (Nat.le_of_ble_eq_true rfl)
  refine lv_lookup (off := 332) (tgt := 381) hx hb dX16_registerWord_49 (by decide) (by simp [Op.lookupswitch.offset, (show ¬ (0 : Int) = z48_1.toInt from fun q => h49_101 q.symm), (show ¬ (1 : Int) = z48_1.toInt from fun q => h49_111 q.symm), (show ¬ (2 : Int) = z48_1.toInt from fun q => h49_121 q.symm), (show ¬ (3 : Int) = z48_1.toInt from fun q => h49_131 q.symm), (show ¬ (4 : Int) = z48_1.toInt from fun q => h49_141 q.symm), (show ¬ (5 : Int) = z48_1.toInt from fun q => h49_151 q.symm), (show ¬ (6 : Int) = z48_1.toInt from fun q => h49_161 q.symm), (show ¬ (7 : Int) = z48_1.toInt from fun q => h49_171 q.symm), (show ¬ (8 : Int) = z48_1.toInt from fun q => h49_181 q.symm), (show ¬ (13 : Int) = z48_1.toInt from fun q => h49_191 q.symm), (show ¬ (15 : Int) = z48_1.toInt from fun q => h49_201 q.symm), (show ¬ (256 : Int) = z48_1.toInt from fun q => h49_211 q.symm), (show ¬ (261 : Int) = z48_1.toInt from fun q => h49_221 q.symm)]) (by decide) ?_
  have hl49_5001 := FF.mk h49_101
  have hl49_5002 := FF.mk h49_111
  have hl49_5003 := FF.mk h49_121
  have hl49_5004 := FF.mk h49_131
  have hl49_5005 := FF.mk h49_141
  have hl49_5006 := FF.mk h49_151
  have hl49_5007 := FF.mk h49_161
  have hl49_5008 := FF.mk h49_171
  have hl49_5009 := FF.mk h49_181
  have hl49_5010 := FF.mk h49_191
  have hl49_5011 := FF.mk h49_201
  have hl49_5012 := FF.mk h49_211
  have hl49_5013 := FF.mk h49_221
  refine lv_aload_n hx hb dX16_registerWord_381 rfl (lv_at hl 3 rfl) ?_
  refine lv_iconst (v := 1) hx hb dX16_registerWord_382 (by decide) ?_
  refine va_put (D := D) (ci := 16) (v := .int 1) (ty := .boolean) (C := RX16) (T := TX16) (N := 78) hx hb (htX16 hn) (fun _ h => h) tyX16 tyX16_ok nmX16 hown hK hP hD hS 0 rfl rfl 76 (by decide) (hn.get mw_1615 rfl) (fun _ h9 => h9) rfl (by decide +kernel) (by decide) rfl (by rw [hlen_mm]; decide) dX16_registerWord_383 (fun H locs hP hD hS => ?_)
  have hP : va_P D vwCl [(mm, .inr (16, (fs_mm.set 76 (.int 1)))), (ureg, .inl (ct 2, 32, .inr (.inl g_ureg)))] _ := hP
  have hD : va_D A [(mm, .inr (16, (fs_mm.set 76 (.int 1)))), (ureg, .inl (ct 2, 32, .inr (.inl g_ureg)))] := hD
  obtain ⟨m383_1, em383_1⟩ : ∃ z, z = (fs_mm.set 76 (.int 1)) := ⟨_, rfl⟩
  rw [← em383_1] at hP hD
  have hsm383_1 : SB fs_mm m383_1 [76] := by rw [em383_1]; exact SB.set (SB.rf _ _) (by decide)
  have hfm383_1_76 : m383_1[76]? = some (.int 1) := by rw [em383_1]; exact fs_eq (by rw [hlen_mm]; decide)
  have hP : va_P D vwCl [(mm, .inr (16, m383_1)), (ureg, .inl (ct 2, 32, .inr (.inl g_ureg)))] _ := hP
  have hD : va_D A [(mm, .inr (16, m383_1)), (ureg, .inl (ct 2, 32, .inr (.inl g_ureg)))] := hD
  exact endq_v hQ hx hb hr hlocks dX16_registerWord_386 (m383_1, (1 : Int32), g_ureg) ⟨hsm383_1, (rg_w (show rg (1 : Int32) 1 1 from rg_l (by decide)) (by decide)), hfm383_1_76⟩ hP hD hS [0, 1] rfl (by decide) rfl (Nat.le_of_ble_eq_true rfl) (Nat.le_of_ble_eq_true rfl)
set_option maxHeartbeats 2000000 in
theorem c_X16_registerWordShort (l : Launch) (D : va_G) (ct : Nat → ClassId) (mm : Nat) (v0 : Int32) (fs_mm : List Value) (ureg : Nat) (x_mm_76 : Int32) (g_ureg : Nat → Int64) (hlen_mm : fs_mm.length = 78) (hf_mm_33 : fs_mm[33]? = some (.ref ureg)) (h_x_mm_76 : rg x_mm_76 0 1) (hf_mm_76 : fs_mm[76]? = some (.int x_mm_76)) : KV (S := List Value × Int32 × (Nat → Int64)) l yX16_registerWordShort cX16_registerWordShort 5 none 3 61 D ct [.ref mm, .int v0] [(mm, .inr (16, fs_mm)), (ureg, .inl (ct 2, 32, .inr (.inl g_ureg)))] 0 0 (fun (u : List Value × Int32 × (Nat → Int64)) => match u with | (fs2_mm, y_mm_76, k_ureg) => SB fs_mm fs2_mm [76] ∧ rg y_mm_76 0 1 ∧ fs2_mm[76]? = some (.int y_mm_76)) (fun (u : List Value × Int32 × (Nat → Int64)) => match u with | (fs2_mm, y_mm_76, k_ureg) => [(mm, .inr (16, fs2_mm)), (ureg, .inl (ct 2, 32, .inr (.inl k_ureg)))]) := by
  refine KVq_of (by decide) (Nat.le_of_ble_eq_true rfl) (fun p e s m below meth c A Q C0 hA H locs hS hP hD hQ ls hl => ?_)
  obtain ⟨hx, hb, hr, hown, hin, hml, hlocks, hn, hK, hZ, hSK⟩ := C0
  have hl : lv_has ls 5 [(0, .ref mm), (1, .int v0)] := hl
  refine lv_iload_n hx hb dX16_registerWordShort_0 rfl (lv_at hl 1 rfl) ?_
  refine lv_bipush (v := 7) hx hb dX16_registerWordShort_1 (by decide) ?_
  refine lv_ishr hx hb dX16_registerWordShort_3 ?_
  refine lv_topi (fun z3_1 ez3_1 => ?_)
  have r3_2 : rg z3_1 (-16777216) 16777215 := rg_shr (k := 7) ez3_1 (by decide) (rg_any v0) (by decide)
  refine lv_bipush (v := 31) hx hb dX16_registerWordShort_4 (by decide) ?_
  refine lv_iand hx hb dX16_registerWordShort_6 ?_
  refine lv_topi (fun z6_1 ez6_1 => ?_)
  have r6_2 : rg z6_1 0 31 := rg_andr ez6_1 (show rg (31 : Int32) 31 31 from rg_l (by decide)) (by decide)
  refine lv_istore_n (lv' := [(2, .int z6_1), (0, .ref mm), (1, .int v0)]) hx hb dX16_registerWordShort_7 rfl hl (by decide) rfl (fun ls hl => ?_)
  refine lv_aload_n hx hb dX16_registerWordShort_8 rfl (lv_at hl 1 rfl) ?_
  refine va_get (D := D) (ci := 16) (v := .ref ureg) (C := RX16) (T := TX16) (N := 78) hx hb (htX16 hn) (fun _ h => h) hown hK hP 0 rfl rfl 33 (by decide) (hn.get mw_1572 rfl) (fun _ h9 => h9) hf_mm_33 dX16_registerWordShort_9 ?_
  refine lv_iload_n hx hb dX16_registerWordShort_12 rfl (lv_at hl 2 rfl) ?_
  refine lv_bipush (v := 15) hx hb dX16_registerWordShort_13 (by decide) ?_
  refine lv_ishr hx hb dX16_registerWordShort_15 ?_
  refine lv_topi (fun z15_1 ez15_1 => ?_)
  have r15_2 : rg z15_1 (-65536) 65535 := rg_shr (k := 15) ez15_1 (by decide) (rg_any v0) (by decide)
  refine lv_bipush (v := 31) hx hb dX16_registerWordShort_16 (by decide) ?_
  refine lv_iand hx hb dX16_registerWordShort_18 ?_
  refine lv_topi (fun z18_1 ez18_1 => ?_)
  have r18_2 : rg z18_1 0 31 := rg_andr ez18_1 (show rg (31 : Int32) 31 31 from rg_l (by decide)) (by decide)
  have hi19_1 : vp_in z18_1 32 := (in_rg r18_2 (by decide))
  refine va_lald hx hb hK hP 1 2 rfl rfl hi19_1 dX16_registerWordShort_19 ?_
  refine lv_topl (fun z19_2 ez19_2 => ?_)
  refine lv_l2i hx hb dX16_registerWordShort_20 rfl ?_
  refine lv_topi (fun z20_1 ez20_1 => ?_)
  refine lv_istore_n (lv' := [(3, .int z20_1), (2, .int z6_1), (0, .ref mm), (1, .int v0)]) hx hb dX16_registerWordShort_21 rfl hl (by decide) rfl (fun ls hl => ?_)
  refine lv_aload_n hx hb dX16_registerWordShort_22 rfl (lv_at hl 2 rfl) ?_
  refine va_get (D := D) (ci := 16) (v := .ref ureg) (C := RX16) (T := TX16) (N := 78) hx hb (htX16 hn) (fun _ h => h) hown hK hP 0 rfl rfl 33 (by decide) (hn.get mw_1572 rfl) (fun _ h9 => h9) hf_mm_33 dX16_registerWordShort_23 ?_
  refine lv_iload_n hx hb dX16_registerWordShort_26 rfl (lv_at hl 3 rfl) ?_
  refine lv_bipush (v := 20) hx hb dX16_registerWordShort_27 (by decide) ?_
  refine lv_ishr hx hb dX16_registerWordShort_29 ?_
  refine lv_topi (fun z29_1 ez29_1 => ?_)
  have r29_2 : rg z29_1 (-2048) 2047 := rg_shr (k := 20) ez29_1 (by decide) (rg_any v0) (by decide)
  refine lv_bipush (v := 31) hx hb dX16_registerWordShort_30 (by decide) ?_
  refine lv_iand hx hb dX16_registerWordShort_32 ?_
  refine lv_topi (fun z32_1 ez32_1 => ?_)
  have r32_2 : rg z32_1 0 31 := rg_andr ez32_1 (show rg (31 : Int32) 31 31 from rg_l (by decide)) (by decide)
  have hi33_1 : vp_in z32_1 32 := (in_rg r32_2 (by decide))
  refine va_lald hx hb hK hP 1 2 rfl rfl hi33_1 dX16_registerWordShort_33 ?_
  refine lv_topl (fun z33_2 ez33_2 => ?_)
  refine lv_l2i hx hb dX16_registerWordShort_34 rfl ?_
  refine lv_topi (fun z34_1 ez34_1 => ?_)
  refine lv_istore (lv' := [(4, .int z34_1), (3, .int z20_1), (2, .int z6_1), (0, .ref mm), (1, .int v0)]) hx hb dX16_registerWordShort_35 hl (by decide) rfl (fun ls hl => ?_)
  refine lv_iload_n hx hb dX16_registerWordShort_37 rfl (lv_at hl 4 rfl) ?_
  refine lv_bipush (v := 25) hx hb dX16_registerWordShort_38 (by decide) ?_
  refine lv_iushr hx hb dX16_registerWordShort_40 rfl ?_
  refine lv_topi (fun z40_1 ez40_1 => ?_)
  have r40_2 : rg z40_1 0 127 := rg_ushr (k := 25) ez40_1 (by decide) (by decide)
  refine lv_iconst (v := 3) hx hb dX16_registerWordShort_41 (by decide) ?_
  refine lv_ishl hx hb dX16_registerWordShort_42 ?_
  refine lv_topi (fun z42_1 ez42_1 => ?_)
  have r42_2 : rg z42_1 0 1016 := rg_shl (c := 8) (k := 3) ez42_1 (by decide) r40_2 (by decide)
  refine lv_iload_n hx hb dX16_registerWordShort_43 rfl (lv_at hl 4 rfl) ?_
  refine lv_bipush (v := 12) hx hb dX16_registerWordShort_44 (by decide) ?_
  refine lv_ishr hx hb dX16_registerWordShort_46 ?_
  refine lv_topi (fun z46_1 ez46_1 => ?_)
  have r46_2 : rg z46_1 (-524288) 524287 := rg_shr (k := 12) ez46_1 (by decide) (rg_any v0) (by decide)
  refine lv_bipush (v := 7) hx hb dX16_registerWordShort_47 (by decide) ?_
  refine lv_iand hx hb dX16_registerWordShort_49 ?_
  refine lv_topi (fun z49_1 ez49_1 => ?_)
  have r49_2 : rg z49_1 0 7 := rg_andr ez49_1 (show rg (7 : Int32) 7 7 from rg_l (by decide)) (by decide)
  refine lv_ior hx hb dX16_registerWordShort_50 ?_
  refine lv_topi (fun z50_1 ez50_1 => ?_)
  have r50_2 : rg z50_1 0 1023 := rg_or (k := 10) ez50_1 r42_2 r49_2 (by decide)
  by_cases h51_101 : z50_1.toInt = 0
  · have r51_102 : rg z50_1 0 0 := rg_at h51_101
    refine lv_lookup (off := 73) (tgt := 124) hx hb dX16_registerWordShort_51 (by decide) (by rw [h51_101]; rfl) (by decide) ?_
    refine lv_aload_n hx hb dX16_registerWordShort_124 rfl (lv_at hl 3 rfl) ?_
    refine lv_iload_n hx hb dX16_registerWordShort_125 rfl (lv_at hl 2 rfl) ?_
    refine lv_iload_n hx hb dX16_registerWordShort_126 rfl (lv_at hl 1 rfl) ?_
    refine lv_iload hx hb dX16_registerWordShort_127 (lv_at hl 0 rfl) ?_
    refine lv_iadd hx hb dX16_registerWordShort_129 ?_
    refine lv_topi (fun z129_1 ez129_1 => ?_)
    refine lv_i2l hx hb dX16_registerWordShort_130 rfl ?_
    refine lv_topl (fun z130_1 ez130_1 => ?_)
    have r130_2 : rl z130_1 (-2147483648) 2147483647 := rl_i2l ez130_1 (rg_any z129_1)
    refine go_v (k1 := 0) (n1 := 0) (wr := []) [0, 1] [] (rn_V (As := [.int z6_1, .long z130_1]) (rest := []) (c_X16_set l D ct mm z6_1 z130_1 fs_mm ureg g_ureg r6_2 hlen_mm hf_mm_33 _) (cb_of (n := 2) hn mw_2674 mw_13 mw_2671 mhX16_set ⟨(Nat.le_of_ble_eq_true rfl), (Nat.le_of_ble_eq_true rfl)⟩) hx hb hml hown hn hK hSK hZ hS mw_2673 mw_s276 (ci := 16) (q0 := 0) rfl rfl rfl rfl hl.1 (Nat.le_of_ble_eq_true rfl) dX16_registerWordShort_131 ⟨(Nat.le_of_ble_eq_true rfl), (Nat.le_of_ble_eq_true rfl)⟩) hP hD hS hA rfl rfl (by decide) (by decide) (by decide) (Nat.le_of_ble_eq_true rfl) (Nat.le_of_ble_eq_true rfl) (fun u131_2 H locs hp131_3 hP hD hS => ?_)
    have hP : va_P D vwCl [(mm, .inr (16, fs_mm)), (ureg, .inl (ct 2, 32, .inr (.inl u131_2)))] _ := hP
    have hD : va_D A [(mm, .inr (16, fs_mm)), (ureg, .inl (ct 2, 32, .inr (.inl u131_2)))] := hD
    refine lv_goto (tgt := 267) hx hb dX16_registerWordShort_134 (by decide) ?_
    exact endq_v hQ hx hb hr hlocks dX16_registerWordShort_267 (fs_mm, x_mm_76, u131_2) ⟨(SB.rf _ _), h_x_mm_76, hf_mm_76⟩ hP hD hS [0, 1] rfl (by decide) rfl (Nat.le_of_ble_eq_true rfl) (Nat.le_of_ble_eq_true rfl)
  by_cases h51_111 : z50_1.toInt = 1
  · have r51_112 : rg z50_1 1 1 := rg_at h51_111
    refine lv_lookup (off := 99) (tgt := 150) hx hb dX16_registerWordShort_51 (by decide) (by rw [h51_111]; rfl) (by decide) ?_
    refine lv_aload_n hx hb dX16_registerWordShort_150 rfl (lv_at hl 3 rfl) ?_
    refine lv_iload_n hx hb dX16_registerWordShort_151 rfl (lv_at hl 2 rfl) ?_
    refine lv_iload_n hx hb dX16_registerWordShort_152 rfl (lv_at hl 1 rfl) ?_
    refine lv_iload hx hb dX16_registerWordShort_153 (lv_at hl 0 rfl) ?_
    refine lv_bipush (v := 31) hx hb dX16_registerWordShort_155 (by decide) ?_
    refine lv_iand hx hb dX16_registerWordShort_157 ?_
    refine lv_topi (fun z157_1 ez157_1 => ?_)
    have r157_2 : rg z157_1 0 31 := rg_andr ez157_1 (show rg (31 : Int32) 31 31 from rg_l (by decide)) (by decide)
    refine lv_ishl hx hb dX16_registerWordShort_158 ?_
    refine lv_topi (fun z158_1 ez158_1 => ?_)
    refine lv_i2l hx hb dX16_registerWordShort_159 rfl ?_
    refine lv_topl (fun z159_1 ez159_1 => ?_)
    have r159_2 : rl z159_1 (-2147483648) 2147483647 := rl_i2l ez159_1 (rg_any z158_1)
    refine go_v (k1 := 0) (n1 := 0) (wr := []) [0, 1] [] (rn_V (As := [.int z6_1, .long z159_1]) (rest := []) (c_X16_set l D ct mm z6_1 z159_1 fs_mm ureg g_ureg r6_2 hlen_mm hf_mm_33 _) (cb_of (n := 2) hn mw_2674 mw_13 mw_2671 mhX16_set ⟨(Nat.le_of_ble_eq_true rfl), (Nat.le_of_ble_eq_true rfl)⟩) hx hb hml hown hn hK hSK hZ hS mw_2673 mw_s276 (ci := 16) (q0 := 0) rfl rfl rfl rfl hl.1 (Nat.le_of_ble_eq_true rfl) dX16_registerWordShort_160 ⟨(Nat.le_of_ble_eq_true rfl), (Nat.le_of_ble_eq_true rfl)⟩) hP hD hS hA rfl rfl (by decide) (by decide) (by decide) (Nat.le_of_ble_eq_true rfl) (Nat.le_of_ble_eq_true rfl) (fun u160_2 H locs hp160_3 hP hD hS => ?_)
    have hP : va_P D vwCl [(mm, .inr (16, fs_mm)), (ureg, .inl (ct 2, 32, .inr (.inl u160_2)))] _ := hP
    have hD : va_D A [(mm, .inr (16, fs_mm)), (ureg, .inl (ct 2, 32, .inr (.inl u160_2)))] := hD
    refine lv_goto (tgt := 267) hx hb dX16_registerWordShort_163 (by decide) ?_
    exact endq_v hQ hx hb hr hlocks dX16_registerWordShort_267 (fs_mm, x_mm_76, u160_2) ⟨(SB.rf _ _), h_x_mm_76, hf_mm_76⟩ hP hD hS [0, 1] rfl (by decide) rfl (Nat.le_of_ble_eq_true rfl) (Nat.le_of_ble_eq_true rfl)
  by_cases h51_121 : z50_1.toInt = 5
  · have r51_122 : rg z50_1 5 5 := rg_at h51_121
    refine lv_lookup (off := 115) (tgt := 166) hx hb dX16_registerWordShort_51 (by decide) (by rw [h51_121]; rfl) (by decide) ?_
    refine lv_aload_n hx hb dX16_registerWordShort_166 rfl (lv_at hl 3 rfl) ?_
    refine lv_iload_n hx hb dX16_registerWordShort_167 rfl (lv_at hl 2 rfl) ?_
    refine lv_iload_n hx hb dX16_registerWordShort_168 rfl (lv_at hl 1 rfl) ?_
    refine lv_iload hx hb dX16_registerWordShort_169 (lv_at hl 0 rfl) ?_
    refine lv_bipush (v := 31) hx hb dX16_registerWordShort_171 (by decide) ?_
    refine lv_iand hx hb dX16_registerWordShort_173 ?_
    refine lv_topi (fun z173_1 ez173_1 => ?_)
    have r173_2 : rg z173_1 0 31 := rg_andr ez173_1 (show rg (31 : Int32) 31 31 from rg_l (by decide)) (by decide)
    refine lv_iushr hx hb dX16_registerWordShort_174 rfl ?_
    refine lv_topi (fun z174_1 ez174_1 => ?_)
    refine lv_i2l hx hb dX16_registerWordShort_175 rfl ?_
    refine lv_topl (fun z175_1 ez175_1 => ?_)
    have r175_2 : rl z175_1 (-2147483648) 2147483647 := rl_i2l ez175_1 (rg_any z174_1)
    refine go_v (k1 := 0) (n1 := 0) (wr := []) [0, 1] [] (rn_V (As := [.int z6_1, .long z175_1]) (rest := []) (c_X16_set l D ct mm z6_1 z175_1 fs_mm ureg g_ureg r6_2 hlen_mm hf_mm_33 _) (cb_of (n := 2) hn mw_2674 mw_13 mw_2671 mhX16_set ⟨(Nat.le_of_ble_eq_true rfl), (Nat.le_of_ble_eq_true rfl)⟩) hx hb hml hown hn hK hSK hZ hS mw_2673 mw_s276 (ci := 16) (q0 := 0) rfl rfl rfl rfl hl.1 (Nat.le_of_ble_eq_true rfl) dX16_registerWordShort_176 ⟨(Nat.le_of_ble_eq_true rfl), (Nat.le_of_ble_eq_true rfl)⟩) hP hD hS hA rfl rfl (by decide) (by decide) (by decide) (Nat.le_of_ble_eq_true rfl) (Nat.le_of_ble_eq_true rfl) (fun u176_2 H locs hp176_3 hP hD hS => ?_)
    have hP : va_P D vwCl [(mm, .inr (16, fs_mm)), (ureg, .inl (ct 2, 32, .inr (.inl u176_2)))] _ := hP
    have hD : va_D A [(mm, .inr (16, fs_mm)), (ureg, .inl (ct 2, 32, .inr (.inl u176_2)))] := hD
    refine lv_goto (tgt := 267) hx hb dX16_registerWordShort_179 (by decide) ?_
    exact endq_v hQ hx hb hr hlocks dX16_registerWordShort_267 (fs_mm, x_mm_76, u176_2) ⟨(SB.rf _ _), h_x_mm_76, hf_mm_76⟩ hP hD hS [0, 1] rfl (by decide) rfl (Nat.le_of_ble_eq_true rfl) (Nat.le_of_ble_eq_true rfl)
  by_cases h51_131 : z50_1.toInt = 8
  · have r51_132 : rg z50_1 8 8 := rg_at h51_131
    refine lv_lookup (off := 147) (tgt := 198) hx hb dX16_registerWordShort_51 (by decide) (by rw [h51_131]; rfl) (by decide) ?_
    refine lv_aload_n hx hb dX16_registerWordShort_198 rfl (lv_at hl 3 rfl) ?_
    refine lv_iload_n hx hb dX16_registerWordShort_199 rfl (lv_at hl 2 rfl) ?_
    refine lv_iload_n hx hb dX16_registerWordShort_200 rfl (lv_at hl 1 rfl) ?_
    refine lv_iload hx hb dX16_registerWordShort_201 (lv_at hl 0 rfl) ?_
    refine lv_imul hx hb dX16_registerWordShort_203 ?_
    refine lv_topi (fun z203_1 ez203_1 => ?_)
    refine lv_i2l hx hb dX16_registerWordShort_204 rfl ?_
    refine lv_topl (fun z204_1 ez204_1 => ?_)
    have r204_2 : rl z204_1 (-2147483648) 2147483647 := rl_i2l ez204_1 (rg_any z203_1)
    refine go_v (k1 := 0) (n1 := 0) (wr := []) [0, 1] [] (rn_V (As := [.int z6_1, .long z204_1]) (rest := []) (c_X16_set l D ct mm z6_1 z204_1 fs_mm ureg g_ureg r6_2 hlen_mm hf_mm_33 _) (cb_of (n := 2) hn mw_2674 mw_13 mw_2671 mhX16_set ⟨(Nat.le_of_ble_eq_true rfl), (Nat.le_of_ble_eq_true rfl)⟩) hx hb hml hown hn hK hSK hZ hS mw_2673 mw_s276 (ci := 16) (q0 := 0) rfl rfl rfl rfl hl.1 (Nat.le_of_ble_eq_true rfl) dX16_registerWordShort_205 ⟨(Nat.le_of_ble_eq_true rfl), (Nat.le_of_ble_eq_true rfl)⟩) hP hD hS hA rfl rfl (by decide) (by decide) (by decide) (Nat.le_of_ble_eq_true rfl) (Nat.le_of_ble_eq_true rfl) (fun u205_2 H locs hp205_3 hP hD hS => ?_)
    have hP : va_P D vwCl [(mm, .inr (16, fs_mm)), (ureg, .inl (ct 2, 32, .inr (.inl u205_2)))] _ := hP
    have hD : va_D A [(mm, .inr (16, fs_mm)), (ureg, .inl (ct 2, 32, .inr (.inl u205_2)))] := hD
    refine lv_goto (tgt := 267) hx hb dX16_registerWordShort_208 (by decide) ?_
    exact endq_v hQ hx hb hr hlocks dX16_registerWordShort_267 (fs_mm, x_mm_76, u205_2) ⟨(SB.rf _ _), h_x_mm_76, hf_mm_76⟩ hP hD hS [0, 1] rfl (by decide) rfl (Nat.le_of_ble_eq_true rfl) (Nat.le_of_ble_eq_true rfl)
  by_cases h51_141 : z50_1.toInt = 13
  · have r51_142 : rg z50_1 13 13 := rg_at h51_141
    refine lv_lookup (off := 160) (tgt := 211) hx hb dX16_registerWordShort_51 (by decide) (by rw [h51_141]; rfl) (by decide) ?_
    refine lv_aload_n hx hb dX16_registerWordShort_211 rfl (lv_at hl 3 rfl) ?_
    refine lv_iload_n hx hb dX16_registerWordShort_212 rfl (lv_at hl 2 rfl) ?_
    refine lv_iload hx hb dX16_registerWordShort_213 (lv_at hl 0 rfl) ?_
    have b231 : ∀ (j231_s0 : Int64) (H : Heap) (locs : List Loc) (ls : Array Slot), (rl j231_s0 (-2147483648) 2147483647) → lv_has ls 5 [] → va_P D vwCl [(mm, .inr (16, fs_mm)), (ureg, .inl (ct 2, 32, .inr (.inl g_ureg)))] H → va_D A [(mm, .inr (16, fs_mm)), (ureg, .inl (ct 2, 32, .inr (.inl g_ureg)))] → va_S A s.heap H locs → W p l e ({ frames := 3, cells := 0, slots := 0, locals := 61 }) s m [.ref mm, .int v0].toArray below meth c H locs 0 0 Q (F0 m 231 ls [.long j231_s0, .int z6_1, .ref mm]) := by
      intro j231_s0 H locs ls r231_1001 hl hP hD hS
      refine go_v (k1 := 0) (n1 := 0) (wr := []) [0, 1] [] (rn_V (As := [.int z6_1, .long j231_s0]) (rest := []) (c_X16_set l D ct mm z6_1 j231_s0 fs_mm ureg g_ureg r6_2 hlen_mm hf_mm_33 _) (cb_of (n := 2) hn mw_2674 mw_13 mw_2671 mhX16_set ⟨(Nat.le_of_ble_eq_true rfl), (Nat.le_of_ble_eq_true rfl)⟩) hx hb hml hown hn hK hSK hZ hS mw_2673 mw_s276 (ci := 16) (q0 := 0) rfl rfl rfl rfl hl.1 (Nat.le_of_ble_eq_true rfl) dX16_registerWordShort_231 ⟨(Nat.le_of_ble_eq_true rfl), (Nat.le_of_ble_eq_true rfl)⟩) hP hD hS hA rfl rfl (by decide) (by decide) (by decide) (Nat.le_of_ble_eq_true rfl) (Nat.le_of_ble_eq_true rfl) (fun u231_2 H locs hp231_3 hP hD hS => ?_)
      have hP : va_P D vwCl [(mm, .inr (16, fs_mm)), (ureg, .inl (ct 2, 32, .inr (.inl u231_2)))] _ := hP
      have hD : va_D A [(mm, .inr (16, fs_mm)), (ureg, .inl (ct 2, 32, .inr (.inl u231_2)))] := hD
      refine lv_goto (tgt := 267) hx hb dX16_registerWordShort_234 (by decide) ?_
      exact endq_v hQ hx hb hr hlocks dX16_registerWordShort_267 (fs_mm, x_mm_76, u231_2) ⟨(SB.rf _ _), h_x_mm_76, hf_mm_76⟩ hP hD hS [0, 1] rfl (by decide) rfl (Nat.le_of_ble_eq_true rfl) (Nat.le_of_ble_eq_true rfl)
    refine lv_if_ne (tgt := 224) hx hb dX16_registerWordShort_215 (by decide) (fun c215_1 => ?_) (fun c215_1 => ?_)
    · have t215_2 := FF.mk (i_ne c215_1)
      refine lv_iload_n hx hb dX16_registerWordShort_224 rfl (lv_at hl 1 rfl) ?_
      refine lv_iload hx hb dX16_registerWordShort_225 (lv_at hl 0 rfl) ?_
      refine go_i (k1 := 0) (n1 := 0) (wr := [(mm, .inr (16, fs_mm)), (ureg, .inl (ct 2, 32, .inr (.inl g_ureg)))]) [] [0, 1] (rn_S (As := [.int z20_1, .int z34_1]) (rest := [.int z6_1, .ref mm]) (c_JI_divideUnsigned l D ct z20_1 z34_1 (show z34_1.toInt ≠ 0 by have q0 := FF.out t215_2; have q1 := (show (0 : Int32).toInt = 0 from by decide); omega) _) (cb_of (n := 2) hn mw_2724 mw_26 mw_2722 mhJI_divideUnsigned ⟨(Nat.le_of_ble_eq_true rfl), (Nat.le_of_ble_eq_true rfl)⟩) hx hb hml hown hn hK hSK hZ hS mw_2723 rfl hl.1 (Nat.le_of_ble_eq_true rfl) dX16_registerWordShort_227 ⟨(Nat.le_of_ble_eq_true rfl), (Nat.le_of_ble_eq_true rfl)⟩) hP hD hS hA rfl rfl (by decide) (by decide) (by decide) (Nat.le_of_ble_eq_true rfl) (Nat.le_of_ble_eq_true rfl) (fun r227_1 u227_2 H locs hp227_3 hP hD hS => ?_)
      have hP : va_P D vwCl [(mm, .inr (16, fs_mm)), (ureg, .inl (ct 2, 32, .inr (.inl g_ureg)))] _ := hP
      have hD : va_D A [(mm, .inr (16, fs_mm)), (ureg, .inl (ct 2, 32, .inr (.inl g_ureg)))] := hD
      refine lv_i2l hx hb dX16_registerWordShort_230 rfl ?_
      refine lv_topl (fun z230_1 ez230_1 => ?_)
      have r230_2 : rl z230_1 (-2147483648) 2147483647 := rl_i2l ez230_1 (rg_any r227_1)
      exact b231 z230_1 H locs ls r230_2 (lv_sub hl [] rfl) hP hD hS
    · have t215_2 := FF.mk (i_eq c215_1)
      have r215_3 : rg z34_1 0 0 := rg_eqA t215_2 (rg_any z34_1) (show rg (0 : Int32) 0 0 from rg_l (by decide)) (by decide)
      refine lv_ldc2 (v := (-1)) hx hb hown (hn.get mw_1798 rfl) dX16_registerWordShort_218 ?_
      refine lv_goto (tgt := 231) hx hb dX16_registerWordShort_221 (by decide) ?_
      exact b231 ((-1) : Int64) H locs ls (rl_w (show rl ((-1) : Int64) (-1) (-1) from rl_l (by decide)) (by decide)) (lv_sub hl [] rfl) hP hD hS
  by_cases h51_151 : z50_1.toInt = 15
  · have r51_152 : rg z50_1 15 15 := rg_at h51_151
    refine lv_lookup (off := 186) (tgt := 237) hx hb dX16_registerWordShort_51 (by decide) (by rw [h51_151]; rfl) (by decide) ?_
    refine lv_aload_n hx hb dX16_registerWordShort_237 rfl (lv_at hl 3 rfl) ?_
    refine lv_iload_n hx hb dX16_registerWordShort_238 rfl (lv_at hl 2 rfl) ?_
    refine lv_iload hx hb dX16_registerWordShort_239 (lv_at hl 0 rfl) ?_
    have b256 : ∀ (j256_s0 : Int64) (H : Heap) (locs : List Loc) (ls : Array Slot), (rl j256_s0 (-2147483648) 2147483647) → lv_has ls 5 [] → va_P D vwCl [(mm, .inr (16, fs_mm)), (ureg, .inl (ct 2, 32, .inr (.inl g_ureg)))] H → va_D A [(mm, .inr (16, fs_mm)), (ureg, .inl (ct 2, 32, .inr (.inl g_ureg)))] → va_S A s.heap H locs → W p l e ({ frames := 3, cells := 0, slots := 0, locals := 61 }) s m [.ref mm, .int v0].toArray below meth c H locs 0 0 Q (F0 m 256 ls [.long j256_s0, .int z6_1, .ref mm]) := by
      intro j256_s0 H locs ls r256_1001 hl hP hD hS
      refine go_v (k1 := 0) (n1 := 0) (wr := []) [0, 1] [] (rn_V (As := [.int z6_1, .long j256_s0]) (rest := []) (c_X16_set l D ct mm z6_1 j256_s0 fs_mm ureg g_ureg r6_2 hlen_mm hf_mm_33 _) (cb_of (n := 2) hn mw_2674 mw_13 mw_2671 mhX16_set ⟨(Nat.le_of_ble_eq_true rfl), (Nat.le_of_ble_eq_true rfl)⟩) hx hb hml hown hn hK hSK hZ hS mw_2673 mw_s276 (ci := 16) (q0 := 0) rfl rfl rfl rfl hl.1 (Nat.le_of_ble_eq_true rfl) dX16_registerWordShort_256 ⟨(Nat.le_of_ble_eq_true rfl), (Nat.le_of_ble_eq_true rfl)⟩) hP hD hS hA rfl rfl (by decide) (by decide) (by decide) (Nat.le_of_ble_eq_true rfl) (Nat.le_of_ble_eq_true rfl) (fun u256_2 H locs hp256_3 hP hD hS => ?_)
      have hP : va_P D vwCl [(mm, .inr (16, fs_mm)), (ureg, .inl (ct 2, 32, .inr (.inl u256_2)))] _ := hP
      have hD : va_D A [(mm, .inr (16, fs_mm)), (ureg, .inl (ct 2, 32, .inr (.inl u256_2)))] := hD
      refine lv_goto (tgt := 267) hx hb dX16_registerWordShort_259 (by decide) ?_
      exact endq_v hQ hx hb hr hlocks dX16_registerWordShort_267 (fs_mm, x_mm_76, u256_2) ⟨(SB.rf _ _), h_x_mm_76, hf_mm_76⟩ hP hD hS [0, 1] rfl (by decide) rfl (Nat.le_of_ble_eq_true rfl) (Nat.le_of_ble_eq_true rfl)
    refine lv_if_ne (tgt := 249) hx hb dX16_registerWordShort_241 (by decide) (fun c241_1 => ?_) (fun c241_1 => ?_)
    · have t241_2 := FF.mk (i_ne c241_1)
      refine lv_iload_n hx hb dX16_registerWordShort_249 rfl (lv_at hl 1 rfl) ?_
      refine lv_iload hx hb dX16_registerWordShort_250 (lv_at hl 0 rfl) ?_
      refine go_i (k1 := 0) (n1 := 0) (wr := [(mm, .inr (16, fs_mm)), (ureg, .inl (ct 2, 32, .inr (.inl g_ureg)))]) [] [0, 1] (rn_S (As := [.int z20_1, .int z34_1]) (rest := [.int z6_1, .ref mm]) (c_JI_remainderUnsigned l D ct z20_1 z34_1 (show z34_1.toInt ≠ 0 by have q0 := FF.out t241_2; have q1 := (show (0 : Int32).toInt = 0 from by decide); omega) _) (cb_of (n := 2) hn mw_2731 mw_26 mw_2729 mhJI_remainderUnsigned ⟨(Nat.le_of_ble_eq_true rfl), (Nat.le_of_ble_eq_true rfl)⟩) hx hb hml hown hn hK hSK hZ hS mw_2730 rfl hl.1 (Nat.le_of_ble_eq_true rfl) dX16_registerWordShort_252 ⟨(Nat.le_of_ble_eq_true rfl), (Nat.le_of_ble_eq_true rfl)⟩) hP hD hS hA rfl rfl (by decide) (by decide) (by decide) (Nat.le_of_ble_eq_true rfl) (Nat.le_of_ble_eq_true rfl) (fun r252_1 u252_2 H locs hp252_3 hP hD hS => ?_)
      have hP : va_P D vwCl [(mm, .inr (16, fs_mm)), (ureg, .inl (ct 2, 32, .inr (.inl g_ureg)))] _ := hP
      have hD : va_D A [(mm, .inr (16, fs_mm)), (ureg, .inl (ct 2, 32, .inr (.inl g_ureg)))] := hD
      refine lv_i2l hx hb dX16_registerWordShort_255 rfl ?_
      refine lv_topl (fun z255_1 ez255_1 => ?_)
      have r255_2 : rl z255_1 (-2147483648) 2147483647 := rl_i2l ez255_1 (rg_any r252_1)
      exact b256 z255_1 H locs ls r255_2 (lv_sub hl [] rfl) hP hD hS
    · have t241_2 := FF.mk (i_eq c241_1)
      have r241_3 : rg z34_1 0 0 := rg_eqA t241_2 (rg_any z34_1) (show rg (0 : Int32) 0 0 from rg_l (by decide)) (by decide)
      refine lv_iload_n hx hb dX16_registerWordShort_244 rfl (lv_at hl 1 rfl) ?_
      refine lv_i2l hx hb dX16_registerWordShort_245 rfl ?_
      refine lv_topl (fun z245_1 ez245_1 => ?_)
      have r245_2 : rl z245_1 (-2147483648) 2147483647 := rl_i2l ez245_1 (rg_any z20_1)
      refine lv_goto (tgt := 256) hx hb dX16_registerWordShort_246 (by decide) ?_
      exact b256 z245_1 H locs ls r245_2 (lv_sub hl [] rfl) hP hD hS
  by_cases h51_161 : z50_1.toInt = 256
  · have r51_162 : rg z50_1 256 256 := rg_at h51_161
    refine lv_lookup (off := 86) (tgt := 137) hx hb dX16_registerWordShort_51 (by decide) (by rw [h51_161]; rfl) (by decide) ?_
    refine lv_aload_n hx hb dX16_registerWordShort_137 rfl (lv_at hl 3 rfl) ?_
    refine lv_iload_n hx hb dX16_registerWordShort_138 rfl (lv_at hl 2 rfl) ?_
    refine lv_iload_n hx hb dX16_registerWordShort_139 rfl (lv_at hl 1 rfl) ?_
    refine lv_iload hx hb dX16_registerWordShort_140 (lv_at hl 0 rfl) ?_
    refine lv_isub hx hb dX16_registerWordShort_142 ?_
    refine lv_topi (fun z142_1 ez142_1 => ?_)
    refine lv_i2l hx hb dX16_registerWordShort_143 rfl ?_
    refine lv_topl (fun z143_1 ez143_1 => ?_)
    have r143_2 : rl z143_1 (-2147483648) 2147483647 := rl_i2l ez143_1 (rg_any z142_1)
    refine go_v (k1 := 0) (n1 := 0) (wr := []) [0, 1] [] (rn_V (As := [.int z6_1, .long z143_1]) (rest := []) (c_X16_set l D ct mm z6_1 z143_1 fs_mm ureg g_ureg r6_2 hlen_mm hf_mm_33 _) (cb_of (n := 2) hn mw_2674 mw_13 mw_2671 mhX16_set ⟨(Nat.le_of_ble_eq_true rfl), (Nat.le_of_ble_eq_true rfl)⟩) hx hb hml hown hn hK hSK hZ hS mw_2673 mw_s276 (ci := 16) (q0 := 0) rfl rfl rfl rfl hl.1 (Nat.le_of_ble_eq_true rfl) dX16_registerWordShort_144 ⟨(Nat.le_of_ble_eq_true rfl), (Nat.le_of_ble_eq_true rfl)⟩) hP hD hS hA rfl rfl (by decide) (by decide) (by decide) (Nat.le_of_ble_eq_true rfl) (Nat.le_of_ble_eq_true rfl) (fun u144_2 H locs hp144_3 hP hD hS => ?_)
    have hP : va_P D vwCl [(mm, .inr (16, fs_mm)), (ureg, .inl (ct 2, 32, .inr (.inl u144_2)))] _ := hP
    have hD : va_D A [(mm, .inr (16, fs_mm)), (ureg, .inl (ct 2, 32, .inr (.inl u144_2)))] := hD
    refine lv_goto (tgt := 267) hx hb dX16_registerWordShort_147 (by decide) ?_
    exact endq_v hQ hx hb hr hlocks dX16_registerWordShort_267 (fs_mm, x_mm_76, u144_2) ⟨(SB.rf _ _), h_x_mm_76, hf_mm_76⟩ hP hD hS [0, 1] rfl (by decide) rfl (Nat.le_of_ble_eq_true rfl) (Nat.le_of_ble_eq_true rfl)
  by_cases h51_171 : z50_1.toInt = 261
  · have r51_172 : rg z50_1 261 261 := rg_at h51_171
    refine lv_lookup (off := 131) (tgt := 182) hx hb dX16_registerWordShort_51 (by decide) (by rw [h51_171]; rfl) (by decide) ?_
    refine lv_aload_n hx hb dX16_registerWordShort_182 rfl (lv_at hl 3 rfl) ?_
    refine lv_iload_n hx hb dX16_registerWordShort_183 rfl (lv_at hl 2 rfl) ?_
    refine lv_iload_n hx hb dX16_registerWordShort_184 rfl (lv_at hl 1 rfl) ?_
    refine lv_iload hx hb dX16_registerWordShort_185 (lv_at hl 0 rfl) ?_
    refine lv_bipush (v := 31) hx hb dX16_registerWordShort_187 (by decide) ?_
    refine lv_iand hx hb dX16_registerWordShort_189 ?_
    refine lv_topi (fun z189_1 ez189_1 => ?_)
    have r189_2 : rg z189_1 0 31 := rg_andr ez189_1 (show rg (31 : Int32) 31 31 from rg_l (by decide)) (by decide)
    refine lv_ishr hx hb dX16_registerWordShort_190 ?_
    refine lv_topi (fun z190_1 ez190_1 => ?_)
    refine lv_i2l hx hb dX16_registerWordShort_191 rfl ?_
    refine lv_topl (fun z191_1 ez191_1 => ?_)
    have r191_2 : rl z191_1 (-2147483648) 2147483647 := rl_i2l ez191_1 (rg_any z190_1)
    refine go_v (k1 := 0) (n1 := 0) (wr := []) [0, 1] [] (rn_V (As := [.int z6_1, .long z191_1]) (rest := []) (c_X16_set l D ct mm z6_1 z191_1 fs_mm ureg g_ureg r6_2 hlen_mm hf_mm_33 _) (cb_of (n := 2) hn mw_2674 mw_13 mw_2671 mhX16_set ⟨(Nat.le_of_ble_eq_true rfl), (Nat.le_of_ble_eq_true rfl)⟩) hx hb hml hown hn hK hSK hZ hS mw_2673 mw_s276 (ci := 16) (q0 := 0) rfl rfl rfl rfl hl.1 (Nat.le_of_ble_eq_true rfl) dX16_registerWordShort_192 ⟨(Nat.le_of_ble_eq_true rfl), (Nat.le_of_ble_eq_true rfl)⟩) hP hD hS hA rfl rfl (by decide) (by decide) (by decide) (Nat.le_of_ble_eq_true rfl) (Nat.le_of_ble_eq_true rfl) (fun u192_2 H locs hp192_3 hP hD hS => ?_)
    have hP : va_P D vwCl [(mm, .inr (16, fs_mm)), (ureg, .inl (ct 2, 32, .inr (.inl u192_2)))] _ := hP
    have hD : va_D A [(mm, .inr (16, fs_mm)), (ureg, .inl (ct 2, 32, .inr (.inl u192_2)))] := hD
    refine lv_goto (tgt := 267) hx hb dX16_registerWordShort_195 (by decide) ?_
    exact endq_v hQ hx hb hr hlocks dX16_registerWordShort_267 (fs_mm, x_mm_76, u192_2) ⟨(SB.rf _ _), h_x_mm_76, hf_mm_76⟩ hP hD hS [0, 1] rfl (by decide) rfl (Nat.le_of_ble_eq_true rfl) (Nat.le_of_ble_eq_true rfl)
  refine lv_lookup (off := 211) (tgt := 262) hx hb dX16_registerWordShort_51 (by decide) (by simp [Op.lookupswitch.offset, (show ¬ (0 : Int) = z50_1.toInt from fun q => h51_101 q.symm), (show ¬ (1 : Int) = z50_1.toInt from fun q => h51_111 q.symm), (show ¬ (5 : Int) = z50_1.toInt from fun q => h51_121 q.symm), (show ¬ (8 : Int) = z50_1.toInt from fun q => h51_131 q.symm), (show ¬ (13 : Int) = z50_1.toInt from fun q => h51_141 q.symm), (show ¬ (15 : Int) = z50_1.toInt from fun q => h51_151 q.symm), (show ¬ (256 : Int) = z50_1.toInt from fun q => h51_161 q.symm), (show ¬ (261 : Int) = z50_1.toInt from fun q => h51_171 q.symm)]) (by decide) ?_
  have hl51_5001 := FF.mk h51_101
  have hl51_5002 := FF.mk h51_111
  have hl51_5003 := FF.mk h51_121
  have hl51_5004 := FF.mk h51_131
  have hl51_5005 := FF.mk h51_141
  have hl51_5006 := FF.mk h51_151
  have hl51_5007 := FF.mk h51_161
  have hl51_5008 := FF.mk h51_171
  refine lv_aload_n hx hb dX16_registerWordShort_262 rfl (lv_at hl 3 rfl) ?_
  refine lv_iconst (v := 1) hx hb dX16_registerWordShort_263 (by decide) ?_
  refine va_put (D := D) (ci := 16) (v := .int 1) (ty := .boolean) (C := RX16) (T := TX16) (N := 78) hx hb (htX16 hn) (fun _ h => h) tyX16 tyX16_ok nmX16 hown hK hP hD hS 0 rfl rfl 76 (by decide) (hn.get mw_1615 rfl) (fun _ h9 => h9) rfl (by decide +kernel) (by decide) rfl (by rw [hlen_mm]; decide) dX16_registerWordShort_264 (fun H locs hP hD hS => ?_)
  have hP : va_P D vwCl [(mm, .inr (16, (fs_mm.set 76 (.int 1)))), (ureg, .inl (ct 2, 32, .inr (.inl g_ureg)))] _ := hP
  have hD : va_D A [(mm, .inr (16, (fs_mm.set 76 (.int 1)))), (ureg, .inl (ct 2, 32, .inr (.inl g_ureg)))] := hD
  obtain ⟨m264_1, em264_1⟩ : ∃ z, z = (fs_mm.set 76 (.int 1)) := ⟨_, rfl⟩
  rw [← em264_1] at hP hD
  have hsm264_1 : SB fs_mm m264_1 [76] := by rw [em264_1]; exact SB.set (SB.rf _ _) (by decide)
  have hfm264_1_76 : m264_1[76]? = some (.int 1) := by rw [em264_1]; exact fs_eq (by rw [hlen_mm]; decide)
  have hP : va_P D vwCl [(mm, .inr (16, m264_1)), (ureg, .inl (ct 2, 32, .inr (.inl g_ureg)))] _ := hP
  have hD : va_D A [(mm, .inr (16, m264_1)), (ureg, .inl (ct 2, 32, .inr (.inl g_ureg)))] := hD
  exact endq_v hQ hx hb hr hlocks dX16_registerWordShort_267 (m264_1, (1 : Int32), g_ureg) ⟨hsm264_1, (rg_w (show rg (1 : Int32) 1 1 from rg_l (by decide)) (by decide)), hfm264_1_76⟩ hP hD hS [0, 1] rfl (by decide) rfl (Nat.le_of_ble_eq_true rfl) (Nat.le_of_ble_eq_true rfl)
set_option maxHeartbeats 2000000 in
theorem c_X16_jumpWord (l : Launch) (D : va_G) (ct : Nat → ClassId) (mm : Nat) (v0 : Int32) (v1 : Int64) (fs_mm : List Value) (ureg : Nat) (g_ureg : Nat → Int64) (hlen_mm : fs_mm.length = 78) (hf_mm_33 : fs_mm[33]? = some (.ref ureg)) : KV (S := List Value × Int64 × (Nat → Int64)) l yX16_jumpWord cX16_jumpWord 5 none 2 43 D ct [.ref mm, .int v0, .long v1] [(mm, .inr (16, fs_mm)), (ureg, .inl (ct 2, 32, .inr (.inl g_ureg)))] 0 0 (fun (u : List Value × Int64 × (Nat → Int64)) => match u with | (fs2_mm, y_mm_75, k_ureg) => SB fs_mm fs2_mm [75] ∧ fs2_mm[75]? = some (.long y_mm_75)) (fun (u : List Value × Int64 × (Nat → Int64)) => match u with | (fs2_mm, y_mm_75, k_ureg) => [(mm, .inr (16, fs2_mm)), (ureg, .inl (ct 2, 32, .inr (.inl k_ureg)))]) := by
  refine KVq_of (by decide) (Nat.le_of_ble_eq_true rfl) (fun p e s m below meth c A Q C0 hA H locs hS hP hD hQ ls hl => ?_)
  obtain ⟨hx, hb, hr, hown, hin, hml, hlocks, hn, hK, hZ, hSK⟩ := C0
  have hl : lv_has ls 5 [(0, .ref mm), (1, .int v0), (2, .long v1)] := hl
  refine lv_iload_n hx hb dX16_jumpWord_0 rfl (lv_at hl 1 rfl) ?_
  refine lv_bipush (v := 31) hx hb dX16_jumpWord_1 (by decide) ?_
  refine lv_ishr hx hb dX16_jumpWord_3 ?_
  refine lv_topi (fun z3_1 ez3_1 => ?_)
  refine lv_bipush (v := 20) hx hb dX16_jumpWord_4 (by decide) ?_
  refine lv_ishl hx hb dX16_jumpWord_6 ?_
  refine lv_topi (fun z6_1 ez6_1 => ?_)
  refine lv_iload_n hx hb dX16_jumpWord_7 rfl (lv_at hl 1 rfl) ?_
  refine lv_bipush (v := 12) hx hb dX16_jumpWord_8 (by decide) ?_
  refine lv_ishr hx hb dX16_jumpWord_10 ?_
  refine lv_topi (fun z10_1 ez10_1 => ?_)
  have r10_2 : rg z10_1 (-524288) 524287 := rg_shr (k := 12) ez10_1 (by decide) (rg_any v0) (by decide)
  refine lv_sipush (v := 255) hx hb dX16_jumpWord_11 (by decide) ?_
  refine lv_iand hx hb dX16_jumpWord_14 ?_
  refine lv_topi (fun z14_1 ez14_1 => ?_)
  have r14_2 : rg z14_1 0 255 := rg_andr ez14_1 (show rg (255 : Int32) 255 255 from rg_l (by decide)) (by decide)
  refine lv_bipush (v := 12) hx hb dX16_jumpWord_15 (by decide) ?_
  refine lv_ishl hx hb dX16_jumpWord_17 ?_
  refine lv_topi (fun z17_1 ez17_1 => ?_)
  have r17_2 : rg z17_1 0 1044480 := rg_shl (c := 4096) (k := 12) ez17_1 (by decide) r14_2 (by decide)
  refine lv_ior hx hb dX16_jumpWord_18 ?_
  refine lv_topi (fun z18_1 ez18_1 => ?_)
  refine lv_iload_n hx hb dX16_jumpWord_19 rfl (lv_at hl 1 rfl) ?_
  refine lv_bipush (v := 20) hx hb dX16_jumpWord_20 (by decide) ?_
  refine lv_ishr hx hb dX16_jumpWord_22 ?_
  refine lv_topi (fun z22_1 ez22_1 => ?_)
  have r22_2 : rg z22_1 (-2048) 2047 := rg_shr (k := 20) ez22_1 (by decide) (rg_any v0) (by decide)
  refine lv_iconst (v := 1) hx hb dX16_jumpWord_23 (by decide) ?_
  refine lv_iand hx hb dX16_jumpWord_24 ?_
  refine lv_topi (fun z24_1 ez24_1 => ?_)
  have r24_2 : rg z24_1 0 1 := rg_andr ez24_1 (show rg (1 : Int32) 1 1 from rg_l (by decide)) (by decide)
  refine lv_bipush (v := 11) hx hb dX16_jumpWord_25 (by decide) ?_
  refine lv_ishl hx hb dX16_jumpWord_27 ?_
  refine lv_topi (fun z27_1 ez27_1 => ?_)
  have r27_2 : rg z27_1 0 2048 := rg_shl (c := 2048) (k := 11) ez27_1 (by decide) r24_2 (by decide)
  refine lv_ior hx hb dX16_jumpWord_28 ?_
  refine lv_topi (fun z28_1 ez28_1 => ?_)
  refine lv_iload_n hx hb dX16_jumpWord_29 rfl (lv_at hl 1 rfl) ?_
  refine lv_bipush (v := 21) hx hb dX16_jumpWord_30 (by decide) ?_
  refine lv_ishr hx hb dX16_jumpWord_32 ?_
  refine lv_topi (fun z32_1 ez32_1 => ?_)
  have r32_2 : rg z32_1 (-1024) 1023 := rg_shr (k := 21) ez32_1 (by decide) (rg_any v0) (by decide)
  refine lv_sipush (v := 1023) hx hb dX16_jumpWord_33 (by decide) ?_
  refine lv_iand hx hb dX16_jumpWord_36 ?_
  refine lv_topi (fun z36_1 ez36_1 => ?_)
  have r36_2 : rg z36_1 0 1023 := rg_andr ez36_1 (show rg (1023 : Int32) 1023 1023 from rg_l (by decide)) (by decide)
  refine lv_iconst (v := 1) hx hb dX16_jumpWord_37 (by decide) ?_
  refine lv_ishl hx hb dX16_jumpWord_38 ?_
  refine lv_topi (fun z38_1 ez38_1 => ?_)
  have r38_2 : rg z38_1 0 2046 := rg_shl (c := 2) (k := 1) ez38_1 (by decide) r36_2 (by decide)
  refine lv_ior hx hb dX16_jumpWord_39 ?_
  refine lv_topi (fun z39_1 ez39_1 => ?_)
  refine lv_istore (lv' := [(4, .int z39_1), (0, .ref mm), (1, .int v0), (2, .long v1)]) hx hb dX16_jumpWord_40 hl (by decide) rfl (fun ls hl => ?_)
  refine lv_aload_n hx hb dX16_jumpWord_42 rfl (lv_at hl 1 rfl) ?_
  refine lv_iload_n hx hb dX16_jumpWord_43 rfl (lv_at hl 2 rfl) ?_
  refine lv_bipush (v := 7) hx hb dX16_jumpWord_44 (by decide) ?_
  refine lv_ishr hx hb dX16_jumpWord_46 ?_
  refine lv_topi (fun z46_1 ez46_1 => ?_)
  have r46_2 : rg z46_1 (-16777216) 16777215 := rg_shr (k := 7) ez46_1 (by decide) (rg_any v0) (by decide)
  refine lv_bipush (v := 31) hx hb dX16_jumpWord_47 (by decide) ?_
  refine lv_iand hx hb dX16_jumpWord_49 ?_
  refine lv_topi (fun z49_1 ez49_1 => ?_)
  have r49_2 : rg z49_1 0 31 := rg_andr ez49_1 (show rg (31 : Int32) 31 31 from rg_l (by decide)) (by decide)
  refine lv_lload_n hx hb dX16_jumpWord_50 rfl (lv_at hl 3 rfl) ?_
  refine lv_ldc2 (v := 4) hx hb hown (hn.get mw_1825 rfl) dX16_jumpWord_51 ?_
  refine lv_ladd hx hb dX16_jumpWord_54 ?_
  refine lv_topl (fun z54_1 ez54_1 => ?_)
  refine go_v (k1 := 0) (n1 := 0) (wr := []) [0, 1] [] (rn_V (As := [.int z49_1, .long z54_1]) (rest := []) (c_X16_set l D ct mm z49_1 z54_1 fs_mm ureg g_ureg r49_2 hlen_mm hf_mm_33 _) (cb_of (n := 2) hn mw_2674 mw_13 mw_2671 mhX16_set ⟨(Nat.le_of_ble_eq_true rfl), (Nat.le_of_ble_eq_true rfl)⟩) hx hb hml hown hn hK hSK hZ hS mw_2673 mw_s276 (ci := 16) (q0 := 0) rfl rfl rfl rfl hl.1 (Nat.le_of_ble_eq_true rfl) dX16_jumpWord_55 ⟨(Nat.le_of_ble_eq_true rfl), (Nat.le_of_ble_eq_true rfl)⟩) hP hD hS hA rfl rfl (by decide) (by decide) (by decide) (Nat.le_of_ble_eq_true rfl) (Nat.le_of_ble_eq_true rfl) (fun u55_2 H locs hp55_3 hP hD hS => ?_)
  have hP : va_P D vwCl [(mm, .inr (16, fs_mm)), (ureg, .inl (ct 2, 32, .inr (.inl u55_2)))] _ := hP
  have hD : va_D A [(mm, .inr (16, fs_mm)), (ureg, .inl (ct 2, 32, .inr (.inl u55_2)))] := hD
  refine lv_aload_n hx hb dX16_jumpWord_58 rfl (lv_at hl 1 rfl) ?_
  refine lv_lload_n hx hb dX16_jumpWord_59 rfl (lv_at hl 3 rfl) ?_
  refine lv_iload hx hb dX16_jumpWord_60 (lv_at hl 0 rfl) ?_
  refine lv_i2l hx hb dX16_jumpWord_62 rfl ?_
  refine lv_topl (fun z62_1 ez62_1 => ?_)
  have r62_2 : rl z62_1 (-2147483648) 2147483647 := rl_i2l ez62_1 (rg_any z39_1)
  refine lv_ladd hx hb dX16_jumpWord_63 ?_
  refine lv_topl (fun z63_1 ez63_1 => ?_)
  refine va_put (D := D) (ci := 16) (v := .long z63_1) (ty := .long) (C := RX16) (T := TX16) (N := 78) hx hb (htX16 hn) (fun _ h => h) tyX16 tyX16_ok nmX16 hown hK hP hD hS 0 rfl rfl 75 (by decide) (hn.get mw_1614 rfl) (fun _ h9 => h9) rfl (by decide +kernel) rfl rfl (by rw [hlen_mm]; decide) dX16_jumpWord_64 (fun H locs hP hD hS => ?_)
  have hP : va_P D vwCl [(mm, .inr (16, (fs_mm.set 75 (.long z63_1)))), (ureg, .inl (ct 2, 32, .inr (.inl u55_2)))] _ := hP
  have hD : va_D A [(mm, .inr (16, (fs_mm.set 75 (.long z63_1)))), (ureg, .inl (ct 2, 32, .inr (.inl u55_2)))] := hD
  obtain ⟨m64_1, em64_1⟩ : ∃ z, z = (fs_mm.set 75 (.long z63_1)) := ⟨_, rfl⟩
  rw [← em64_1] at hP hD
  have hsm64_1 : SB fs_mm m64_1 [75] := by rw [em64_1]; exact SB.set (SB.rf _ _) (by decide)
  have hfm64_1_75 : m64_1[75]? = some (.long z63_1) := by rw [em64_1]; exact fs_eq (by rw [hlen_mm]; decide)
  have hP : va_P D vwCl [(mm, .inr (16, m64_1)), (ureg, .inl (ct 2, 32, .inr (.inl u55_2)))] _ := hP
  have hD : va_D A [(mm, .inr (16, m64_1)), (ureg, .inl (ct 2, 32, .inr (.inl u55_2)))] := hD
  exact endq_v hQ hx hb hr hlocks dX16_jumpWord_67 (m64_1, z63_1, u55_2) ⟨hsm64_1, hfm64_1_75⟩ hP hD hS [0, 1] rfl (by decide) rfl (Nat.le_of_ble_eq_true rfl) (Nat.le_of_ble_eq_true rfl)
set_option maxHeartbeats 2000000 in
theorem c_X16_jumpRegister (l : Launch) (D : va_G) (ct : Nat → ClassId) (mm : Nat) (v0 : Int32) (v1 : Int64) (fs_mm : List Value) (ureg : Nat) (x_mm_75 : Int64) (x_mm_76 : Int32) (g_ureg : Nat → Int64) (hlen_mm : fs_mm.length = 78) (hf_mm_33 : fs_mm[33]? = some (.ref ureg)) (hf_mm_75 : fs_mm[75]? = some (.long x_mm_75)) (h_x_mm_76 : rg x_mm_76 0 1) (hf_mm_76 : fs_mm[76]? = some (.int x_mm_76)) : KV (S := List Value × Int64 × Int32 × (Nat → Int64)) l yX16_jumpRegister cX16_jumpRegister 4 none 2 43 D ct [.ref mm, .int v0, .long v1] [(mm, .inr (16, fs_mm)), (ureg, .inl (ct 2, 32, .inr (.inl g_ureg)))] 0 0 (fun (u : List Value × Int64 × Int32 × (Nat → Int64)) => match u with | (fs2_mm, y_mm_75, y_mm_76, k_ureg) => SB fs_mm fs2_mm [75, 76] ∧ fs2_mm[75]? = some (.long y_mm_75) ∧ rg y_mm_76 0 1 ∧ fs2_mm[76]? = some (.int y_mm_76)) (fun (u : List Value × Int64 × Int32 × (Nat → Int64)) => match u with | (fs2_mm, y_mm_75, y_mm_76, k_ureg) => [(mm, .inr (16, fs2_mm)), (ureg, .inl (ct 2, 32, .inr (.inl k_ureg)))]) := by
  refine KVq_of (by decide) (Nat.le_of_ble_eq_true rfl) (fun p e s m below meth c A Q C0 hA H locs hS hP hD hQ ls hl => ?_)
  obtain ⟨hx, hb, hr, hown, hin, hml, hlocks, hn, hK, hZ, hSK⟩ := C0
  have hl : lv_has ls 4 [(0, .ref mm), (1, .int v0), (2, .long v1)] := hl
  refine lv_iload_n hx hb dX16_jumpRegister_0 rfl (lv_at hl 1 rfl) ?_
  refine lv_bipush (v := 12) hx hb dX16_jumpRegister_1 (by decide) ?_
  refine lv_ishr hx hb dX16_jumpRegister_3 ?_
  refine lv_topi (fun z3_1 ez3_1 => ?_)
  have r3_2 : rg z3_1 (-524288) 524287 := rg_shr (k := 12) ez3_1 (by decide) (rg_any v0) (by decide)
  refine lv_bipush (v := 7) hx hb dX16_jumpRegister_4 (by decide) ?_
  refine lv_iand hx hb dX16_jumpRegister_6 ?_
  refine lv_topi (fun z6_1 ez6_1 => ?_)
  have r6_2 : rg z6_1 0 7 := rg_andr ez6_1 (show rg (7 : Int32) 7 7 from rg_l (by decide)) (by decide)
  refine lv_if_eq (tgt := 16) hx hb dX16_jumpRegister_7 (by decide) (fun c7_1 => ?_) (fun c7_1 => ?_)
  · have t7_2 := FF.mk (i_eq c7_1)
    have r7_3 : rg z6_1 0 0 := rg_eqA t7_2 r6_2 (show rg (0 : Int32) 0 0 from rg_l (by decide)) (by decide)
    refine lv_aload_n hx hb dX16_jumpRegister_16 rfl (lv_at hl 0 rfl) ?_
    refine lv_aload_n hx hb dX16_jumpRegister_17 rfl (lv_at hl 0 rfl) ?_
    refine va_get (D := D) (ci := 16) (v := .ref ureg) (C := RX16) (T := TX16) (N := 78) hx hb (htX16 hn) (fun _ h => h) hown hK hP 0 rfl rfl 33 (by decide) (hn.get mw_1572 rfl) (fun _ h9 => h9) hf_mm_33 dX16_jumpRegister_18 ?_
    refine lv_iload_n hx hb dX16_jumpRegister_21 rfl (lv_at hl 1 rfl) ?_
    refine lv_bipush (v := 15) hx hb dX16_jumpRegister_22 (by decide) ?_
    refine lv_ishr hx hb dX16_jumpRegister_24 ?_
    refine lv_topi (fun z24_1 ez24_1 => ?_)
    have r24_2 : rg z24_1 (-65536) 65535 := rg_shr (k := 15) ez24_1 (by decide) (rg_any v0) (by decide)
    refine lv_bipush (v := 31) hx hb dX16_jumpRegister_25 (by decide) ?_
    refine lv_iand hx hb dX16_jumpRegister_27 ?_
    refine lv_topi (fun z27_1 ez27_1 => ?_)
    have r27_2 : rg z27_1 0 31 := rg_andr ez27_1 (show rg (31 : Int32) 31 31 from rg_l (by decide)) (by decide)
    have hi28_1 : vp_in z27_1 32 := (in_rg r27_2 (by decide))
    refine va_lald hx hb hK hP 1 2 rfl rfl hi28_1 dX16_jumpRegister_28 ?_
    refine lv_topl (fun z28_2 ez28_2 => ?_)
    refine lv_iload_n hx hb dX16_jumpRegister_29 rfl (lv_at hl 1 rfl) ?_
    refine lv_bipush (v := 20) hx hb dX16_jumpRegister_30 (by decide) ?_
    refine lv_ishr hx hb dX16_jumpRegister_32 ?_
    refine lv_topi (fun z32_1 ez32_1 => ?_)
    have r32_2 : rg z32_1 (-2048) 2047 := rg_shr (k := 20) ez32_1 (by decide) (rg_any v0) (by decide)
    refine lv_i2l hx hb dX16_jumpRegister_33 rfl ?_
    refine lv_topl (fun z33_1 ez33_1 => ?_)
    have r33_2 : rl z33_1 (-2048) 2047 := rl_i2l ez33_1 r32_2
    refine lv_ladd hx hb dX16_jumpRegister_34 ?_
    refine lv_topl (fun z34_1 ez34_1 => ?_)
    refine lv_ldc2 (v := (-2)) hx hb hown (hn.get mw_2197 rfl) dX16_jumpRegister_35 ?_
    refine lv_land hx hb dX16_jumpRegister_38 ?_
    refine lv_topl (fun z38_1 ez38_1 => ?_)
    refine va_put (D := D) (ci := 16) (v := .long z38_1) (ty := .long) (C := RX16) (T := TX16) (N := 78) hx hb (htX16 hn) (fun _ h => h) tyX16 tyX16_ok nmX16 hown hK hP hD hS 0 rfl rfl 75 (by decide) (hn.get mw_1614 rfl) (fun _ h9 => h9) rfl (by decide +kernel) rfl rfl (by rw [hlen_mm]; decide) dX16_jumpRegister_39 (fun H locs hP hD hS => ?_)
    have hP : va_P D vwCl [(mm, .inr (16, (fs_mm.set 75 (.long z38_1)))), (ureg, .inl (ct 2, 32, .inr (.inl g_ureg)))] _ := hP
    have hD : va_D A [(mm, .inr (16, (fs_mm.set 75 (.long z38_1)))), (ureg, .inl (ct 2, 32, .inr (.inl g_ureg)))] := hD
    obtain ⟨m39_1, em39_1⟩ : ∃ z, z = (fs_mm.set 75 (.long z38_1)) := ⟨_, rfl⟩
    rw [← em39_1] at hP hD
    have hsm39_1 : SB fs_mm m39_1 [75, 76] := by rw [em39_1]; exact SB.set (SB.rf _ _) (by decide)
    have hfm39_1_76 : m39_1[76]? = some (.int x_mm_76) := by rw [em39_1]; exact fs_ne (by decide) hf_mm_76
    have hfm39_1_75 : m39_1[75]? = some (.long z38_1) := by rw [em39_1]; exact fs_eq (by rw [hlen_mm]; decide)
    have hP : va_P D vwCl [(mm, .inr (16, m39_1)), (ureg, .inl (ct 2, 32, .inr (.inl g_ureg)))] _ := hP
    have hD : va_D A [(mm, .inr (16, m39_1)), (ureg, .inl (ct 2, 32, .inr (.inl g_ureg)))] := hD
    refine lv_aload_n hx hb dX16_jumpRegister_42 rfl (lv_at hl 0 rfl) ?_
    refine lv_iload_n hx hb dX16_jumpRegister_43 rfl (lv_at hl 1 rfl) ?_
    refine lv_bipush (v := 7) hx hb dX16_jumpRegister_44 (by decide) ?_
    refine lv_ishr hx hb dX16_jumpRegister_46 ?_
    refine lv_topi (fun z46_1 ez46_1 => ?_)
    have r46_2 : rg z46_1 (-16777216) 16777215 := rg_shr (k := 7) ez46_1 (by decide) (rg_any v0) (by decide)
    refine lv_bipush (v := 31) hx hb dX16_jumpRegister_47 (by decide) ?_
    refine lv_iand hx hb dX16_jumpRegister_49 ?_
    refine lv_topi (fun z49_1 ez49_1 => ?_)
    have r49_2 : rg z49_1 0 31 := rg_andr ez49_1 (show rg (31 : Int32) 31 31 from rg_l (by decide)) (by decide)
    refine lv_lload_n hx hb dX16_jumpRegister_50 rfl (lv_at hl 2 rfl) ?_
    refine lv_ldc2 (v := 4) hx hb hown (hn.get mw_1825 rfl) dX16_jumpRegister_51 ?_
    refine lv_ladd hx hb dX16_jumpRegister_54 ?_
    refine lv_topl (fun z54_1 ez54_1 => ?_)
    refine go_v (k1 := 0) (n1 := 0) (wr := []) [0, 1] [] (rn_V (As := [.int z49_1, .long z54_1]) (rest := []) (c_X16_set l D ct mm z49_1 z54_1 m39_1 ureg g_ureg r49_2 (hsm39_1.1.trans hlen_mm) (SB.get hsm39_1 (by decide) hf_mm_33) _) (cb_of (n := 2) hn mw_2674 mw_13 mw_2671 mhX16_set ⟨(Nat.le_of_ble_eq_true rfl), (Nat.le_of_ble_eq_true rfl)⟩) hx hb hml hown hn hK hSK hZ hS mw_2673 mw_s276 (ci := 16) (q0 := 0) rfl rfl rfl rfl hl.1 (Nat.le_of_ble_eq_true rfl) dX16_jumpRegister_55 ⟨(Nat.le_of_ble_eq_true rfl), (Nat.le_of_ble_eq_true rfl)⟩) hP hD hS hA rfl rfl (by decide) (by decide) (by decide) (Nat.le_of_ble_eq_true rfl) (Nat.le_of_ble_eq_true rfl) (fun u55_2 H locs hp55_3 hP hD hS => ?_)
    have hP : va_P D vwCl [(mm, .inr (16, m39_1)), (ureg, .inl (ct 2, 32, .inr (.inl u55_2)))] _ := hP
    have hD : va_D A [(mm, .inr (16, m39_1)), (ureg, .inl (ct 2, 32, .inr (.inl u55_2)))] := hD
    exact endq_v hQ hx hb hr hlocks dX16_jumpRegister_58 (m39_1, z38_1, x_mm_76, u55_2) ⟨hsm39_1, hfm39_1_75, h_x_mm_76, hfm39_1_76⟩ hP hD hS [0, 1] rfl (by decide) rfl (Nat.le_of_ble_eq_true rfl) (Nat.le_of_ble_eq_true rfl)
  · have t7_2 := FF.mk (i_ne c7_1)
    have r7_3 : rg z6_1 1 7 := rg_neAl t7_2 r6_2 (show rg (0 : Int32) 0 0 from rg_l (by decide)) (by decide)
    refine lv_aload_n hx hb dX16_jumpRegister_10 rfl (lv_at hl 0 rfl) ?_
    refine lv_iconst (v := 1) hx hb dX16_jumpRegister_11 (by decide) ?_
    refine va_put (D := D) (ci := 16) (v := .int 1) (ty := .boolean) (C := RX16) (T := TX16) (N := 78) hx hb (htX16 hn) (fun _ h => h) tyX16 tyX16_ok nmX16 hown hK hP hD hS 0 rfl rfl 76 (by decide) (hn.get mw_1615 rfl) (fun _ h9 => h9) rfl (by decide +kernel) (by decide) rfl (by rw [hlen_mm]; decide) dX16_jumpRegister_12 (fun H locs hP hD hS => ?_)
    have hP : va_P D vwCl [(mm, .inr (16, (fs_mm.set 76 (.int 1)))), (ureg, .inl (ct 2, 32, .inr (.inl g_ureg)))] _ := hP
    have hD : va_D A [(mm, .inr (16, (fs_mm.set 76 (.int 1)))), (ureg, .inl (ct 2, 32, .inr (.inl g_ureg)))] := hD
    obtain ⟨m12_1, em12_1⟩ : ∃ z, z = (fs_mm.set 76 (.int 1)) := ⟨_, rfl⟩
    rw [← em12_1] at hP hD
    have hsm12_1 : SB fs_mm m12_1 [75, 76] := by rw [em12_1]; exact SB.set (SB.rf _ _) (by decide)
    have hfm12_1_75 : m12_1[75]? = some (.long x_mm_75) := by rw [em12_1]; exact fs_ne (by decide) hf_mm_75
    have hfm12_1_76 : m12_1[76]? = some (.int 1) := by rw [em12_1]; exact fs_eq (by rw [hlen_mm]; decide)
    have hP : va_P D vwCl [(mm, .inr (16, m12_1)), (ureg, .inl (ct 2, 32, .inr (.inl g_ureg)))] _ := hP
    have hD : va_D A [(mm, .inr (16, m12_1)), (ureg, .inl (ct 2, 32, .inr (.inl g_ureg)))] := hD
    exact endq_v hQ hx hb hr hlocks dX16_jumpRegister_15 (m12_1, x_mm_75, (1 : Int32), g_ureg) ⟨hsm12_1, hfm12_1_75, (rg_w (show rg (1 : Int32) 1 1 from rg_l (by decide)) (by decide)), hfm12_1_76⟩ hP hD hS [0, 1] rfl (by decide) rfl (Nat.le_of_ble_eq_true rfl) (Nat.le_of_ble_eq_true rfl)
set_option maxHeartbeats 2000000 in
theorem c_X16_one (l : Launch) (D : va_G) (ct : Nat → ClassId) (mm : Nat) (v0 : Int32) (v1 : Int32) (v2 : Int64) (fs_mm : List Value) (upb : Nat) (upl_ : Nat) (ureg : Nat) (ustk : Nat) (g_ureg : Nat → Int64) (g_upl_ : Nat → Int32) (g_upb : Nat → Int32) (g_ustk : Nat → Int32) (h_v0 : rg v0 0 15) (hlen_mm : fs_mm.length = 78) (hf_mm_2 : fs_mm[2]? = some (.ref upb)) (hf_mm_3 : fs_mm[3]? = some (.ref upl_)) (hf_mm_33 : fs_mm[33]? = some (.ref ureg)) (hf_mm_34 : fs_mm[34]? = some (.ref ustk)) (h_g_upl_ : Rg g_upl_ 16 0 256) (h_g_upb : Rg g_upb 4096 0 255) (h_g_ustk : Rg g_ustk 64 0 255) : KI (S := List Value × Int64 × Int32 × Int32 × (Nat → Int64) × (Nat → Int32)) l yX16_one cX16_one 5 (some .boolean) 4 101 D ct [.ref mm, .int v0, .int v1, .long v2] [(mm, .inr (16, fs_mm)), (ureg, .inl (ct 2, 32, .inr (.inl g_ureg))), (upl_, .inl (ct 1, 16, .inl g_upl_)), (upb, .inl (ct 1, 4096, .inl g_upb)), (ustk, .inl (ct 1, 64, .inl g_ustk))] 0 0 (fun (r : Int32) (u : List Value × Int64 × Int32 × Int32 × (Nat → Int64) × (Nat → Int32)) => match u with | (fs2_mm, y_mm_75, y_mm_76, y_mm_77, k_ureg, k_ustk) => rg r 0 1 ∧ SB fs_mm fs2_mm [75, 76, 77] ∧ fs2_mm[75]? = some (.long y_mm_75) ∧ rg y_mm_76 0 1 ∧ fs2_mm[76]? = some (.int y_mm_76) ∧ rg y_mm_77 0 1 ∧ fs2_mm[77]? = some (.int y_mm_77) ∧ Rg k_ustk 64 0 255) (fun (u : List Value × Int64 × Int32 × Int32 × (Nat → Int64) × (Nat → Int32)) => match u with | (fs2_mm, y_mm_75, y_mm_76, y_mm_77, k_ureg, k_ustk) => [(mm, .inr (16, fs2_mm)), (ureg, .inl (ct 2, 32, .inr (.inl k_ureg))), (upl_, .inl (ct 1, 16, .inl g_upl_)), (upb, .inl (ct 1, 4096, .inl g_upb)), (ustk, .inl (ct 1, 64, .inl k_ustk))]) := by
  refine KIq_of (by decide) (Nat.le_of_ble_eq_true rfl) (fun p e s m below meth c A Q C0 hA H locs hS hP hD hQ ls hl => ?_)
  obtain ⟨hx, hb, hr, hown, hin, hml, hlocks, hn, hK, hZ, hSK⟩ := C0
  have hl : lv_has ls 5 [(0, .ref mm), (1, .int v0), (2, .int v1), (3, .long v2)] := hl
  refine lv_aload_n hx hb dX16_one_0 rfl (lv_at hl 0 rfl) ?_
  refine lv_lload_n hx hb dX16_one_1 rfl (lv_at hl 3 rfl) ?_
  refine lv_ldc2 (v := 4) hx hb hown (hn.get mw_1825 rfl) dX16_one_2 ?_
  refine lv_ladd hx hb dX16_one_5 ?_
  refine lv_topl (fun z5_1 ez5_1 => ?_)
  refine va_put (D := D) (ci := 16) (v := .long z5_1) (ty := .long) (C := RX16) (T := TX16) (N := 78) hx hb (htX16 hn) (fun _ h => h) tyX16 tyX16_ok nmX16 hown hK hP hD hS 0 rfl rfl 75 (by decide) (hn.get mw_1614 rfl) (fun _ h9 => h9) rfl (by decide +kernel) rfl rfl (by rw [hlen_mm]; decide) dX16_one_6 (fun H locs hP hD hS => ?_)
  have hP : va_P D vwCl [(mm, .inr (16, (fs_mm.set 75 (.long z5_1)))), (ureg, .inl (ct 2, 32, .inr (.inl g_ureg))), (upl_, .inl (ct 1, 16, .inl g_upl_)), (upb, .inl (ct 1, 4096, .inl g_upb)), (ustk, .inl (ct 1, 64, .inl g_ustk))] _ := hP
  have hD : va_D A [(mm, .inr (16, (fs_mm.set 75 (.long z5_1)))), (ureg, .inl (ct 2, 32, .inr (.inl g_ureg))), (upl_, .inl (ct 1, 16, .inl g_upl_)), (upb, .inl (ct 1, 4096, .inl g_upb)), (ustk, .inl (ct 1, 64, .inl g_ustk))] := hD
  obtain ⟨m6_1, em6_1⟩ : ∃ z, z = (fs_mm.set 75 (.long z5_1)) := ⟨_, rfl⟩
  rw [← em6_1] at hP hD
  have hsm6_1 : SB fs_mm m6_1 [75, 76, 77] := by rw [em6_1]; exact SB.set (SB.rf _ _) (by decide)
  have hfm6_1_75 : m6_1[75]? = some (.long z5_1) := by rw [em6_1]; exact fs_eq (by rw [hlen_mm]; decide)
  have hP : va_P D vwCl [(mm, .inr (16, m6_1)), (ureg, .inl (ct 2, 32, .inr (.inl g_ureg))), (upl_, .inl (ct 1, 16, .inl g_upl_)), (upb, .inl (ct 1, 4096, .inl g_upb)), (ustk, .inl (ct 1, 64, .inl g_ustk))] _ := hP
  have hD : va_D A [(mm, .inr (16, m6_1)), (ureg, .inl (ct 2, 32, .inr (.inl g_ureg))), (upl_, .inl (ct 1, 16, .inl g_upl_)), (upb, .inl (ct 1, 4096, .inl g_upb)), (ustk, .inl (ct 1, 64, .inl g_ustk))] := hD
  refine lv_aload_n hx hb dX16_one_9 rfl (lv_at hl 0 rfl) ?_
  refine lv_iconst (v := 0) hx hb dX16_one_10 (by decide) ?_
  refine va_put (D := D) (ci := 16) (v := .int 0) (ty := .boolean) (C := RX16) (T := TX16) (N := 78) hx hb (htX16 hn) (fun _ h => h) tyX16 tyX16_ok nmX16 hown hK hP hD hS 0 rfl rfl 76 (by decide) (hn.get mw_1615 rfl) (fun _ h9 => h9) rfl (by decide +kernel) (by decide) rfl (by rw [hsm6_1.1, hlen_mm]; decide) dX16_one_11 (fun H locs hP hD hS => ?_)
  have hP : va_P D vwCl [(mm, .inr (16, (m6_1.set 76 (.int 0)))), (ureg, .inl (ct 2, 32, .inr (.inl g_ureg))), (upl_, .inl (ct 1, 16, .inl g_upl_)), (upb, .inl (ct 1, 4096, .inl g_upb)), (ustk, .inl (ct 1, 64, .inl g_ustk))] _ := hP
  have hD : va_D A [(mm, .inr (16, (m6_1.set 76 (.int 0)))), (ureg, .inl (ct 2, 32, .inr (.inl g_ureg))), (upl_, .inl (ct 1, 16, .inl g_upl_)), (upb, .inl (ct 1, 4096, .inl g_upb)), (ustk, .inl (ct 1, 64, .inl g_ustk))] := hD
  obtain ⟨m11_1, em11_1⟩ : ∃ z, z = (m6_1.set 76 (.int 0)) := ⟨_, rfl⟩
  rw [← em11_1] at hP hD
  have hsm11_1 : SB fs_mm m11_1 [75, 76, 77] := by rw [em11_1]; exact SB.set hsm6_1 (by decide)
  have hfm11_1_75 : m11_1[75]? = some (.long z5_1) := by rw [em11_1]; exact fs_ne (by decide) hfm6_1_75
  have hfm11_1_76 : m11_1[76]? = some (.int 0) := by rw [em11_1]; exact fs_eq (by rw [hsm6_1.1, hlen_mm]; decide)
  have hP : va_P D vwCl [(mm, .inr (16, m11_1)), (ureg, .inl (ct 2, 32, .inr (.inl g_ureg))), (upl_, .inl (ct 1, 16, .inl g_upl_)), (upb, .inl (ct 1, 4096, .inl g_upb)), (ustk, .inl (ct 1, 64, .inl g_ustk))] _ := hP
  have hD : va_D A [(mm, .inr (16, m11_1)), (ureg, .inl (ct 2, 32, .inr (.inl g_ureg))), (upl_, .inl (ct 1, 16, .inl g_upl_)), (upb, .inl (ct 1, 4096, .inl g_upb)), (ustk, .inl (ct 1, 64, .inl g_ustk))] := hD
  refine lv_aload_n hx hb dX16_one_14 rfl (lv_at hl 0 rfl) ?_
  refine lv_iconst (v := 0) hx hb dX16_one_15 (by decide) ?_
  refine va_put (D := D) (ci := 16) (v := .int 0) (ty := .boolean) (C := RX16) (T := TX16) (N := 78) hx hb (htX16 hn) (fun _ h => h) tyX16 tyX16_ok nmX16 hown hK hP hD hS 0 rfl rfl 77 (by decide) (hn.get mw_1616 rfl) (fun _ h9 => h9) rfl (by decide +kernel) (by decide) rfl (by rw [hsm11_1.1, hlen_mm]; decide) dX16_one_16 (fun H locs hP hD hS => ?_)
  have hP : va_P D vwCl [(mm, .inr (16, (m11_1.set 77 (.int 0)))), (ureg, .inl (ct 2, 32, .inr (.inl g_ureg))), (upl_, .inl (ct 1, 16, .inl g_upl_)), (upb, .inl (ct 1, 4096, .inl g_upb)), (ustk, .inl (ct 1, 64, .inl g_ustk))] _ := hP
  have hD : va_D A [(mm, .inr (16, (m11_1.set 77 (.int 0)))), (ureg, .inl (ct 2, 32, .inr (.inl g_ureg))), (upl_, .inl (ct 1, 16, .inl g_upl_)), (upb, .inl (ct 1, 4096, .inl g_upb)), (ustk, .inl (ct 1, 64, .inl g_ustk))] := hD
  obtain ⟨m16_1, em16_1⟩ : ∃ z, z = (m11_1.set 77 (.int 0)) := ⟨_, rfl⟩
  rw [← em16_1] at hP hD
  have hsm16_1 : SB fs_mm m16_1 [75, 76, 77] := by rw [em16_1]; exact SB.set hsm11_1 (by decide)
  have hfm16_1_75 : m16_1[75]? = some (.long z5_1) := by rw [em16_1]; exact fs_ne (by decide) hfm11_1_75
  have hfm16_1_76 : m16_1[76]? = some (.int 0) := by rw [em16_1]; exact fs_ne (by decide) hfm11_1_76
  have hfm16_1_77 : m16_1[77]? = some (.int 0) := by rw [em16_1]; exact fs_eq (by rw [hsm11_1.1, hlen_mm]; decide)
  have hP : va_P D vwCl [(mm, .inr (16, m16_1)), (ureg, .inl (ct 2, 32, .inr (.inl g_ureg))), (upl_, .inl (ct 1, 16, .inl g_upl_)), (upb, .inl (ct 1, 4096, .inl g_upb)), (ustk, .inl (ct 1, 64, .inl g_ustk))] _ := hP
  have hD : va_D A [(mm, .inr (16, m16_1)), (ureg, .inl (ct 2, 32, .inr (.inl g_ureg))), (upl_, .inl (ct 1, 16, .inl g_upl_)), (upb, .inl (ct 1, 4096, .inl g_upb)), (ustk, .inl (ct 1, 64, .inl g_ustk))] := hD
  refine lv_iload_n hx hb dX16_one_19 rfl (lv_at hl 2 rfl) ?_
  refine lv_bipush (v := 127) hx hb dX16_one_20 (by decide) ?_
  refine lv_iand hx hb dX16_one_22 ?_
  refine lv_topi (fun z22_1 ez22_1 => ?_)
  have r22_2 : rg z22_1 0 127 := rg_andr ez22_1 (show rg (127 : Int32) 127 127 from rg_l (by decide)) (by decide)
  have b224 : ∀ (j224_amm : List Value) (j224_fmm_75 : Int64) (j224_fmm_76 : Int32) (j224_fmm_77 : Int32) (j224_cureg : Nat → Int64) (j224_custk : Nat → Int32) (H : Heap) (locs : List Loc) (ls : Array Slot), (SB fs_mm j224_amm [75, 76, 77]) → (j224_amm[75]? = some (.long j224_fmm_75)) → (rg j224_fmm_76 0 1) → (j224_amm[76]? = some (.int j224_fmm_76)) → (rg j224_fmm_77 0 1) → (j224_amm[77]? = some (.int j224_fmm_77)) → (Rg j224_custk 64 0 255) → lv_has ls 5 [(2, .int v1)] → va_P D vwCl [(mm, .inr (16, j224_amm)), (ureg, .inl (ct 2, 32, .inr (.inl j224_cureg))), (upl_, .inl (ct 1, 16, .inl g_upl_)), (upb, .inl (ct 1, 4096, .inl g_upb)), (ustk, .inl (ct 1, 64, .inl j224_custk))] H → va_D A [(mm, .inr (16, j224_amm)), (ureg, .inl (ct 2, 32, .inr (.inl j224_cureg))), (upl_, .inl (ct 1, 16, .inl g_upl_)), (upb, .inl (ct 1, 4096, .inl g_upb)), (ustk, .inl (ct 1, 64, .inl j224_custk))] → va_S A s.heap H locs → W p l e ({ frames := 4, cells := 0, slots := 0, locals := 101 }) s m [.ref mm, .int v0, .int v1, .long v2].toArray below meth c H locs 0 0 Q (F0 m 224 ls []) := by
    intro j224_amm j224_fmm_75 j224_fmm_76 j224_fmm_77 j224_cureg j224_custk H locs ls hs224_1001 hf224_1002 r224_1003 hf224_1004 r224_1005 hf224_1006 hc224_1007 hl hP hD hS
    refine lv_iload_n hx hb dX16_one_224 rfl (lv_at hl 0 rfl) ?_
    refine lv_bipush (v := 115) hx hb dX16_one_225 (by decide) ?_
    refine lv_icmp_ne (tgt := 234) hx hb dX16_one_227 (by decide) (fun c227_1 => ?_) (fun c227_1 => ?_)
    · have t227_2 := FF.mk (i_ne c227_1)
      refine lv_iconst (v := 0) hx hb dX16_one_234 (by decide) ?_
      exact endq_i hQ hx hb hr hlocks dX16_one_235 (by decide) (j224_amm, j224_fmm_75, j224_fmm_76, j224_fmm_77, j224_cureg, j224_custk) ⟨(rg_w (show rg (0 : Int32) 0 0 from rg_l (by decide)) (by decide)), hs224_1001, hf224_1002, r224_1003, hf224_1004, r224_1005, hf224_1006, hc224_1007⟩ hP hD hS [0, 1, 2, 3, 4] rfl (by decide) rfl (Nat.le_of_ble_eq_true rfl) (Nat.le_of_ble_eq_true rfl)
    · have t227_2 := FF.mk (i_eq c227_1)
      have r227_3 : rg v1 115 115 := rg_eqA t227_2 (rg_any v1) (show rg (115 : Int32) 115 115 from rg_l (by decide)) (by decide)
      refine lv_iconst (v := 1) hx hb dX16_one_230 (by decide) ?_
      refine lv_goto (tgt := 235) hx hb dX16_one_231 (by decide) ?_
      exact endq_i hQ hx hb hr hlocks dX16_one_235 (by decide) (j224_amm, j224_fmm_75, j224_fmm_76, j224_fmm_77, j224_cureg, j224_custk) ⟨(rg_w (show rg (1 : Int32) 1 1 from rg_l (by decide)) (by decide)), hs224_1001, hf224_1002, r224_1003, hf224_1004, r224_1005, hf224_1006, hc224_1007⟩ hP hD hS [0, 1, 2, 3, 4] rfl (by decide) rfl (Nat.le_of_ble_eq_true rfl) (Nat.le_of_ble_eq_true rfl)
  by_cases h23_101 : z22_1.toInt = 3
  · have r23_102 : rg z22_1 3 3 := rg_at h23_101
    refine lv_lookup (off := 136) (tgt := 159) hx hb dX16_one_23 (by decide) (by rw [h23_101]; rfl) (by decide) ?_
    refine lv_aload_n hx hb dX16_one_159 rfl (lv_at hl 0 rfl) ?_
    refine lv_iload_n hx hb dX16_one_160 rfl (lv_at hl 1 rfl) ?_
    refine lv_iload_n hx hb dX16_one_161 rfl (lv_at hl 2 rfl) ?_
    refine go_v (k1 := 0) (n1 := 0) (wr := []) [0, 1, 2, 3, 4] [] (rn_V (As := [.int v0, .int v1]) (rest := []) (c_X16_loadWord l D ct mm v0 v1 m16_1 upb upl_ ureg ustk (0 : Int32) (0 : Int32) g_ureg g_upl_ g_upb g_ustk h_v0 (hsm16_1.1.trans hlen_mm) (SB.get hsm16_1 (by decide) hf_mm_2) (SB.get hsm16_1 (by decide) hf_mm_3) (SB.get hsm16_1 (by decide) hf_mm_33) (SB.get hsm16_1 (by decide) hf_mm_34) (rg_w (show rg (0 : Int32) 0 0 from rg_l (by decide)) (by decide)) hfm16_1_76 (rg_w (show rg (0 : Int32) 0 0 from rg_l (by decide)) (by decide)) hfm16_1_77 h_g_upl_ h_g_upb h_g_ustk _) (cb_of (n := 2) hn mw_2690 mw_13 mw_2687 mhX16_loadWord ⟨(Nat.le_of_ble_eq_true rfl), (Nat.le_of_ble_eq_true rfl)⟩) hx hb hml hown hn hK hSK hZ hS mw_2689 mw_s280 (ci := 16) (q0 := 0) rfl rfl rfl rfl hl.1 (Nat.le_of_ble_eq_true rfl) dX16_one_162 ⟨(Nat.le_of_ble_eq_true rfl), (Nat.le_of_ble_eq_true rfl)⟩) hP hD hS hA rfl rfl (by decide) (by decide) (by decide) (Nat.le_of_ble_eq_true rfl) (Nat.le_of_ble_eq_true rfl) (fun u162_2 H locs hp162_3 hP hD hS => ?_)
    obtain ⟨fs2_mm162_4, y_mm_76162_5, y_mm_77162_6, k_ureg162_7⟩ := u162_2
    obtain ⟨hp162_8, hp162_9, hp162_10, hp162_11, hp162_12⟩ := hp162_3
    have hs162_13 : SB fs_mm fs2_mm162_4 [75, 76, 77] := SB.trans hsm16_1 hp162_8 (by decide)
    have hf162_14 : fs2_mm162_4[75]? = some (.long z5_1) := SB.get hp162_8 (by decide) hfm16_1_75
    have hp162_9 : rg y_mm_76162_5 0 1 := hp162_9
    have hp162_11 : rg y_mm_77162_6 0 1 := hp162_11
    have hP : va_P D vwCl [(mm, .inr (16, fs2_mm162_4)), (ureg, .inl (ct 2, 32, .inr (.inl k_ureg162_7))), (upl_, .inl (ct 1, 16, .inl g_upl_)), (upb, .inl (ct 1, 4096, .inl g_upb)), (ustk, .inl (ct 1, 64, .inl g_ustk))] _ := hP
    have hD : va_D A [(mm, .inr (16, fs2_mm162_4)), (ureg, .inl (ct 2, 32, .inr (.inl k_ureg162_7))), (upl_, .inl (ct 1, 16, .inl g_upl_)), (upb, .inl (ct 1, 4096, .inl g_upb)), (ustk, .inl (ct 1, 64, .inl g_ustk))] := hD
    refine lv_goto (tgt := 224) hx hb dX16_one_165 (by decide) ?_
    exact b224 fs2_mm162_4 z5_1 y_mm_76162_5 y_mm_77162_6 k_ureg162_7 g_ustk H locs ls hs162_13 hf162_14 hp162_9 hp162_10 hp162_11 hp162_12 h_g_ustk (lv_sub hl [2] rfl) hP hD hS
  by_cases h23_111 : z22_1.toInt = 19
  · have r23_112 : rg z22_1 19 19 := rg_at h23_111
    refine lv_lookup (off := 154) (tgt := 177) hx hb dX16_one_23 (by decide) (by rw [h23_111]; rfl) (by decide) ?_
    refine lv_aload_n hx hb dX16_one_177 rfl (lv_at hl 0 rfl) ?_
    refine lv_iload_n hx hb dX16_one_178 rfl (lv_at hl 2 rfl) ?_
    refine go_v (k1 := 0) (n1 := 0) (wr := [(upl_, .inl (ct 1, 16, .inl g_upl_)), (upb, .inl (ct 1, 4096, .inl g_upb)), (ustk, .inl (ct 1, 64, .inl g_ustk))]) [0, 1] [2, 3, 4] (rn_V (As := [.int v1]) (rest := []) (c_X16_numberWord l D ct mm v1 m16_1 ureg (0 : Int32) g_ureg (hsm16_1.1.trans hlen_mm) (SB.get hsm16_1 (by decide) hf_mm_33) (rg_w (show rg (0 : Int32) 0 0 from rg_l (by decide)) (by decide)) hfm16_1_76 _) (cb_of (n := 1) hn mw_2709 mw_13 mw_2706 mhX16_numberWord ⟨(Nat.le_of_ble_eq_true rfl), (Nat.le_of_ble_eq_true rfl)⟩) hx hb hml hown hn hK hSK hZ hS mw_2708 mw_s284 (ci := 16) (q0 := 0) rfl rfl rfl rfl hl.1 (Nat.le_of_ble_eq_true rfl) dX16_one_179 ⟨(Nat.le_of_ble_eq_true rfl), (Nat.le_of_ble_eq_true rfl)⟩) hP hD hS hA rfl rfl (by decide) (by decide) (by decide) (Nat.le_of_ble_eq_true rfl) (Nat.le_of_ble_eq_true rfl) (fun u179_2 H locs hp179_3 hP hD hS => ?_)
    obtain ⟨fs2_mm179_4, y_mm_76179_5, k_ureg179_6⟩ := u179_2
    obtain ⟨hp179_7, hp179_8, hp179_9⟩ := hp179_3
    have hs179_10 : SB fs_mm fs2_mm179_4 [75, 76, 77] := SB.trans hsm16_1 hp179_7 (by decide)
    have hf179_11 : fs2_mm179_4[75]? = some (.long z5_1) := SB.get hp179_7 (by decide) hfm16_1_75
    have hf179_12 : fs2_mm179_4[77]? = some (.int 0) := SB.get hp179_7 (by decide) hfm16_1_77
    have hp179_8 : rg y_mm_76179_5 0 1 := hp179_8
    have hP : va_P D vwCl [(upl_, .inl (ct 1, 16, .inl g_upl_)), (upb, .inl (ct 1, 4096, .inl g_upb)), (ustk, .inl (ct 1, 64, .inl g_ustk)), (mm, .inr (16, fs2_mm179_4)), (ureg, .inl (ct 2, 32, .inr (.inl k_ureg179_6)))] _ := hP
    have hD : va_D A [(upl_, .inl (ct 1, 16, .inl g_upl_)), (upb, .inl (ct 1, 4096, .inl g_upb)), (ustk, .inl (ct 1, 64, .inl g_ustk)), (mm, .inr (16, fs2_mm179_4)), (ureg, .inl (ct 2, 32, .inr (.inl k_ureg179_6)))] := hD
    refine lv_goto (tgt := 224) hx hb dX16_one_182 (by decide) ?_
    have hP := hP.sub (ws' := [(mm, .inr (16, fs2_mm179_4)), (ureg, .inl (ct 2, 32, .inr (.inl k_ureg179_6))), (upl_, .inl (ct 1, 16, .inl g_upl_)), (upb, .inl (ct 1, 4096, .inl g_upb)), (ustk, .inl (ct 1, 64, .inl g_ustk))]) [3, 4, 0, 1, 2] rfl
    have hD := hD.sub (ws' := [(mm, .inr (16, fs2_mm179_4)), (ureg, .inl (ct 2, 32, .inr (.inl k_ureg179_6))), (upl_, .inl (ct 1, 16, .inl g_upl_)), (upb, .inl (ct 1, 4096, .inl g_upb)), (ustk, .inl (ct 1, 64, .inl g_ustk))]) [3, 4, 0, 1, 2] (by decide) rfl
    exact b224 fs2_mm179_4 z5_1 y_mm_76179_5 (0 : Int32) k_ureg179_6 g_ustk H locs ls hs179_10 hf179_11 hp179_8 hp179_9 (rg_w (show rg (0 : Int32) 0 0 from rg_l (by decide)) (by decide)) hf179_12 h_g_ustk (lv_sub hl [2] rfl) hP hD hS
  by_cases h23_121 : z22_1.toInt = 27
  · have r23_122 : rg z22_1 27 27 := rg_at h23_121
    refine lv_lookup (off := 162) (tgt := 185) hx hb dX16_one_23 (by decide) (by rw [h23_121]; rfl) (by decide) ?_
    refine lv_aload_n hx hb dX16_one_185 rfl (lv_at hl 0 rfl) ?_
    refine lv_iload_n hx hb dX16_one_186 rfl (lv_at hl 2 rfl) ?_
    refine go_v (k1 := 0) (n1 := 0) (wr := [(upl_, .inl (ct 1, 16, .inl g_upl_)), (upb, .inl (ct 1, 4096, .inl g_upb)), (ustk, .inl (ct 1, 64, .inl g_ustk))]) [0, 1] [2, 3, 4] (rn_V (As := [.int v1]) (rest := []) (c_X16_numberWordShort l D ct mm v1 m16_1 ureg (0 : Int32) g_ureg (hsm16_1.1.trans hlen_mm) (SB.get hsm16_1 (by decide) hf_mm_33) (rg_w (show rg (0 : Int32) 0 0 from rg_l (by decide)) (by decide)) hfm16_1_76 _) (cb_of (n := 1) hn mw_2713 mw_13 mw_2710 mhX16_numberWordShort ⟨(Nat.le_of_ble_eq_true rfl), (Nat.le_of_ble_eq_true rfl)⟩) hx hb hml hown hn hK hSK hZ hS mw_2712 mw_s285 (ci := 16) (q0 := 0) rfl rfl rfl rfl hl.1 (Nat.le_of_ble_eq_true rfl) dX16_one_187 ⟨(Nat.le_of_ble_eq_true rfl), (Nat.le_of_ble_eq_true rfl)⟩) hP hD hS hA rfl rfl (by decide) (by decide) (by decide) (Nat.le_of_ble_eq_true rfl) (Nat.le_of_ble_eq_true rfl) (fun u187_2 H locs hp187_3 hP hD hS => ?_)
    obtain ⟨fs2_mm187_4, y_mm_76187_5, k_ureg187_6⟩ := u187_2
    obtain ⟨hp187_7, hp187_8, hp187_9⟩ := hp187_3
    have hs187_10 : SB fs_mm fs2_mm187_4 [75, 76, 77] := SB.trans hsm16_1 hp187_7 (by decide)
    have hf187_11 : fs2_mm187_4[75]? = some (.long z5_1) := SB.get hp187_7 (by decide) hfm16_1_75
    have hf187_12 : fs2_mm187_4[77]? = some (.int 0) := SB.get hp187_7 (by decide) hfm16_1_77
    have hp187_8 : rg y_mm_76187_5 0 1 := hp187_8
    have hP : va_P D vwCl [(upl_, .inl (ct 1, 16, .inl g_upl_)), (upb, .inl (ct 1, 4096, .inl g_upb)), (ustk, .inl (ct 1, 64, .inl g_ustk)), (mm, .inr (16, fs2_mm187_4)), (ureg, .inl (ct 2, 32, .inr (.inl k_ureg187_6)))] _ := hP
    have hD : va_D A [(upl_, .inl (ct 1, 16, .inl g_upl_)), (upb, .inl (ct 1, 4096, .inl g_upb)), (ustk, .inl (ct 1, 64, .inl g_ustk)), (mm, .inr (16, fs2_mm187_4)), (ureg, .inl (ct 2, 32, .inr (.inl k_ureg187_6)))] := hD
    refine lv_goto (tgt := 224) hx hb dX16_one_190 (by decide) ?_
    have hP := hP.sub (ws' := [(mm, .inr (16, fs2_mm187_4)), (ureg, .inl (ct 2, 32, .inr (.inl k_ureg187_6))), (upl_, .inl (ct 1, 16, .inl g_upl_)), (upb, .inl (ct 1, 4096, .inl g_upb)), (ustk, .inl (ct 1, 64, .inl g_ustk))]) [3, 4, 0, 1, 2] rfl
    have hD := hD.sub (ws' := [(mm, .inr (16, fs2_mm187_4)), (ureg, .inl (ct 2, 32, .inr (.inl k_ureg187_6))), (upl_, .inl (ct 1, 16, .inl g_upl_)), (upb, .inl (ct 1, 4096, .inl g_upb)), (ustk, .inl (ct 1, 64, .inl g_ustk))]) [3, 4, 0, 1, 2] (by decide) rfl
    exact b224 fs2_mm187_4 z5_1 y_mm_76187_5 (0 : Int32) k_ureg187_6 g_ustk H locs ls hs187_10 hf187_11 hp187_8 hp187_9 (rg_w (show rg (0 : Int32) 0 0 from rg_l (by decide)) (by decide)) hf187_12 h_g_ustk (lv_sub hl [2] rfl) hP hD hS
  by_cases h23_131 : z22_1.toInt = 35
  · have r23_132 : rg z22_1 35 35 := rg_at h23_131
    refine lv_lookup (off := 145) (tgt := 168) hx hb dX16_one_23 (by decide) (by rw [h23_131]; rfl) (by decide) ?_
    refine lv_aload_n hx hb dX16_one_168 rfl (lv_at hl 0 rfl) ?_
    refine lv_iload_n hx hb dX16_one_169 rfl (lv_at hl 1 rfl) ?_
    refine lv_iload_n hx hb dX16_one_170 rfl (lv_at hl 2 rfl) ?_
    refine go_v (k1 := 0) (n1 := 0) (wr := [(upb, .inl (ct 1, 4096, .inl g_upb))]) [0, 1, 2, 4] [3] (rn_V (As := [.int v0, .int v1]) (rest := []) (c_X16_storeWord_ l D ct mm v0 v1 m16_1 upl_ ureg ustk (0 : Int32) (0 : Int32) g_ureg g_upl_ g_ustk h_v0 (hsm16_1.1.trans hlen_mm) (SB.get hsm16_1 (by decide) hf_mm_3) (SB.get hsm16_1 (by decide) hf_mm_33) (SB.get hsm16_1 (by decide) hf_mm_34) (rg_w (show rg (0 : Int32) 0 0 from rg_l (by decide)) (by decide)) hfm16_1_76 (rg_w (show rg (0 : Int32) 0 0 from rg_l (by decide)) (by decide)) hfm16_1_77 h_g_upl_ h_g_ustk _) (cb_of (n := 2) hn mw_2705 mw_13 mw_2702 mhX16_storeWord_ ⟨(Nat.le_of_ble_eq_true rfl), (Nat.le_of_ble_eq_true rfl)⟩) hx hb hml hown hn hK hSK hZ hS mw_2704 mw_s283 (ci := 16) (q0 := 0) rfl rfl rfl rfl hl.1 (Nat.le_of_ble_eq_true rfl) dX16_one_171 ⟨(Nat.le_of_ble_eq_true rfl), (Nat.le_of_ble_eq_true rfl)⟩) hP hD hS hA rfl rfl (by decide) (by decide) (by decide) (Nat.le_of_ble_eq_true rfl) (Nat.le_of_ble_eq_true rfl) (fun u171_2 H locs hp171_3 hP hD hS => ?_)
    obtain ⟨fs2_mm171_4, y_mm_76171_5, y_mm_77171_6, k_ustk171_7⟩ := u171_2
    obtain ⟨hp171_8, hp171_9, hp171_10, hp171_11, hp171_12, hp171_13⟩ := hp171_3
    have hs171_14 : SB fs_mm fs2_mm171_4 [75, 76, 77] := SB.trans hsm16_1 hp171_8 (by decide)
    have hf171_15 : fs2_mm171_4[75]? = some (.long z5_1) := SB.get hp171_8 (by decide) hfm16_1_75
    have hp171_9 : rg y_mm_76171_5 0 1 := hp171_9
    have hp171_11 : rg y_mm_77171_6 0 1 := hp171_11
    have hP : va_P D vwCl [(upb, .inl (ct 1, 4096, .inl g_upb)), (mm, .inr (16, fs2_mm171_4)), (ureg, .inl (ct 2, 32, .inr (.inl g_ureg))), (upl_, .inl (ct 1, 16, .inl g_upl_)), (ustk, .inl (ct 1, 64, .inl k_ustk171_7))] _ := hP
    have hD : va_D A [(upb, .inl (ct 1, 4096, .inl g_upb)), (mm, .inr (16, fs2_mm171_4)), (ureg, .inl (ct 2, 32, .inr (.inl g_ureg))), (upl_, .inl (ct 1, 16, .inl g_upl_)), (ustk, .inl (ct 1, 64, .inl k_ustk171_7))] := hD
    refine lv_goto (tgt := 224) hx hb dX16_one_174 (by decide) ?_
    have hP := hP.sub (ws' := [(mm, .inr (16, fs2_mm171_4)), (ureg, .inl (ct 2, 32, .inr (.inl g_ureg))), (upl_, .inl (ct 1, 16, .inl g_upl_)), (upb, .inl (ct 1, 4096, .inl g_upb)), (ustk, .inl (ct 1, 64, .inl k_ustk171_7))]) [1, 2, 3, 0, 4] rfl
    have hD := hD.sub (ws' := [(mm, .inr (16, fs2_mm171_4)), (ureg, .inl (ct 2, 32, .inr (.inl g_ureg))), (upl_, .inl (ct 1, 16, .inl g_upl_)), (upb, .inl (ct 1, 4096, .inl g_upb)), (ustk, .inl (ct 1, 64, .inl k_ustk171_7))]) [1, 2, 3, 0, 4] (by decide) rfl
    exact b224 fs2_mm171_4 z5_1 y_mm_76171_5 y_mm_77171_6 g_ureg k_ustk171_7 H locs ls hs171_14 hf171_15 hp171_9 hp171_10 hp171_11 hp171_12 hp171_13 (lv_sub hl [2] rfl) hP hD hS
  by_cases h23_141 : z22_1.toInt = 51
  · have r23_142 : rg z22_1 51 51 := rg_at h23_141
    refine lv_lookup (off := 170) (tgt := 193) hx hb dX16_one_23 (by decide) (by rw [h23_141]; rfl) (by decide) ?_
    refine lv_aload_n hx hb dX16_one_193 rfl (lv_at hl 0 rfl) ?_
    refine lv_iload_n hx hb dX16_one_194 rfl (lv_at hl 2 rfl) ?_
    refine go_v (k1 := 0) (n1 := 0) (wr := [(upl_, .inl (ct 1, 16, .inl g_upl_)), (upb, .inl (ct 1, 4096, .inl g_upb)), (ustk, .inl (ct 1, 64, .inl g_ustk))]) [0, 1] [2, 3, 4] (rn_V (As := [.int v1]) (rest := []) (c_X16_registerWord l D ct mm v1 m16_1 ureg (0 : Int32) g_ureg (hsm16_1.1.trans hlen_mm) (SB.get hsm16_1 (by decide) hf_mm_33) (rg_w (show rg (0 : Int32) 0 0 from rg_l (by decide)) (by decide)) hfm16_1_76 _) (cb_of (n := 1) hn mw_2717 mw_13 mw_2714 mhX16_registerWord ⟨(Nat.le_of_ble_eq_true rfl), (Nat.le_of_ble_eq_true rfl)⟩) hx hb hml hown hn hK hSK hZ hS mw_2716 mw_s286 (ci := 16) (q0 := 0) rfl rfl rfl rfl hl.1 (Nat.le_of_ble_eq_true rfl) dX16_one_195 ⟨(Nat.le_of_ble_eq_true rfl), (Nat.le_of_ble_eq_true rfl)⟩) hP hD hS hA rfl rfl (by decide) (by decide) (by decide) (Nat.le_of_ble_eq_true rfl) (Nat.le_of_ble_eq_true rfl) (fun u195_2 H locs hp195_3 hP hD hS => ?_)
    obtain ⟨fs2_mm195_4, y_mm_76195_5, k_ureg195_6⟩ := u195_2
    obtain ⟨hp195_7, hp195_8, hp195_9⟩ := hp195_3
    have hs195_10 : SB fs_mm fs2_mm195_4 [75, 76, 77] := SB.trans hsm16_1 hp195_7 (by decide)
    have hf195_11 : fs2_mm195_4[75]? = some (.long z5_1) := SB.get hp195_7 (by decide) hfm16_1_75
    have hf195_12 : fs2_mm195_4[77]? = some (.int 0) := SB.get hp195_7 (by decide) hfm16_1_77
    have hp195_8 : rg y_mm_76195_5 0 1 := hp195_8
    have hP : va_P D vwCl [(upl_, .inl (ct 1, 16, .inl g_upl_)), (upb, .inl (ct 1, 4096, .inl g_upb)), (ustk, .inl (ct 1, 64, .inl g_ustk)), (mm, .inr (16, fs2_mm195_4)), (ureg, .inl (ct 2, 32, .inr (.inl k_ureg195_6)))] _ := hP
    have hD : va_D A [(upl_, .inl (ct 1, 16, .inl g_upl_)), (upb, .inl (ct 1, 4096, .inl g_upb)), (ustk, .inl (ct 1, 64, .inl g_ustk)), (mm, .inr (16, fs2_mm195_4)), (ureg, .inl (ct 2, 32, .inr (.inl k_ureg195_6)))] := hD
    refine lv_goto (tgt := 224) hx hb dX16_one_198 (by decide) ?_
    have hP := hP.sub (ws' := [(mm, .inr (16, fs2_mm195_4)), (ureg, .inl (ct 2, 32, .inr (.inl k_ureg195_6))), (upl_, .inl (ct 1, 16, .inl g_upl_)), (upb, .inl (ct 1, 4096, .inl g_upb)), (ustk, .inl (ct 1, 64, .inl g_ustk))]) [3, 4, 0, 1, 2] rfl
    have hD := hD.sub (ws' := [(mm, .inr (16, fs2_mm195_4)), (ureg, .inl (ct 2, 32, .inr (.inl k_ureg195_6))), (upl_, .inl (ct 1, 16, .inl g_upl_)), (upb, .inl (ct 1, 4096, .inl g_upb)), (ustk, .inl (ct 1, 64, .inl g_ustk))]) [3, 4, 0, 1, 2] (by decide) rfl
    exact b224 fs2_mm195_4 z5_1 y_mm_76195_5 (0 : Int32) k_ureg195_6 g_ustk H locs ls hs195_10 hf195_11 hp195_8 hp195_9 (rg_w (show rg (0 : Int32) 0 0 from rg_l (by decide)) (by decide)) hf195_12 h_g_ustk (lv_sub hl [2] rfl) hP hD hS
  by_cases h23_151 : z22_1.toInt = 55
  · have r23_152 : rg z22_1 55 55 := rg_at h23_151
    refine lv_lookup (off := 89) (tgt := 112) hx hb dX16_one_23 (by decide) (by rw [h23_151]; rfl) (by decide) ?_
    refine lv_aload_n hx hb dX16_one_112 rfl (lv_at hl 0 rfl) ?_
    refine lv_iload_n hx hb dX16_one_113 rfl (lv_at hl 2 rfl) ?_
    refine lv_bipush (v := 7) hx hb dX16_one_114 (by decide) ?_
    refine lv_ishr hx hb dX16_one_116 ?_
    refine lv_topi (fun z116_1 ez116_1 => ?_)
    have r116_2 : rg z116_1 (-16777216) 16777215 := rg_shr (k := 7) ez116_1 (by decide) (rg_any v1) (by decide)
    refine lv_bipush (v := 31) hx hb dX16_one_117 (by decide) ?_
    refine lv_iand hx hb dX16_one_119 ?_
    refine lv_topi (fun z119_1 ez119_1 => ?_)
    have r119_2 : rg z119_1 0 31 := rg_andr ez119_1 (show rg (31 : Int32) 31 31 from rg_l (by decide)) (by decide)
    refine lv_iload_n hx hb dX16_one_120 rfl (lv_at hl 2 rfl) ?_
    refine lv_sipush (v := (-4096)) hx hb dX16_one_121 (by decide) ?_
    refine lv_iand hx hb dX16_one_124 ?_
    refine lv_topi (fun z124_1 ez124_1 => ?_)
    refine lv_i2l hx hb dX16_one_125 rfl ?_
    refine lv_topl (fun z125_1 ez125_1 => ?_)
    have r125_2 : rl z125_1 (-2147483648) 2147483647 := rl_i2l ez125_1 (rg_any z124_1)
    refine go_v (k1 := 0) (n1 := 0) (wr := [(upl_, .inl (ct 1, 16, .inl g_upl_)), (upb, .inl (ct 1, 4096, .inl g_upb)), (ustk, .inl (ct 1, 64, .inl g_ustk))]) [0, 1] [2, 3, 4] (rn_V (As := [.int z119_1, .long z125_1]) (rest := []) (c_X16_set l D ct mm z119_1 z125_1 m16_1 ureg g_ureg r119_2 (hsm16_1.1.trans hlen_mm) (SB.get hsm16_1 (by decide) hf_mm_33) _) (cb_of (n := 2) hn mw_2674 mw_13 mw_2671 mhX16_set ⟨(Nat.le_of_ble_eq_true rfl), (Nat.le_of_ble_eq_true rfl)⟩) hx hb hml hown hn hK hSK hZ hS mw_2673 mw_s276 (ci := 16) (q0 := 0) rfl rfl rfl rfl hl.1 (Nat.le_of_ble_eq_true rfl) dX16_one_126 ⟨(Nat.le_of_ble_eq_true rfl), (Nat.le_of_ble_eq_true rfl)⟩) hP hD hS hA rfl rfl (by decide) (by decide) (by decide) (Nat.le_of_ble_eq_true rfl) (Nat.le_of_ble_eq_true rfl) (fun u126_2 H locs hp126_3 hP hD hS => ?_)
    have hP : va_P D vwCl [(upl_, .inl (ct 1, 16, .inl g_upl_)), (upb, .inl (ct 1, 4096, .inl g_upb)), (ustk, .inl (ct 1, 64, .inl g_ustk)), (mm, .inr (16, m16_1)), (ureg, .inl (ct 2, 32, .inr (.inl u126_2)))] _ := hP
    have hD : va_D A [(upl_, .inl (ct 1, 16, .inl g_upl_)), (upb, .inl (ct 1, 4096, .inl g_upb)), (ustk, .inl (ct 1, 64, .inl g_ustk)), (mm, .inr (16, m16_1)), (ureg, .inl (ct 2, 32, .inr (.inl u126_2)))] := hD
    refine lv_goto (tgt := 224) hx hb dX16_one_129 (by decide) ?_
    have hP := hP.sub (ws' := [(mm, .inr (16, m16_1)), (ureg, .inl (ct 2, 32, .inr (.inl u126_2))), (upl_, .inl (ct 1, 16, .inl g_upl_)), (upb, .inl (ct 1, 4096, .inl g_upb)), (ustk, .inl (ct 1, 64, .inl g_ustk))]) [3, 4, 0, 1, 2] rfl
    have hD := hD.sub (ws' := [(mm, .inr (16, m16_1)), (ureg, .inl (ct 2, 32, .inr (.inl u126_2))), (upl_, .inl (ct 1, 16, .inl g_upl_)), (upb, .inl (ct 1, 4096, .inl g_upb)), (ustk, .inl (ct 1, 64, .inl g_ustk))]) [3, 4, 0, 1, 2] (by decide) rfl
    exact b224 m16_1 z5_1 (0 : Int32) (0 : Int32) u126_2 g_ustk H locs ls hsm16_1 hfm16_1_75 (rg_w (show rg (0 : Int32) 0 0 from rg_l (by decide)) (by decide)) hfm16_1_76 (rg_w (show rg (0 : Int32) 0 0 from rg_l (by decide)) (by decide)) hfm16_1_77 h_g_ustk (lv_sub hl [2] rfl) hP hD hS
  by_cases h23_161 : z22_1.toInt = 59
  · have r23_162 : rg z22_1 59 59 := rg_at h23_161
    refine lv_lookup (off := 178) (tgt := 201) hx hb dX16_one_23 (by decide) (by rw [h23_161]; rfl) (by decide) ?_
    refine lv_aload_n hx hb dX16_one_201 rfl (lv_at hl 0 rfl) ?_
    refine lv_iload_n hx hb dX16_one_202 rfl (lv_at hl 2 rfl) ?_
    refine go_v (k1 := 0) (n1 := 0) (wr := [(upl_, .inl (ct 1, 16, .inl g_upl_)), (upb, .inl (ct 1, 4096, .inl g_upb)), (ustk, .inl (ct 1, 64, .inl g_ustk))]) [0, 1] [2, 3, 4] (rn_V (As := [.int v1]) (rest := []) (c_X16_registerWordShort l D ct mm v1 m16_1 ureg (0 : Int32) g_ureg (hsm16_1.1.trans hlen_mm) (SB.get hsm16_1 (by decide) hf_mm_33) (rg_w (show rg (0 : Int32) 0 0 from rg_l (by decide)) (by decide)) hfm16_1_76 _) (cb_of (n := 1) hn mw_2721 mw_13 mw_2718 mhX16_registerWordShort ⟨(Nat.le_of_ble_eq_true rfl), (Nat.le_of_ble_eq_true rfl)⟩) hx hb hml hown hn hK hSK hZ hS mw_2720 mw_s287 (ci := 16) (q0 := 0) rfl rfl rfl rfl hl.1 (Nat.le_of_ble_eq_true rfl) dX16_one_203 ⟨(Nat.le_of_ble_eq_true rfl), (Nat.le_of_ble_eq_true rfl)⟩) hP hD hS hA rfl rfl (by decide) (by decide) (by decide) (Nat.le_of_ble_eq_true rfl) (Nat.le_of_ble_eq_true rfl) (fun u203_2 H locs hp203_3 hP hD hS => ?_)
    obtain ⟨fs2_mm203_4, y_mm_76203_5, k_ureg203_6⟩ := u203_2
    obtain ⟨hp203_7, hp203_8, hp203_9⟩ := hp203_3
    have hs203_10 : SB fs_mm fs2_mm203_4 [75, 76, 77] := SB.trans hsm16_1 hp203_7 (by decide)
    have hf203_11 : fs2_mm203_4[75]? = some (.long z5_1) := SB.get hp203_7 (by decide) hfm16_1_75
    have hf203_12 : fs2_mm203_4[77]? = some (.int 0) := SB.get hp203_7 (by decide) hfm16_1_77
    have hp203_8 : rg y_mm_76203_5 0 1 := hp203_8
    have hP : va_P D vwCl [(upl_, .inl (ct 1, 16, .inl g_upl_)), (upb, .inl (ct 1, 4096, .inl g_upb)), (ustk, .inl (ct 1, 64, .inl g_ustk)), (mm, .inr (16, fs2_mm203_4)), (ureg, .inl (ct 2, 32, .inr (.inl k_ureg203_6)))] _ := hP
    have hD : va_D A [(upl_, .inl (ct 1, 16, .inl g_upl_)), (upb, .inl (ct 1, 4096, .inl g_upb)), (ustk, .inl (ct 1, 64, .inl g_ustk)), (mm, .inr (16, fs2_mm203_4)), (ureg, .inl (ct 2, 32, .inr (.inl k_ureg203_6)))] := hD
    refine lv_goto (tgt := 224) hx hb dX16_one_206 (by decide) ?_
    have hP := hP.sub (ws' := [(mm, .inr (16, fs2_mm203_4)), (ureg, .inl (ct 2, 32, .inr (.inl k_ureg203_6))), (upl_, .inl (ct 1, 16, .inl g_upl_)), (upb, .inl (ct 1, 4096, .inl g_upb)), (ustk, .inl (ct 1, 64, .inl g_ustk))]) [3, 4, 0, 1, 2] rfl
    have hD := hD.sub (ws' := [(mm, .inr (16, fs2_mm203_4)), (ureg, .inl (ct 2, 32, .inr (.inl k_ureg203_6))), (upl_, .inl (ct 1, 16, .inl g_upl_)), (upb, .inl (ct 1, 4096, .inl g_upb)), (ustk, .inl (ct 1, 64, .inl g_ustk))]) [3, 4, 0, 1, 2] (by decide) rfl
    exact b224 fs2_mm203_4 z5_1 y_mm_76203_5 (0 : Int32) k_ureg203_6 g_ustk H locs ls hs203_10 hf203_11 hp203_8 hp203_9 (rg_w (show rg (0 : Int32) 0 0 from rg_l (by decide)) (by decide)) hf203_12 h_g_ustk (lv_sub hl [2] rfl) hP hD hS
  by_cases h23_171 : z22_1.toInt = 99
  · have r23_172 : rg z22_1 99 99 := rg_at h23_171
    refine lv_lookup (off := 127) (tgt := 150) hx hb dX16_one_23 (by decide) (by rw [h23_171]; rfl) (by decide) ?_
    refine lv_aload_n hx hb dX16_one_150 rfl (lv_at hl 0 rfl) ?_
    refine lv_iload_n hx hb dX16_one_151 rfl (lv_at hl 2 rfl) ?_
    refine lv_lload_n hx hb dX16_one_152 rfl (lv_at hl 3 rfl) ?_
    refine go_v (k1 := 0) (n1 := 0) (wr := [(upl_, .inl (ct 1, 16, .inl g_upl_)), (upb, .inl (ct 1, 4096, .inl g_upb)), (ustk, .inl (ct 1, 64, .inl g_ustk))]) [0, 1] [2, 3, 4] (rn_V (As := [.int v1, .long v2]) (rest := []) (c_X16_branchWord l D ct mm v1 v2 m16_1 ureg z5_1 (0 : Int32) g_ureg (hsm16_1.1.trans hlen_mm) (SB.get hsm16_1 (by decide) hf_mm_33) hfm16_1_75 (rg_w (show rg (0 : Int32) 0 0 from rg_l (by decide)) (by decide)) hfm16_1_76 _) (cb_of (n := 2) hn mw_2686 mw_13 mw_2683 mhX16_branchWord ⟨(Nat.le_of_ble_eq_true rfl), (Nat.le_of_ble_eq_true rfl)⟩) hx hb hml hown hn hK hSK hZ hS mw_2685 mw_s279 (ci := 16) (q0 := 0) rfl rfl rfl rfl hl.1 (Nat.le_of_ble_eq_true rfl) dX16_one_153 ⟨(Nat.le_of_ble_eq_true rfl), (Nat.le_of_ble_eq_true rfl)⟩) hP hD hS hA rfl rfl (by decide) (by decide) (by decide) (Nat.le_of_ble_eq_true rfl) (Nat.le_of_ble_eq_true rfl) (fun u153_2 H locs hp153_3 hP hD hS => ?_)
    obtain ⟨fs2_mm153_4, y_mm_75153_5, y_mm_76153_6⟩ := u153_2
    obtain ⟨hp153_7, hp153_8, hp153_9, hp153_10⟩ := hp153_3
    have hs153_11 : SB fs_mm fs2_mm153_4 [75, 76, 77] := SB.trans hsm16_1 hp153_7 (by decide)
    have hf153_12 : fs2_mm153_4[77]? = some (.int 0) := SB.get hp153_7 (by decide) hfm16_1_77
    have hp153_9 : rg y_mm_76153_6 0 1 := hp153_9
    have hP : va_P D vwCl [(upl_, .inl (ct 1, 16, .inl g_upl_)), (upb, .inl (ct 1, 4096, .inl g_upb)), (ustk, .inl (ct 1, 64, .inl g_ustk)), (mm, .inr (16, fs2_mm153_4)), (ureg, .inl (ct 2, 32, .inr (.inl g_ureg)))] _ := hP
    have hD : va_D A [(upl_, .inl (ct 1, 16, .inl g_upl_)), (upb, .inl (ct 1, 4096, .inl g_upb)), (ustk, .inl (ct 1, 64, .inl g_ustk)), (mm, .inr (16, fs2_mm153_4)), (ureg, .inl (ct 2, 32, .inr (.inl g_ureg)))] := hD
    refine lv_goto (tgt := 224) hx hb dX16_one_156 (by decide) ?_
    have hP := hP.sub (ws' := [(mm, .inr (16, fs2_mm153_4)), (ureg, .inl (ct 2, 32, .inr (.inl g_ureg))), (upl_, .inl (ct 1, 16, .inl g_upl_)), (upb, .inl (ct 1, 4096, .inl g_upb)), (ustk, .inl (ct 1, 64, .inl g_ustk))]) [3, 4, 0, 1, 2] rfl
    have hD := hD.sub (ws' := [(mm, .inr (16, fs2_mm153_4)), (ureg, .inl (ct 2, 32, .inr (.inl g_ureg))), (upl_, .inl (ct 1, 16, .inl g_upl_)), (upb, .inl (ct 1, 4096, .inl g_upb)), (ustk, .inl (ct 1, 64, .inl g_ustk))]) [3, 4, 0, 1, 2] (by decide) rfl
    exact b224 fs2_mm153_4 y_mm_75153_5 y_mm_76153_6 (0 : Int32) g_ureg g_ustk H locs ls hs153_11 hp153_8 hp153_9 hp153_10 (rg_w (show rg (0 : Int32) 0 0 from rg_l (by decide)) (by decide)) hf153_12 h_g_ustk (lv_sub hl [2] rfl) hP hD hS
  by_cases h23_181 : z22_1.toInt = 103
  · have r23_182 : rg z22_1 103 103 := rg_at h23_181
    refine lv_lookup (off := 118) (tgt := 141) hx hb dX16_one_23 (by decide) (by rw [h23_181]; rfl) (by decide) ?_
    refine lv_aload_n hx hb dX16_one_141 rfl (lv_at hl 0 rfl) ?_
    refine lv_iload_n hx hb dX16_one_142 rfl (lv_at hl 2 rfl) ?_
    refine lv_lload_n hx hb dX16_one_143 rfl (lv_at hl 3 rfl) ?_
    refine go_v (k1 := 0) (n1 := 0) (wr := [(upl_, .inl (ct 1, 16, .inl g_upl_)), (upb, .inl (ct 1, 4096, .inl g_upb)), (ustk, .inl (ct 1, 64, .inl g_ustk))]) [0, 1] [2, 3, 4] (rn_V (As := [.int v1, .long v2]) (rest := []) (c_X16_jumpRegister l D ct mm v1 v2 m16_1 ureg z5_1 (0 : Int32) g_ureg (hsm16_1.1.trans hlen_mm) (SB.get hsm16_1 (by decide) hf_mm_33) hfm16_1_75 (rg_w (show rg (0 : Int32) 0 0 from rg_l (by decide)) (by decide)) hfm16_1_76 _) (cb_of (n := 2) hn mw_2682 mw_13 mw_2679 mhX16_jumpRegister ⟨(Nat.le_of_ble_eq_true rfl), (Nat.le_of_ble_eq_true rfl)⟩) hx hb hml hown hn hK hSK hZ hS mw_2681 mw_s278 (ci := 16) (q0 := 0) rfl rfl rfl rfl hl.1 (Nat.le_of_ble_eq_true rfl) dX16_one_144 ⟨(Nat.le_of_ble_eq_true rfl), (Nat.le_of_ble_eq_true rfl)⟩) hP hD hS hA rfl rfl (by decide) (by decide) (by decide) (Nat.le_of_ble_eq_true rfl) (Nat.le_of_ble_eq_true rfl) (fun u144_2 H locs hp144_3 hP hD hS => ?_)
    obtain ⟨fs2_mm144_4, y_mm_75144_5, y_mm_76144_6, k_ureg144_7⟩ := u144_2
    obtain ⟨hp144_8, hp144_9, hp144_10, hp144_11⟩ := hp144_3
    have hs144_12 : SB fs_mm fs2_mm144_4 [75, 76, 77] := SB.trans hsm16_1 hp144_8 (by decide)
    have hf144_13 : fs2_mm144_4[77]? = some (.int 0) := SB.get hp144_8 (by decide) hfm16_1_77
    have hp144_10 : rg y_mm_76144_6 0 1 := hp144_10
    have hP : va_P D vwCl [(upl_, .inl (ct 1, 16, .inl g_upl_)), (upb, .inl (ct 1, 4096, .inl g_upb)), (ustk, .inl (ct 1, 64, .inl g_ustk)), (mm, .inr (16, fs2_mm144_4)), (ureg, .inl (ct 2, 32, .inr (.inl k_ureg144_7)))] _ := hP
    have hD : va_D A [(upl_, .inl (ct 1, 16, .inl g_upl_)), (upb, .inl (ct 1, 4096, .inl g_upb)), (ustk, .inl (ct 1, 64, .inl g_ustk)), (mm, .inr (16, fs2_mm144_4)), (ureg, .inl (ct 2, 32, .inr (.inl k_ureg144_7)))] := hD
    refine lv_goto (tgt := 224) hx hb dX16_one_147 (by decide) ?_
    have hP := hP.sub (ws' := [(mm, .inr (16, fs2_mm144_4)), (ureg, .inl (ct 2, 32, .inr (.inl k_ureg144_7))), (upl_, .inl (ct 1, 16, .inl g_upl_)), (upb, .inl (ct 1, 4096, .inl g_upb)), (ustk, .inl (ct 1, 64, .inl g_ustk))]) [3, 4, 0, 1, 2] rfl
    have hD := hD.sub (ws' := [(mm, .inr (16, fs2_mm144_4)), (ureg, .inl (ct 2, 32, .inr (.inl k_ureg144_7))), (upl_, .inl (ct 1, 16, .inl g_upl_)), (upb, .inl (ct 1, 4096, .inl g_upb)), (ustk, .inl (ct 1, 64, .inl g_ustk))]) [3, 4, 0, 1, 2] (by decide) rfl
    exact b224 fs2_mm144_4 y_mm_75144_5 y_mm_76144_6 (0 : Int32) k_ureg144_7 g_ustk H locs ls hs144_12 hp144_9 hp144_10 hp144_11 (rg_w (show rg (0 : Int32) 0 0 from rg_l (by decide)) (by decide)) hf144_13 h_g_ustk (lv_sub hl [2] rfl) hP hD hS
  by_cases h23_191 : z22_1.toInt = 111
  · have r23_192 : rg z22_1 111 111 := rg_at h23_191
    refine lv_lookup (off := 109) (tgt := 132) hx hb dX16_one_23 (by decide) (by rw [h23_191]; rfl) (by decide) ?_
    refine lv_aload_n hx hb dX16_one_132 rfl (lv_at hl 0 rfl) ?_
    refine lv_iload_n hx hb dX16_one_133 rfl (lv_at hl 2 rfl) ?_
    refine lv_lload_n hx hb dX16_one_134 rfl (lv_at hl 3 rfl) ?_
    refine go_v (k1 := 0) (n1 := 0) (wr := [(upl_, .inl (ct 1, 16, .inl g_upl_)), (upb, .inl (ct 1, 4096, .inl g_upb)), (ustk, .inl (ct 1, 64, .inl g_ustk))]) [0, 1] [2, 3, 4] (rn_V (As := [.int v1, .long v2]) (rest := []) (c_X16_jumpWord l D ct mm v1 v2 m16_1 ureg g_ureg (hsm16_1.1.trans hlen_mm) (SB.get hsm16_1 (by decide) hf_mm_33) _) (cb_of (n := 2) hn mw_2678 mw_13 mw_2675 mhX16_jumpWord ⟨(Nat.le_of_ble_eq_true rfl), (Nat.le_of_ble_eq_true rfl)⟩) hx hb hml hown hn hK hSK hZ hS mw_2677 mw_s277 (ci := 16) (q0 := 0) rfl rfl rfl rfl hl.1 (Nat.le_of_ble_eq_true rfl) dX16_one_135 ⟨(Nat.le_of_ble_eq_true rfl), (Nat.le_of_ble_eq_true rfl)⟩) hP hD hS hA rfl rfl (by decide) (by decide) (by decide) (Nat.le_of_ble_eq_true rfl) (Nat.le_of_ble_eq_true rfl) (fun u135_2 H locs hp135_3 hP hD hS => ?_)
    obtain ⟨fs2_mm135_4, y_mm_75135_5, k_ureg135_6⟩ := u135_2
    obtain ⟨hp135_7, hp135_8⟩ := hp135_3
    have hs135_9 : SB fs_mm fs2_mm135_4 [75, 76, 77] := SB.trans hsm16_1 hp135_7 (by decide)
    have hf135_10 : fs2_mm135_4[76]? = some (.int 0) := SB.get hp135_7 (by decide) hfm16_1_76
    have hf135_11 : fs2_mm135_4[77]? = some (.int 0) := SB.get hp135_7 (by decide) hfm16_1_77
    have hP : va_P D vwCl [(upl_, .inl (ct 1, 16, .inl g_upl_)), (upb, .inl (ct 1, 4096, .inl g_upb)), (ustk, .inl (ct 1, 64, .inl g_ustk)), (mm, .inr (16, fs2_mm135_4)), (ureg, .inl (ct 2, 32, .inr (.inl k_ureg135_6)))] _ := hP
    have hD : va_D A [(upl_, .inl (ct 1, 16, .inl g_upl_)), (upb, .inl (ct 1, 4096, .inl g_upb)), (ustk, .inl (ct 1, 64, .inl g_ustk)), (mm, .inr (16, fs2_mm135_4)), (ureg, .inl (ct 2, 32, .inr (.inl k_ureg135_6)))] := hD
    refine lv_goto (tgt := 224) hx hb dX16_one_138 (by decide) ?_
    have hP := hP.sub (ws' := [(mm, .inr (16, fs2_mm135_4)), (ureg, .inl (ct 2, 32, .inr (.inl k_ureg135_6))), (upl_, .inl (ct 1, 16, .inl g_upl_)), (upb, .inl (ct 1, 4096, .inl g_upb)), (ustk, .inl (ct 1, 64, .inl g_ustk))]) [3, 4, 0, 1, 2] rfl
    have hD := hD.sub (ws' := [(mm, .inr (16, fs2_mm135_4)), (ureg, .inl (ct 2, 32, .inr (.inl k_ureg135_6))), (upl_, .inl (ct 1, 16, .inl g_upl_)), (upb, .inl (ct 1, 4096, .inl g_upb)), (ustk, .inl (ct 1, 64, .inl g_ustk))]) [3, 4, 0, 1, 2] (by decide) rfl
    exact b224 fs2_mm135_4 y_mm_75135_5 (0 : Int32) (0 : Int32) k_ureg135_6 g_ustk H locs ls hs135_9 hp135_8 (rg_w (show rg (0 : Int32) 0 0 from rg_l (by decide)) (by decide)) hf135_10 (rg_w (show rg (0 : Int32) 0 0 from rg_l (by decide)) (by decide)) hf135_11 h_g_ustk (lv_sub hl [2] rfl) hP hD hS
  refine lv_lookup (off := 186) (tgt := 209) hx hb dX16_one_23 (by decide) (by simp [Op.lookupswitch.offset, (show ¬ (3 : Int) = z22_1.toInt from fun q => h23_101 q.symm), (show ¬ (19 : Int) = z22_1.toInt from fun q => h23_111 q.symm), (show ¬ (27 : Int) = z22_1.toInt from fun q => h23_121 q.symm), (show ¬ (35 : Int) = z22_1.toInt from fun q => h23_131 q.symm), (show ¬ (51 : Int) = z22_1.toInt from fun q => h23_141 q.symm), (show ¬ (55 : Int) = z22_1.toInt from fun q => h23_151 q.symm), (show ¬ (59 : Int) = z22_1.toInt from fun q => h23_161 q.symm), (show ¬ (99 : Int) = z22_1.toInt from fun q => h23_171 q.symm), (show ¬ (103 : Int) = z22_1.toInt from fun q => h23_181 q.symm), (show ¬ (111 : Int) = z22_1.toInt from fun q => h23_191 q.symm)]) (by decide) ?_
  have hl23_5001 := FF.mk h23_101
  have hl23_5002 := FF.mk h23_111
  have hl23_5003 := FF.mk h23_121
  have hl23_5004 := FF.mk h23_131
  have hl23_5005 := FF.mk h23_141
  have hl23_5006 := FF.mk h23_151
  have hl23_5007 := FF.mk h23_161
  have hl23_5008 := FF.mk h23_171
  have hl23_5009 := FF.mk h23_181
  have hl23_5010 := FF.mk h23_191
  refine lv_aload_n hx hb dX16_one_209 rfl (lv_at hl 0 rfl) ?_
  refine lv_iload_n hx hb dX16_one_210 rfl (lv_at hl 2 rfl) ?_
  refine lv_bipush (v := 115) hx hb dX16_one_211 (by decide) ?_
  have b221 : ∀ (j221_s0 : Int32) (H : Heap) (locs : List Loc) (ls : Array Slot), (rg j221_s0 0 1) → lv_has ls 5 [(2, .int v1)] → va_P D vwCl [(mm, .inr (16, m16_1)), (ureg, .inl (ct 2, 32, .inr (.inl g_ureg))), (upl_, .inl (ct 1, 16, .inl g_upl_)), (upb, .inl (ct 1, 4096, .inl g_upb)), (ustk, .inl (ct 1, 64, .inl g_ustk))] H → va_D A [(mm, .inr (16, m16_1)), (ureg, .inl (ct 2, 32, .inr (.inl g_ureg))), (upl_, .inl (ct 1, 16, .inl g_upl_)), (upb, .inl (ct 1, 4096, .inl g_upb)), (ustk, .inl (ct 1, 64, .inl g_ustk))] → va_S A s.heap H locs → W p l e ({ frames := 4, cells := 0, slots := 0, locals := 101 }) s m [.ref mm, .int v0, .int v1, .long v2].toArray below meth c H locs 0 0 Q (F0 m 221 ls [.int j221_s0, .ref mm]) := by
    intro j221_s0 H locs ls r221_1001 hl hP hD hS
    refine va_put (D := D) (ci := 16) (v := .int j221_s0) (ty := .boolean) (C := RX16) (T := TX16) (N := 78) hx hb (htX16 hn) (fun _ h => h) tyX16 tyX16_ok nmX16 hown hK hP hD hS 0 rfl rfl 76 (by decide) (hn.get mw_1615 rfl) (fun _ h9 => h9) rfl (by decide +kernel) (nar_bool r221_1001) (fit_bool r221_1001) (by rw [hsm16_1.1, hlen_mm]; decide) dX16_one_221 (fun H locs hP hD hS => ?_)
    have hP : va_P D vwCl [(mm, .inr (16, (m16_1.set 76 (.int j221_s0)))), (ureg, .inl (ct 2, 32, .inr (.inl g_ureg))), (upl_, .inl (ct 1, 16, .inl g_upl_)), (upb, .inl (ct 1, 4096, .inl g_upb)), (ustk, .inl (ct 1, 64, .inl g_ustk))] _ := hP
    have hD : va_D A [(mm, .inr (16, (m16_1.set 76 (.int j221_s0)))), (ureg, .inl (ct 2, 32, .inr (.inl g_ureg))), (upl_, .inl (ct 1, 16, .inl g_upl_)), (upb, .inl (ct 1, 4096, .inl g_upb)), (ustk, .inl (ct 1, 64, .inl g_ustk))] := hD
    obtain ⟨m221_1, em221_1⟩ : ∃ z, z = (m16_1.set 76 (.int j221_s0)) := ⟨_, rfl⟩
    rw [← em221_1] at hP hD
    have hsm221_1 : SB fs_mm m221_1 [75, 76, 77] := by rw [em221_1]; exact SB.set hsm16_1 (by decide)
    have hfm221_1_75 : m221_1[75]? = some (.long z5_1) := by rw [em221_1]; exact fs_ne (by decide) hfm16_1_75
    have hfm221_1_77 : m221_1[77]? = some (.int 0) := by rw [em221_1]; exact fs_ne (by decide) hfm16_1_77
    have hfm221_1_76 : m221_1[76]? = some (.int j221_s0) := by rw [em221_1]; exact fs_eq (by rw [hsm16_1.1, hlen_mm]; decide)
    have hP : va_P D vwCl [(mm, .inr (16, m221_1)), (ureg, .inl (ct 2, 32, .inr (.inl g_ureg))), (upl_, .inl (ct 1, 16, .inl g_upl_)), (upb, .inl (ct 1, 4096, .inl g_upb)), (ustk, .inl (ct 1, 64, .inl g_ustk))] _ := hP
    have hD : va_D A [(mm, .inr (16, m221_1)), (ureg, .inl (ct 2, 32, .inr (.inl g_ureg))), (upl_, .inl (ct 1, 16, .inl g_upl_)), (upb, .inl (ct 1, 4096, .inl g_upb)), (ustk, .inl (ct 1, 64, .inl g_ustk))] := hD
    exact b224 m221_1 z5_1 j221_s0 (0 : Int32) g_ureg g_ustk H locs ls hsm221_1 hfm221_1_75 r221_1001 hfm221_1_76 (rg_w (show rg (0 : Int32) 0 0 from rg_l (by decide)) (by decide)) hfm221_1_77 h_g_ustk (lv_sub hl [0] rfl) hP hD hS
  refine lv_icmp_eq (tgt := 220) hx hb dX16_one_213 (by decide) (fun c213_1 => ?_) (fun c213_1 => ?_)
  · have t213_2 := FF.mk (i_eq c213_1)
    have r213_3 : rg v1 115 115 := rg_eqA t213_2 (rg_any v1) (show rg (115 : Int32) 115 115 from rg_l (by decide)) (by decide)
    refine lv_iconst (v := 0) hx hb dX16_one_220 (by decide) ?_
    exact b221 (0 : Int32) H locs ls (rg_w (show rg (0 : Int32) 0 0 from rg_l (by decide)) (by decide)) (lv_sub hl [2] rfl) hP hD hS
  · have t213_2 := FF.mk (i_ne c213_1)
    refine lv_iconst (v := 1) hx hb dX16_one_216 (by decide) ?_
    refine lv_goto (tgt := 221) hx hb dX16_one_217 (by decide) ?_
    exact b221 (1 : Int32) H locs ls (rg_w (show rg (1 : Int32) 1 1 from rg_l (by decide)) (by decide)) (lv_sub hl [2] rfl) hP hD hS
set_option maxHeartbeats 2000000 in
theorem c_X16_emulate (l : Launch) (D : va_G) (ct : Nat → ClassId) (mm : Nat) (v0 : Int32) (fs_mm : List Value) (upb : Nat) (upl_ : Nat) (x_mm_4 : Int32) (ureg : Nat) (ustk : Nat) (x_mm_35 : Int32) (x_mm_36 : Int32) (x_mm_37 : Int32) (x_mm_38 : Int32) (uob : Nat) (x_mm_70 : Int32) (x_mm_71 : Int32) (x_mm_75 : Int64) (x_mm_76 : Int32) (x_mm_77 : Int32) (g_ureg : Nat → Int64) (g_ustk : Nat → Int32) (g_upl_ : Nat → Int32) (g_uob : Nat → Int32) (g_upb : Nat → Int32) (hlen_mm : fs_mm.length = 78) (hf_mm_2 : fs_mm[2]? = some (.ref upb)) (hf_mm_3 : fs_mm[3]? = some (.ref upl_)) (h_x_mm_4 : rg x_mm_4 0 16) (hf_mm_4 : fs_mm[4]? = some (.int x_mm_4)) (hf_mm_33 : fs_mm[33]? = some (.ref ureg)) (hf_mm_34 : fs_mm[34]? = some (.ref ustk)) (h_x_mm_35 : rg x_mm_35 0 9) (hf_mm_35 : fs_mm[35]? = some (.int x_mm_35)) (h_x_mm_36 : rg x_mm_36 0 100000) (hf_mm_36 : fs_mm[36]? = some (.int x_mm_36)) (hf_mm_37 : fs_mm[37]? = some (.int x_mm_37)) (h_x_mm_38 : rg x_mm_38 0 1) (hf_mm_38 : fs_mm[38]? = some (.int x_mm_38)) (hf_mm_69 : fs_mm[69]? = some (.ref uob)) (h_x_mm_70 : rg x_mm_70 0 60000) (hf_mm_70 : fs_mm[70]? = some (.int x_mm_70)) (h_x_mm_71 : rg x_mm_71 0 1) (hf_mm_71 : fs_mm[71]? = some (.int x_mm_71)) (hf_mm_75 : fs_mm[75]? = some (.long x_mm_75)) (h_x_mm_76 : rg x_mm_76 0 1) (hf_mm_76 : fs_mm[76]? = some (.int x_mm_76)) (h_x_mm_77 : rg x_mm_77 0 1) (hf_mm_77 : fs_mm[77]? = some (.int x_mm_77)) (h_g_ustk : Rg g_ustk 64 0 255) (h_g_upl_ : Rg g_upl_ 16 0 256) (h_g_upb : Rg g_upb 4096 0 255) : KL (S := List Value × Int32 × Int32 × Int32 × Int32 × Int64 × Int32 × Int32 × (Nat → Int64) × (Nat → Int32)) l yX16_emulate cX16_emulate 6 (some .long) 5 125 D ct [.ref mm, .int v0] [(mm, .inr (16, fs_mm)), (ureg, .inl (ct 2, 32, .inr (.inl g_ureg))), (ustk, .inl (ct 1, 64, .inl g_ustk)), (upl_, .inl (ct 1, 16, .inl g_upl_)), (uob, .inl (ct 1, 60000, .inl g_uob)), (upb, .inl (ct 1, 4096, .inl g_upb))] 0 0 (fun (r : Int64) (u : List Value × Int32 × Int32 × Int32 × Int32 × Int64 × Int32 × Int32 × (Nat → Int64) × (Nat → Int32)) => match u with | (fs2_mm, y_mm_35, y_mm_36, y_mm_37, y_mm_38, y_mm_75, y_mm_76, y_mm_77, k_ureg, k_ustk) => SB fs_mm fs2_mm [35, 36, 37, 38, 75, 76, 77] ∧ rg y_mm_35 0 9 ∧ fs2_mm[35]? = some (.int y_mm_35) ∧ rg y_mm_36 0 100000 ∧ fs2_mm[36]? = some (.int y_mm_36) ∧ fs2_mm[37]? = some (.int y_mm_37) ∧ rg y_mm_38 0 1 ∧ fs2_mm[38]? = some (.int y_mm_38) ∧ fs2_mm[75]? = some (.long y_mm_75) ∧ rg y_mm_76 0 1 ∧ fs2_mm[76]? = some (.int y_mm_76) ∧ rg y_mm_77 0 1 ∧ fs2_mm[77]? = some (.int y_mm_77) ∧ Rg k_ustk 64 0 255) (fun (u : List Value × Int32 × Int32 × Int32 × Int32 × Int64 × Int32 × Int32 × (Nat → Int64) × (Nat → Int32)) => match u with | (fs2_mm, y_mm_35, y_mm_36, y_mm_37, y_mm_38, y_mm_75, y_mm_76, y_mm_77, k_ureg, k_ustk) => [(mm, .inr (16, fs2_mm)), (ureg, .inl (ct 2, 32, .inr (.inl k_ureg))), (ustk, .inl (ct 1, 64, .inl k_ustk)), (upl_, .inl (ct 1, 16, .inl g_upl_)), (uob, .inl (ct 1, 60000, .inl g_uob)), (upb, .inl (ct 1, 4096, .inl g_upb))]) := by
  refine KLq_of (by decide) (Nat.le_of_ble_eq_true rfl) (fun p e s m below meth c A Q C0 hA H locs hS hP hD hQ ls hl => ?_)
  obtain ⟨hx, hb, hr, hown, hin, hml, hlocks, hn, hK, hZ, hSK⟩ := C0
  have hl : lv_has ls 6 [(0, .ref mm), (1, .int v0)] := hl
  refine lv_aload_n hx hb dX16_emulate_0 rfl (lv_at hl 0 rfl) ?_
  refine va_get (D := D) (ci := 16) (v := .int x_mm_71) (C := RX16) (T := TX16) (N := 78) hx hb (htX16 hn) (fun _ h => h) hown hK hP 0 rfl rfl 71 (by decide) (hn.get mw_1610 rfl) (fun _ h9 => h9) hf_mm_71 dX16_emulate_1 ?_
  refine lv_if_eq (tgt := 15) hx hb dX16_emulate_4 (by decide) (fun c4_1 => ?_) (fun c4_1 => ?_)
  · have t4_2 := FF.mk (i_eq c4_1)
    have r4_3 : rg x_mm_71 0 0 := rg_eqA t4_2 h_x_mm_71 (show rg (0 : Int32) 0 0 from rg_l (by decide)) (by decide)
    refine lv_lconst (v := 0) hx hb dX16_emulate_15 (by decide) ?_
    exact endq_l hQ hx hb hr hlocks dX16_emulate_16 (fs_mm, x_mm_35, x_mm_36, x_mm_37, x_mm_38, x_mm_75, x_mm_76, x_mm_77, g_ureg, g_ustk) ⟨(SB.rf _ _), h_x_mm_35, hf_mm_35, h_x_mm_36, hf_mm_36, hf_mm_37, h_x_mm_38, hf_mm_38, hf_mm_75, h_x_mm_76, hf_mm_76, h_x_mm_77, hf_mm_77, h_g_ustk⟩ hP hD hS [0, 1, 2, 3, 4, 5] rfl (by decide) rfl (Nat.le_of_ble_eq_true rfl) (Nat.le_of_ble_eq_true rfl)
  · have t4_2 := FF.mk (i_ne c4_1)
    have r4_3 : rg x_mm_71 1 1 := rg_neAl t4_2 h_x_mm_71 (show rg (0 : Int32) 0 0 from rg_l (by decide)) (by decide)
    refine lv_aload_n hx hb dX16_emulate_7 rfl (lv_at hl 0 rfl) ?_
    refine lv_iload_n hx hb dX16_emulate_8 rfl (lv_at hl 1 rfl) ?_
    refine go_i (k1 := 0) (n1 := 0) (wr := [(ureg, .inl (ct 2, 32, .inr (.inl g_ureg))), (ustk, .inl (ct 1, 64, .inl g_ustk)), (upl_, .inl (ct 1, 16, .inl g_upl_)), (uob, .inl (ct 1, 60000, .inl g_uob)), (upb, .inl (ct 1, 4096, .inl g_upb))]) [0] [1, 2, 3, 4, 5] (rn_V (As := [.int v0]) (rest := []) (c_X16_isPacket l D ct mm v0 fs_mm x_mm_4 hlen_mm h_x_mm_4 hf_mm_4 _) (cb_of (n := 1) hn mw_1797 mw_13 mw_1794 mhX16_isPacket ⟨(Nat.le_of_ble_eq_true rfl), (Nat.le_of_ble_eq_true rfl)⟩) hx hb hml hown hn hK hSK hZ hS mw_1796 mw_s170 (ci := 16) (q0 := 0) rfl rfl rfl rfl hl.1 (Nat.le_of_ble_eq_true rfl) dX16_emulate_9 ⟨(Nat.le_of_ble_eq_true rfl), (Nat.le_of_ble_eq_true rfl)⟩) hP hD hS hA rfl rfl (by decide) (by decide) (by decide) (Nat.le_of_ble_eq_true rfl) (Nat.le_of_ble_eq_true rfl) (fun r9_1 u9_2 H locs hp9_3 hP hD hS => ?_)
    obtain ⟨hp9_4, hp9_5, hp9_6⟩ := hp9_3
    have hp9_4 : rg r9_1 0 1 := hp9_4
    replace hp9_5 : FF (r9_1.toInt = 1 → 0 ≤ v0.toInt ∧ v0.toInt < x_mm_4.toInt) := hp9_5
    replace hp9_6 : FF (r9_1.toInt = 0 → v0.toInt < 0 ∨ x_mm_4.toInt ≤ v0.toInt) := hp9_6
    have hP : va_P D vwCl [(ureg, .inl (ct 2, 32, .inr (.inl g_ureg))), (ustk, .inl (ct 1, 64, .inl g_ustk)), (upl_, .inl (ct 1, 16, .inl g_upl_)), (uob, .inl (ct 1, 60000, .inl g_uob)), (upb, .inl (ct 1, 4096, .inl g_upb)), (mm, .inr (16, fs_mm))] _ := hP
    have hD : va_D A [(ureg, .inl (ct 2, 32, .inr (.inl g_ureg))), (ustk, .inl (ct 1, 64, .inl g_ustk)), (upl_, .inl (ct 1, 16, .inl g_upl_)), (uob, .inl (ct 1, 60000, .inl g_uob)), (upb, .inl (ct 1, 4096, .inl g_upb)), (mm, .inr (16, fs_mm))] := hD
    refine lv_if_ne (tgt := 17) hx hb dX16_emulate_12 (by decide) (fun c12_1 => ?_) (fun c12_1 => ?_)
    · have t12_2 := FF.mk (i_ne c12_1)
      have r12_3 : rg r9_1 1 1 := rg_neAl t12_2 hp9_4 (show rg (0 : Int32) 0 0 from rg_l (by decide)) (by decide)
      refine lv_aload_n hx hb dX16_emulate_17 rfl (lv_at hl 0 rfl) ?_
      refine go_v (k1 := 0) (n1 := 0) (wr := [(upl_, .inl (ct 1, 16, .inl g_upl_)), (uob, .inl (ct 1, 60000, .inl g_uob)), (upb, .inl (ct 1, 4096, .inl g_upb))]) [5, 0, 1] [2, 3, 4] (rn_V (As := []) (rest := []) (c_X16_begins l D ct mm fs_mm ureg ustk g_ureg g_ustk hlen_mm hf_mm_33 hf_mm_34 h_g_ustk _) (cb_of (n := 0) hn mw_2315 mw_13 mw_2312 mhX16_begins ⟨(Nat.le_of_ble_eq_true rfl), (Nat.le_of_ble_eq_true rfl)⟩) hx hb hml hown hn hK hSK hZ hS mw_2314 mw_s222 (ci := 16) (q0 := 0) rfl rfl rfl rfl hl.1 (Nat.le_of_ble_eq_true rfl) dX16_emulate_18 ⟨(Nat.le_of_ble_eq_true rfl), (Nat.le_of_ble_eq_true rfl)⟩) hP hD hS hA rfl rfl (by decide) (by decide) (by decide) (Nat.le_of_ble_eq_true rfl) (Nat.le_of_ble_eq_true rfl) (fun u18_2 H locs hp18_3 hP hD hS => ?_)
      obtain ⟨fs2_mm18_4, k_ureg18_5, k_ustk18_6⟩ := u18_2
      obtain ⟨hp18_7, hp18_8, hp18_9, hp18_10, hp18_11⟩ := hp18_3
      have hs18_12 : SB fs_mm fs2_mm18_4 [35, 36, 37, 38, 75, 76, 77] := SB.trans (SB.rf _ _) hp18_7 (by decide)
      have hf18_13 : fs2_mm18_4[38]? = some (.int x_mm_38) := SB.get hp18_7 (by decide) hf_mm_38
      have hf18_14 : fs2_mm18_4[75]? = some (.long x_mm_75) := SB.get hp18_7 (by decide) hf_mm_75
      have hf18_15 : fs2_mm18_4[76]? = some (.int x_mm_76) := SB.get hp18_7 (by decide) hf_mm_76
      have hf18_16 : fs2_mm18_4[77]? = some (.int x_mm_77) := SB.get hp18_7 (by decide) hf_mm_77
      have hP : va_P D vwCl [(upl_, .inl (ct 1, 16, .inl g_upl_)), (uob, .inl (ct 1, 60000, .inl g_uob)), (upb, .inl (ct 1, 4096, .inl g_upb)), (mm, .inr (16, fs2_mm18_4)), (ureg, .inl (ct 2, 32, .inr (.inl k_ureg18_5))), (ustk, .inl (ct 1, 64, .inl k_ustk18_6))] _ := hP
      have hD : va_D A [(upl_, .inl (ct 1, 16, .inl g_upl_)), (uob, .inl (ct 1, 60000, .inl g_uob)), (upb, .inl (ct 1, 4096, .inl g_upb)), (mm, .inr (16, fs2_mm18_4)), (ureg, .inl (ct 2, 32, .inr (.inl k_ureg18_5))), (ustk, .inl (ct 1, 64, .inl k_ustk18_6))] := hD
      refine lv_aload_n hx hb dX16_emulate_21 rfl (lv_at hl 0 rfl) ?_
      refine lv_iconst (v := 1) hx hb dX16_emulate_22 (by decide) ?_
      refine va_put (D := D) (ci := 16) (v := .int 1) (ty := .boolean) (C := RX16) (T := TX16) (N := 78) hx hb (htX16 hn) (fun _ h => h) tyX16 tyX16_ok nmX16 hown hK hP hD hS 3 rfl rfl 38 (by decide) (hn.get mw_1577 rfl) (fun _ h9 => h9) rfl (by decide +kernel) (by decide) rfl (by rw [hs18_12.1, hlen_mm]; decide) dX16_emulate_23 (fun H locs hP hD hS => ?_)
      have hP : va_P D vwCl [(upl_, .inl (ct 1, 16, .inl g_upl_)), (uob, .inl (ct 1, 60000, .inl g_uob)), (upb, .inl (ct 1, 4096, .inl g_upb)), (mm, .inr (16, (fs2_mm18_4.set 38 (.int 1)))), (ureg, .inl (ct 2, 32, .inr (.inl k_ureg18_5))), (ustk, .inl (ct 1, 64, .inl k_ustk18_6))] _ := hP
      have hD : va_D A [(upl_, .inl (ct 1, 16, .inl g_upl_)), (uob, .inl (ct 1, 60000, .inl g_uob)), (upb, .inl (ct 1, 4096, .inl g_upb)), (mm, .inr (16, (fs2_mm18_4.set 38 (.int 1)))), (ureg, .inl (ct 2, 32, .inr (.inl k_ureg18_5))), (ustk, .inl (ct 1, 64, .inl k_ustk18_6))] := hD
      obtain ⟨m23_1, em23_1⟩ : ∃ z, z = (fs2_mm18_4.set 38 (.int 1)) := ⟨_, rfl⟩
      rw [← em23_1] at hP hD
      have hsm23_1 : SB fs_mm m23_1 [35, 36, 37, 38, 75, 76, 77] := by rw [em23_1]; exact SB.set hs18_12 (by decide)
      have hfm23_1_75 : m23_1[75]? = some (.long x_mm_75) := by rw [em23_1]; exact fs_ne (by decide) hf18_14
      have hfm23_1_76 : m23_1[76]? = some (.int x_mm_76) := by rw [em23_1]; exact fs_ne (by decide) hf18_15
      have hfm23_1_77 : m23_1[77]? = some (.int x_mm_77) := by rw [em23_1]; exact fs_ne (by decide) hf18_16
      have hfm23_1_35 : m23_1[35]? = some (.int 0) := by rw [em23_1]; exact fs_ne (by decide) hp18_8
      have hfm23_1_36 : m23_1[36]? = some (.int 0) := by rw [em23_1]; exact fs_ne (by decide) hp18_9
      have hfm23_1_37 : m23_1[37]? = some (.int 0) := by rw [em23_1]; exact fs_ne (by decide) hp18_10
      have hfm23_1_38 : m23_1[38]? = some (.int 1) := by rw [em23_1]; exact fs_eq (by rw [hs18_12.1, hlen_mm]; decide)
      have hP : va_P D vwCl [(upl_, .inl (ct 1, 16, .inl g_upl_)), (uob, .inl (ct 1, 60000, .inl g_uob)), (upb, .inl (ct 1, 4096, .inl g_upb)), (mm, .inr (16, m23_1)), (ureg, .inl (ct 2, 32, .inr (.inl k_ureg18_5))), (ustk, .inl (ct 1, 64, .inl k_ustk18_6))] _ := hP
      have hD : va_D A [(upl_, .inl (ct 1, 16, .inl g_upl_)), (uob, .inl (ct 1, 60000, .inl g_uob)), (upb, .inl (ct 1, 4096, .inl g_upb)), (mm, .inr (16, m23_1)), (ureg, .inl (ct 2, 32, .inr (.inl k_ureg18_5))), (ustk, .inl (ct 1, 64, .inl k_ustk18_6))] := hD
      refine lv_aload_n hx hb dX16_emulate_26 rfl (lv_at hl 0 rfl) ?_
      refine va_get (D := D) (ci := 16) (v := .ref ureg) (C := RX16) (T := TX16) (N := 78) hx hb (htX16 hn) (fun _ h => h) hown hK hP 3 rfl rfl 33 (by decide) (hn.get mw_1572 rfl) (fun _ h9 => h9) (SB.get hsm23_1 (by decide) hf_mm_33) dX16_emulate_27 ?_
      refine lv_bipush (v := 8) hx hb dX16_emulate_30 (by decide) ?_
      refine lv_ldc2 (v := 65536) hx hb hown (hn.get mw_2665 rfl) dX16_emulate_32 ?_
      have hi35_1 : vp_in (8 : Int32) 32 := (vp_in_iff.mpr (by decide))
      refine va_last hx hb hK hP hD hS 4 2 rfl rfl hi35_1 dX16_emulate_35 (fun H locs hP hD hS => ?_)
      have hP : va_P D vwCl [(upl_, .inl (ct 1, 16, .inl g_upl_)), (uob, .inl (ct 1, 60000, .inl g_uob)), (upb, .inl (ct 1, 4096, .inl g_upb)), (mm, .inr (16, m23_1)), (ureg, .inl (ct 2, 32, .inr (.inl (vp_updL k_ureg18_5 (8 : Int32).toNatClampNeg 65536)))), (ustk, .inl (ct 1, 64, .inl k_ustk18_6))] _ := hP
      have hD : va_D A [(upl_, .inl (ct 1, 16, .inl g_upl_)), (uob, .inl (ct 1, 60000, .inl g_uob)), (upb, .inl (ct 1, 4096, .inl g_upb)), (mm, .inr (16, m23_1)), (ureg, .inl (ct 2, 32, .inr (.inl (vp_updL k_ureg18_5 (8 : Int32).toNatClampNeg 65536)))), (ustk, .inl (ct 1, 64, .inl k_ustk18_6))] := hD
      obtain ⟨f35_2, ef35_2⟩ : ∃ z, z = (vp_updL k_ureg18_5 (8 : Int32).toNatClampNeg 65536) := ⟨_, rfl⟩
      rw [← ef35_2] at hP hD
      refine lv_aload_n hx hb dX16_emulate_36 rfl (lv_at hl 0 rfl) ?_
      refine va_get (D := D) (ci := 16) (v := .ref ureg) (C := RX16) (T := TX16) (N := 78) hx hb (htX16 hn) (fun _ h => h) hown hK hP 3 rfl rfl 33 (by decide) (hn.get mw_1572 rfl) (fun _ h9 => h9) (SB.get hsm23_1 (by decide) hf_mm_33) dX16_emulate_37 ?_
      refine lv_bipush (v := 9) hx hb dX16_emulate_40 (by decide) ?_
      refine lv_aload_n hx hb dX16_emulate_42 rfl (lv_at hl 0 rfl) ?_
      refine va_get (D := D) (ci := 16) (v := .ref upl_) (C := RX16) (T := TX16) (N := 78) hx hb (htX16 hn) (fun _ h => h) hown hK hP 3 rfl rfl 3 (by decide) (hn.get mw_1542 rfl) (fun _ h9 => h9) (SB.get hsm23_1 (by decide) hf_mm_3) dX16_emulate_43 ?_
      refine lv_iload_n hx hb dX16_emulate_46 rfl (lv_at hl 1 rfl) ?_
      have hi47_1 : vp_in v0 16 := (in_of (show 0 ≤ v0.toInt ∧ v0.toInt < 16 by have q0 := h_x_mm_4.2; have q1 := r12_3.1; have q2 := r12_3.2; have q3 := FF.out hp9_5; omega))
      refine va_iald hx hb hK hP 0 1 rfl rfl hi47_1 dX16_emulate_47 ?_
      refine lv_topi (fun z47_2 ez47_2 => ?_)
      have r47_3 : rg z47_2 0 256 := Rg_at h_g_upl_ hi47_1 ez47_2
      refine lv_i2l hx hb dX16_emulate_48 rfl ?_
      refine lv_topl (fun z48_1 ez48_1 => ?_)
      have r48_2 : rl z48_1 0 256 := rl_i2l ez48_1 r47_3
      have hi49_1 : vp_in (9 : Int32) 32 := (vp_in_iff.mpr (by decide))
      refine va_last hx hb hK hP hD hS 4 2 rfl rfl hi49_1 dX16_emulate_49 (fun H locs hP hD hS => ?_)
      have hP : va_P D vwCl [(upl_, .inl (ct 1, 16, .inl g_upl_)), (uob, .inl (ct 1, 60000, .inl g_uob)), (upb, .inl (ct 1, 4096, .inl g_upb)), (mm, .inr (16, m23_1)), (ureg, .inl (ct 2, 32, .inr (.inl (vp_updL f35_2 (9 : Int32).toNatClampNeg z48_1)))), (ustk, .inl (ct 1, 64, .inl k_ustk18_6))] _ := hP
      have hD : va_D A [(upl_, .inl (ct 1, 16, .inl g_upl_)), (uob, .inl (ct 1, 60000, .inl g_uob)), (upb, .inl (ct 1, 4096, .inl g_upb)), (mm, .inr (16, m23_1)), (ureg, .inl (ct 2, 32, .inr (.inl (vp_updL f35_2 (9 : Int32).toNatClampNeg z48_1)))), (ustk, .inl (ct 1, 64, .inl k_ustk18_6))] := hD
      obtain ⟨f49_2, ef49_2⟩ : ∃ z, z = (vp_updL f35_2 (9 : Int32).toNatClampNeg z48_1) := ⟨_, rfl⟩
      rw [← ef49_2] at hP hD
      refine lv_aload_n hx hb dX16_emulate_50 rfl (lv_at hl 0 rfl) ?_
      refine va_get (D := D) (ci := 16) (v := .ref ureg) (C := RX16) (T := TX16) (N := 78) hx hb (htX16 hn) (fun _ h => h) hown hK hP 3 rfl rfl 33 (by decide) (hn.get mw_1572 rfl) (fun _ h9 => h9) (SB.get hsm23_1 (by decide) hf_mm_33) dX16_emulate_51 ?_
      refine lv_bipush (v := 11) hx hb dX16_emulate_54 (by decide) ?_
      refine lv_aload_n hx hb dX16_emulate_56 rfl (lv_at hl 0 rfl) ?_
      refine va_get (D := D) (ci := 16) (v := .ref upl_) (C := RX16) (T := TX16) (N := 78) hx hb (htX16 hn) (fun _ h => h) hown hK hP 3 rfl rfl 3 (by decide) (hn.get mw_1542 rfl) (fun _ h9 => h9) (SB.get hsm23_1 (by decide) hf_mm_3) dX16_emulate_57 ?_
      refine lv_iload_n hx hb dX16_emulate_60 rfl (lv_at hl 1 rfl) ?_
      have hi61_1 : vp_in v0 16 := (in_of (show 0 ≤ v0.toInt ∧ v0.toInt < 16 by have q0 := h_x_mm_4.2; have q1 := r12_3.1; have q2 := r12_3.2; have q3 := FF.out hp9_5; omega))
      refine va_iald hx hb hK hP 0 1 rfl rfl hi61_1 dX16_emulate_61 ?_
      refine lv_topi (fun z61_2 ez61_2 => ?_)
      obtain rfl : z47_2 = z61_2 := ez47_2.trans ez61_2.symm
      refine lv_i2l hx hb dX16_emulate_62 rfl ?_
      refine lv_topl (fun z62_1 ez62_1 => ?_)
      have r62_2 : rl z62_1 0 256 := rl_i2l ez62_1 r47_3
      have hi63_1 : vp_in (11 : Int32) 32 := (vp_in_iff.mpr (by decide))
      refine va_last hx hb hK hP hD hS 4 2 rfl rfl hi63_1 dX16_emulate_63 (fun H locs hP hD hS => ?_)
      have hP : va_P D vwCl [(upl_, .inl (ct 1, 16, .inl g_upl_)), (uob, .inl (ct 1, 60000, .inl g_uob)), (upb, .inl (ct 1, 4096, .inl g_upb)), (mm, .inr (16, m23_1)), (ureg, .inl (ct 2, 32, .inr (.inl (vp_updL f49_2 (11 : Int32).toNatClampNeg z62_1)))), (ustk, .inl (ct 1, 64, .inl k_ustk18_6))] _ := hP
      have hD : va_D A [(upl_, .inl (ct 1, 16, .inl g_upl_)), (uob, .inl (ct 1, 60000, .inl g_uob)), (upb, .inl (ct 1, 4096, .inl g_upb)), (mm, .inr (16, m23_1)), (ureg, .inl (ct 2, 32, .inr (.inl (vp_updL f49_2 (11 : Int32).toNatClampNeg z62_1)))), (ustk, .inl (ct 1, 64, .inl k_ustk18_6))] := hD
      obtain ⟨f63_2, ef63_2⟩ : ∃ z, z = (vp_updL f49_2 (11 : Int32).toNatClampNeg z62_1) := ⟨_, rfl⟩
      rw [← ef63_2] at hP hD
      refine lv_aload_n hx hb dX16_emulate_64 rfl (lv_at hl 0 rfl) ?_
      refine va_get (D := D) (ci := 16) (v := .ref ureg) (C := RX16) (T := TX16) (N := 78) hx hb (htX16 hn) (fun _ h => h) hown hK hP 3 rfl rfl 33 (by decide) (hn.get mw_1572 rfl) (fun _ h9 => h9) (SB.get hsm23_1 (by decide) hf_mm_33) dX16_emulate_65 ?_
      refine lv_bipush (v := 22) hx hb dX16_emulate_68 (by decide) ?_
      refine lv_ldc2 (v := 131136) hx hb hown (hn.get mw_2316 rfl) dX16_emulate_70 ?_
      have hi73_1 : vp_in (22 : Int32) 32 := (vp_in_iff.mpr (by decide))
      refine va_last hx hb hK hP hD hS 4 2 rfl rfl hi73_1 dX16_emulate_73 (fun H locs hP hD hS => ?_)
      have hP : va_P D vwCl [(upl_, .inl (ct 1, 16, .inl g_upl_)), (uob, .inl (ct 1, 60000, .inl g_uob)), (upb, .inl (ct 1, 4096, .inl g_upb)), (mm, .inr (16, m23_1)), (ureg, .inl (ct 2, 32, .inr (.inl (vp_updL f63_2 (22 : Int32).toNatClampNeg 131136)))), (ustk, .inl (ct 1, 64, .inl k_ustk18_6))] _ := hP
      have hD : va_D A [(upl_, .inl (ct 1, 16, .inl g_upl_)), (uob, .inl (ct 1, 60000, .inl g_uob)), (upb, .inl (ct 1, 4096, .inl g_upb)), (mm, .inr (16, m23_1)), (ureg, .inl (ct 2, 32, .inr (.inl (vp_updL f63_2 (22 : Int32).toNatClampNeg 131136)))), (ustk, .inl (ct 1, 64, .inl k_ustk18_6))] := hD
      obtain ⟨f73_2, ef73_2⟩ : ∃ z, z = (vp_updL f63_2 (22 : Int32).toNatClampNeg 131136) := ⟨_, rfl⟩
      rw [← ef73_2] at hP hD
      refine lv_lconst (v := 0) hx hb dX16_emulate_74 (by decide) ?_
      refine lv_lstore_n (lv' := [(2, .long 0), (0, .ref mm), (1, .int v0)]) hx hb dX16_emulate_75 rfl hl (by decide) rfl (fun ls hl => ?_)
      refine lv_iconst (v := 0) hx hb dX16_emulate_76 (by decide) ?_
      refine lv_istore (lv' := [(4, .int 0), (2, .long 0), (0, .ref mm), (1, .int v0)]) hx hb dX16_emulate_77 hl (by decide) rfl (fun ls hl => ?_)
      have b79 : ∀ (n : Nat) (j79_l2 : Int64) (j79_l4 : Int32) (j79_amm : List Value) (j79_fmm_75 : Int64) (j79_fmm_76 : Int32) (j79_fmm_77 : Int32) (j79_fmm_36 : Int32) (j79_fmm_37 : Int32) (j79_cureg : Nat → Int64) (j79_custk : Nat → Int32) (H : Heap) (locs : List Loc) (ls : Array Slot), (rg j79_l4 0 1) → (SB fs_mm j79_amm [35, 36, 37, 38, 75, 76, 77]) → (j79_amm[75]? = some (.long j79_fmm_75)) → (rg j79_fmm_76 0 1) → (j79_amm[76]? = some (.int j79_fmm_76)) → (rg j79_fmm_77 0 1) → (j79_amm[77]? = some (.int j79_fmm_77)) → (j79_amm[35]? = some (.int 0)) → (rg j79_fmm_36 0 100000) → (j79_amm[36]? = some (.int j79_fmm_36)) → (rg j79_fmm_37 0 59999) → (j79_amm[37]? = some (.int j79_fmm_37)) → (j79_amm[38]? = some (.int 1)) → (Rg j79_custk 64 0 255) → (FF (j79_l4.toInt = 0 → 0 ≤ j79_l2.toInt ∧ j79_l2.toInt < 240000)) → ((100001 : Int) - j79_fmm_36.toInt).toNat < n → lv_has ls 6 [(0, .ref mm), (1, .int v0), (2, .long j79_l2), (4, .int j79_l4)] → va_P D vwCl [(upl_, .inl (ct 1, 16, .inl g_upl_)), (uob, .inl (ct 1, 60000, .inl g_uob)), (upb, .inl (ct 1, 4096, .inl g_upb)), (mm, .inr (16, j79_amm)), (ureg, .inl (ct 2, 32, .inr (.inl j79_cureg))), (ustk, .inl (ct 1, 64, .inl j79_custk))] H → va_D A [(upl_, .inl (ct 1, 16, .inl g_upl_)), (uob, .inl (ct 1, 60000, .inl g_uob)), (upb, .inl (ct 1, 4096, .inl g_upb)), (mm, .inr (16, j79_amm)), (ureg, .inl (ct 2, 32, .inr (.inl j79_cureg))), (ustk, .inl (ct 1, 64, .inl j79_custk))] → va_S A s.heap H locs → W p l e ({ frames := 5, cells := 0, slots := 0, locals := 125 }) s m [.ref mm, .int v0].toArray below meth c H locs 0 0 Q (F0 m 79 ls []) := by
        intro n
        induction n with
        | zero => intros; rename_i hms _ _ _ _; exact absurd hms (Nat.not_lt_zero _)
        | succ n ih =>
          intro j79_l2 j79_l4 j79_amm j79_fmm_75 j79_fmm_76 j79_fmm_77 j79_fmm_36 j79_fmm_37 j79_cureg j79_custk H locs ls r79_1001 hs79_1002 hf79_1003 r79_1004 hf79_1005 r79_1006 hf79_1007 hf79_1008 r79_1009 hf79_1010 r79_1011 hf79_1012 hf79_1013 hc79_1014 hi79_1015 hms hl hP hD hS
          refine lv_iload hx hb dX16_emulate_79 (lv_at hl 3 rfl) ?_
          refine lv_if_ne (tgt := 247) hx hb dX16_emulate_81 (by decide) (fun c81_1 => ?_) (fun c81_1 => ?_)
          · have t81_2 := FF.mk (i_ne c81_1)
            have r81_3 : rg j79_l4 1 1 := rg_neAl t81_2 r79_1001 (show rg (0 : Int32) 0 0 from rg_l (by decide)) (by decide)
            refine lv_aload_n hx hb dX16_emulate_247 rfl (lv_at hl 0 rfl) ?_
            refine va_get (D := D) (ci := 16) (v := .ref ureg) (C := RX16) (T := TX16) (N := 78) hx hb (htX16 hn) (fun _ h => h) hown hK hP 3 rfl rfl 33 (by decide) (hn.get mw_1572 rfl) (fun _ h9 => h9) (SB.get hs79_1002 (by decide) hf_mm_33) dX16_emulate_248 ?_
            refine lv_bipush (v := 10) hx hb dX16_emulate_251 (by decide) ?_
            have hi253_1 : vp_in (10 : Int32) 32 := (vp_in_iff.mpr (by decide))
            refine va_lald hx hb hK hP 4 2 rfl rfl hi253_1 dX16_emulate_253 ?_
            refine lv_topl (fun z253_2 ez253_2 => ?_)
            exact endq_l hQ hx hb hr hlocks dX16_emulate_254 (j79_amm, (0 : Int32), j79_fmm_36, j79_fmm_37, (1 : Int32), j79_fmm_75, j79_fmm_76, j79_fmm_77, j79_cureg, j79_custk) ⟨hs79_1002, (rg_w (show rg (0 : Int32) 0 0 from rg_l (by decide)) (by decide)), hf79_1008, r79_1009, hf79_1010, hf79_1012, (rg_w (show rg (1 : Int32) 1 1 from rg_l (by decide)) (by decide)), hf79_1013, hf79_1003, r79_1004, hf79_1005, r79_1006, hf79_1007, hc79_1014⟩ hP hD hS [3, 4, 5, 0, 1, 2] rfl (by decide) rfl (Nat.le_of_ble_eq_true rfl) (Nat.le_of_ble_eq_true rfl)
          · have t81_2 := FF.mk (i_eq c81_1)
            have r81_3 : rg j79_l4 0 0 := rg_eqA t81_2 r79_1001 (show rg (0 : Int32) 0 0 from rg_l (by decide)) (by decide)
            have r84_1 : rl j79_l2 0 239999 := (rl_of (show 0 ≤ j79_l2.toInt ∧ j79_l2.toInt ≤ 239999 by have q0 := r81_3.1; have q1 := r81_3.2; have q2 := FF.out hi79_1015; omega))
            refine lv_aload_n hx hb dX16_emulate_84 rfl (lv_at hl 0 rfl) ?_
            refine lv_lload_n hx hb dX16_emulate_85 rfl (lv_at hl 2 rfl) ?_
            refine lv_ldc2 (v := 4) hx hb hown (hn.get mw_1825 rfl) dX16_emulate_86 ?_
            refine lv_ldiv hx hb dX16_emulate_89 (by decide) ?_
            refine lv_topl (fun z89_1 ez89_1 => ?_)
            have r89_2 : rl z89_1 0 59999 := rgL_div (k := 4) ez89_1 (by decide) r84_1 (by decide)
            refine lv_l2i hx hb dX16_emulate_90 rfl ?_
            refine lv_topi (fun z90_1 ez90_1 => ?_)
            have r90_2 : rg z90_1 0 59999 := rg_l2i ez90_1 r89_2 (by decide)
            refine va_put (D := D) (ci := 16) (v := .int z90_1) (ty := .int) (C := RX16) (T := TX16) (N := 78) hx hb (htX16 hn) (fun _ h => h) tyX16 tyX16_ok nmX16 hown hK hP hD hS 3 rfl rfl 37 (by decide) (hn.get mw_1576 rfl) (fun _ h9 => h9) rfl (by decide +kernel) rfl rfl (by rw [hs79_1002.1, hlen_mm]; decide) dX16_emulate_91 (fun H locs hP hD hS => ?_)
            have hP : va_P D vwCl [(upl_, .inl (ct 1, 16, .inl g_upl_)), (uob, .inl (ct 1, 60000, .inl g_uob)), (upb, .inl (ct 1, 4096, .inl g_upb)), (mm, .inr (16, (j79_amm.set 37 (.int z90_1)))), (ureg, .inl (ct 2, 32, .inr (.inl j79_cureg))), (ustk, .inl (ct 1, 64, .inl j79_custk))] _ := hP
            have hD : va_D A [(upl_, .inl (ct 1, 16, .inl g_upl_)), (uob, .inl (ct 1, 60000, .inl g_uob)), (upb, .inl (ct 1, 4096, .inl g_upb)), (mm, .inr (16, (j79_amm.set 37 (.int z90_1)))), (ureg, .inl (ct 2, 32, .inr (.inl j79_cureg))), (ustk, .inl (ct 1, 64, .inl j79_custk))] := hD
            obtain ⟨m91_1, em91_1⟩ : ∃ z, z = (j79_amm.set 37 (.int z90_1)) := ⟨_, rfl⟩
            rw [← em91_1] at hP hD
            have hsm91_1 : SB fs_mm m91_1 [35, 36, 37, 38, 75, 76, 77] := by rw [em91_1]; exact SB.set hs79_1002 (by decide)
            have hfm91_1_75 : m91_1[75]? = some (.long j79_fmm_75) := by rw [em91_1]; exact fs_ne (by decide) hf79_1003
            have hfm91_1_76 : m91_1[76]? = some (.int j79_fmm_76) := by rw [em91_1]; exact fs_ne (by decide) hf79_1005
            have hfm91_1_77 : m91_1[77]? = some (.int j79_fmm_77) := by rw [em91_1]; exact fs_ne (by decide) hf79_1007
            have hfm91_1_35 : m91_1[35]? = some (.int 0) := by rw [em91_1]; exact fs_ne (by decide) hf79_1008
            have hfm91_1_36 : m91_1[36]? = some (.int j79_fmm_36) := by rw [em91_1]; exact fs_ne (by decide) hf79_1010
            have hfm91_1_38 : m91_1[38]? = some (.int 1) := by rw [em91_1]; exact fs_ne (by decide) hf79_1013
            have hfm91_1_37 : m91_1[37]? = some (.int z90_1) := by rw [em91_1]; exact fs_eq (by rw [hs79_1002.1, hlen_mm]; decide)
            have hP : va_P D vwCl [(upl_, .inl (ct 1, 16, .inl g_upl_)), (uob, .inl (ct 1, 60000, .inl g_uob)), (upb, .inl (ct 1, 4096, .inl g_upb)), (mm, .inr (16, m91_1)), (ureg, .inl (ct 2, 32, .inr (.inl j79_cureg))), (ustk, .inl (ct 1, 64, .inl j79_custk))] _ := hP
            have hD : va_D A [(upl_, .inl (ct 1, 16, .inl g_upl_)), (uob, .inl (ct 1, 60000, .inl g_uob)), (upb, .inl (ct 1, 4096, .inl g_upb)), (mm, .inr (16, m91_1)), (ureg, .inl (ct 2, 32, .inr (.inl j79_cureg))), (ustk, .inl (ct 1, 64, .inl j79_custk))] := hD
            refine lv_aload_n hx hb dX16_emulate_94 rfl (lv_at hl 0 rfl) ?_
            refine va_get (D := D) (ci := 16) (v := .int j79_fmm_36) (C := RX16) (T := TX16) (N := 78) hx hb (htX16 hn) (fun _ h => h) hown hK hP 3 rfl rfl 36 (by decide) (hn.get mw_1575 rfl) (fun _ h9 => h9) hfm91_1_36 dX16_emulate_95 ?_
            refine lv_ldcw (v := 100000) hx hb hown (hn.get mw_2666 rfl) dX16_emulate_98 ?_
            refine lv_icmp_ne (tgt := 112) hx hb dX16_emulate_101 (by decide) (fun c101_1 => ?_) (fun c101_1 => ?_)
            · have t101_2 := FF.mk (i_ne c101_1)
              have r101_3 : rg j79_fmm_36 0 99999 := rg_neAh t101_2 r79_1009 (show rg (100000 : Int32) 100000 100000 from rg_l (by decide)) (by decide)
              refine lv_aload_n hx hb dX16_emulate_112 rfl (lv_at hl 0 rfl) ?_
              refine lv_iload_n hx hb dX16_emulate_113 rfl (lv_at hl 1 rfl) ?_
              refine lv_aload_n hx hb dX16_emulate_114 rfl (lv_at hl 0 rfl) ?_
              refine va_get (D := D) (ci := 16) (v := .ref uob) (C := RX16) (T := TX16) (N := 78) hx hb (htX16 hn) (fun _ h => h) hown hK hP 3 rfl rfl 69 (by decide) (hn.get mw_1608 rfl) (fun _ h9 => h9) (SB.get hsm91_1 (by decide) hf_mm_69) dX16_emulate_115 ?_
              refine lv_aload_n hx hb dX16_emulate_118 rfl (lv_at hl 0 rfl) ?_
              refine va_get (D := D) (ci := 16) (v := .int z90_1) (C := RX16) (T := TX16) (N := 78) hx hb (htX16 hn) (fun _ h => h) hown hK hP 3 rfl rfl 37 (by decide) (hn.get mw_1576 rfl) (fun _ h9 => h9) hfm91_1_37 dX16_emulate_119 ?_
              have hi122_1 : vp_in z90_1 60000 := (in_rg r90_2 (by decide))
              refine va_iald hx hb hK hP 1 1 rfl rfl hi122_1 dX16_emulate_122 ?_
              refine lv_topi (fun z122_2 ez122_2 => ?_)
              refine lv_lload_n hx hb dX16_emulate_123 rfl (lv_at hl 2 rfl) ?_
              refine go_i (k1 := 0) (n1 := 0) (wr := [(uob, .inl (ct 1, 60000, .inl g_uob))]) [3, 4, 0, 2, 5] [1] (rn_V (As := [.int v0, .int z122_2, .long j79_l2]) (rest := []) (c_X16_one l D ct mm v0 z122_2 j79_l2 m91_1 upb upl_ ureg ustk j79_cureg g_upl_ g_upb j79_custk (rg_of (show 0 ≤ v0.toInt ∧ v0.toInt ≤ 15 by have q0 := h_x_mm_4.2; have q1 := r12_3.1; have q2 := r12_3.2; have q3 := FF.out hp9_5; omega)) (hsm91_1.1.trans hlen_mm) (SB.get hsm91_1 (by decide) hf_mm_2) (SB.get hsm91_1 (by decide) hf_mm_3) (SB.get hsm91_1 (by decide) hf_mm_33) (SB.get hsm91_1 (by decide) hf_mm_34) h_g_upl_ h_g_upb hc79_1014 _) (cb_of (n := 3) hn mw_2670 mw_13 mw_2667 mhX16_one ⟨(Nat.le_of_ble_eq_true rfl), (Nat.le_of_ble_eq_true rfl)⟩) hx hb hml hown hn hK hSK hZ hS mw_2669 mw_s275 (ci := 16) (q0 := 0) rfl rfl rfl rfl hl.1 (Nat.le_of_ble_eq_true rfl) dX16_emulate_124 ⟨(Nat.le_of_ble_eq_true rfl), (Nat.le_of_ble_eq_true rfl)⟩) hP hD hS hA rfl rfl (by decide) (by decide) (by decide) (Nat.le_of_ble_eq_true rfl) (Nat.le_of_ble_eq_true rfl) (fun r124_1 u124_2 H locs hp124_3 hP hD hS => ?_)
              obtain ⟨fs2_mm124_4, y_mm_75124_5, y_mm_76124_6, y_mm_77124_7, k_ureg124_8, k_ustk124_9⟩ := u124_2
              obtain ⟨hp124_10, hp124_11, hp124_12, hp124_13, hp124_14, hp124_15, hp124_16, hp124_17⟩ := hp124_3
              have hs124_18 : SB fs_mm fs2_mm124_4 [35, 36, 37, 38, 75, 76, 77] := SB.trans hsm91_1 hp124_11 (by decide)
              have hf124_19 : fs2_mm124_4[35]? = some (.int 0) := SB.get hp124_11 (by decide) hfm91_1_35
              have hf124_20 : fs2_mm124_4[36]? = some (.int j79_fmm_36) := SB.get hp124_11 (by decide) hfm91_1_36
              have hf124_21 : fs2_mm124_4[38]? = some (.int 1) := SB.get hp124_11 (by decide) hfm91_1_38
              have hf124_22 : fs2_mm124_4[37]? = some (.int z90_1) := SB.get hp124_11 (by decide) hfm91_1_37
              have hp124_10 : rg r124_1 0 1 := hp124_10
              have hp124_13 : rg y_mm_76124_6 0 1 := hp124_13
              have hp124_15 : rg y_mm_77124_7 0 1 := hp124_15
              have hP : va_P D vwCl [(uob, .inl (ct 1, 60000, .inl g_uob)), (mm, .inr (16, fs2_mm124_4)), (ureg, .inl (ct 2, 32, .inr (.inl k_ureg124_8))), (upl_, .inl (ct 1, 16, .inl g_upl_)), (upb, .inl (ct 1, 4096, .inl g_upb)), (ustk, .inl (ct 1, 64, .inl k_ustk124_9))] _ := hP
              have hD : va_D A [(uob, .inl (ct 1, 60000, .inl g_uob)), (mm, .inr (16, fs2_mm124_4)), (ureg, .inl (ct 2, 32, .inr (.inl k_ureg124_8))), (upl_, .inl (ct 1, 16, .inl g_upl_)), (upb, .inl (ct 1, 4096, .inl g_upb)), (ustk, .inl (ct 1, 64, .inl k_ustk124_9))] := hD
              refine lv_istore (lv' := [(4, .int r124_1), (0, .ref mm), (1, .int v0), (2, .long j79_l2)]) hx hb dX16_emulate_127 hl (by decide) rfl (fun ls hl => ?_)
              refine lv_iload hx hb dX16_emulate_129 (lv_at hl 0 rfl) ?_
              have b178 : ∀ (j178_s0 : Int32) (H : Heap) (locs : List Loc) (ls : Array Slot), (rg j178_s0 0 1) → (FF (j178_s0.toInt = 0 → r124_1.toInt ≠ 0 ∨ (0 ≤ y_mm_75124_5.toInt ∧ y_mm_75124_5.toInt < 240000))) → lv_has ls 6 [(0, .ref mm), (1, .int v0), (4, .int r124_1)] → va_P D vwCl [(uob, .inl (ct 1, 60000, .inl g_uob)), (mm, .inr (16, fs2_mm124_4)), (ureg, .inl (ct 2, 32, .inr (.inl k_ureg124_8))), (upl_, .inl (ct 1, 16, .inl g_upl_)), (upb, .inl (ct 1, 4096, .inl g_upb)), (ustk, .inl (ct 1, 64, .inl k_ustk124_9))] H → va_D A [(uob, .inl (ct 1, 60000, .inl g_uob)), (mm, .inr (16, fs2_mm124_4)), (ureg, .inl (ct 2, 32, .inr (.inl k_ureg124_8))), (upl_, .inl (ct 1, 16, .inl g_upl_)), (upb, .inl (ct 1, 4096, .inl g_upb)), (ustk, .inl (ct 1, 64, .inl k_ustk124_9))] → va_S A s.heap H locs → W p l e ({ frames := 5, cells := 0, slots := 0, locals := 125 }) s m [.ref mm, .int v0].toArray below meth c H locs 0 0 Q (F0 m 178 ls [.int j178_s0]) := by
                intro j178_s0 H locs ls r178_1001 hi178_1002 hl hP hD hS
                refine lv_istore (lv' := [(5, .int j178_s0), (0, .ref mm), (1, .int v0), (4, .int r124_1)]) hx hb dX16_emulate_178 hl (by decide) rfl (fun ls hl => ?_)
                refine lv_aload_n hx hb dX16_emulate_180 rfl (lv_at hl 1 rfl) ?_
                refine va_get (D := D) (ci := 16) (v := .int y_mm_76124_6) (C := RX16) (T := TX16) (N := 78) hx hb (htX16 hn) (fun _ h => h) hown hK hP 1 rfl rfl 76 (by decide) (hn.get mw_1615 rfl) (fun _ h9 => h9) hp124_14 dX16_emulate_181 ?_
                have b199 : ∀  (H : Heap) (locs : List Loc) (ls : Array Slot), lv_has ls 6 [(0, .ref mm)] → va_P D vwCl [(uob, .inl (ct 1, 60000, .inl g_uob)), (mm, .inr (16, fs2_mm124_4)), (ureg, .inl (ct 2, 32, .inr (.inl k_ureg124_8))), (upl_, .inl (ct 1, 16, .inl g_upl_)), (upb, .inl (ct 1, 4096, .inl g_upb)), (ustk, .inl (ct 1, 64, .inl k_ustk124_9))] H → va_D A [(uob, .inl (ct 1, 60000, .inl g_uob)), (mm, .inr (16, fs2_mm124_4)), (ureg, .inl (ct 2, 32, .inr (.inl k_ureg124_8))), (upl_, .inl (ct 1, 16, .inl g_upl_)), (upb, .inl (ct 1, 4096, .inl g_upb)), (ustk, .inl (ct 1, 64, .inl k_ustk124_9))] → va_S A s.heap H locs → W p l e ({ frames := 5, cells := 0, slots := 0, locals := 125 }) s m [.ref mm, .int v0].toArray below meth c H locs 0 0 Q (F0 m 199 ls []) := by
                  intro  H locs ls  hl hP hD hS
                  refine lv_aload_n hx hb dX16_emulate_199 rfl (lv_at hl 0 rfl) ?_
                  refine lv_aload_n hx hb dX16_emulate_200 rfl (lv_at hl 0 rfl) ?_
                  refine va_get (D := D) (ci := 16) (v := .int y_mm_76124_6) (C := RX16) (T := TX16) (N := 78) hx hb (htX16 hn) (fun _ h => h) hown hK hP 1 rfl rfl 76 (by decide) (hn.get mw_1615 rfl) (fun _ h9 => h9) hp124_14 dX16_emulate_201 ?_
                  have b224 : ∀ (j224_s0 : Int32) (H : Heap) (locs : List Loc) (ls : Array Slot), (rg j224_s0 1 7) → lv_has ls 6 [] → va_P D vwCl [(uob, .inl (ct 1, 60000, .inl g_uob)), (mm, .inr (16, fs2_mm124_4)), (ureg, .inl (ct 2, 32, .inr (.inl k_ureg124_8))), (upl_, .inl (ct 1, 16, .inl g_upl_)), (upb, .inl (ct 1, 4096, .inl g_upb)), (ustk, .inl (ct 1, 64, .inl k_ustk124_9))] H → va_D A [(uob, .inl (ct 1, 60000, .inl g_uob)), (mm, .inr (16, fs2_mm124_4)), (ureg, .inl (ct 2, 32, .inr (.inl k_ureg124_8))), (upl_, .inl (ct 1, 16, .inl g_upl_)), (upb, .inl (ct 1, 4096, .inl g_upb)), (ustk, .inl (ct 1, 64, .inl k_ustk124_9))] → va_S A s.heap H locs → W p l e ({ frames := 5, cells := 0, slots := 0, locals := 125 }) s m [.ref mm, .int v0].toArray below meth c H locs 0 0 Q (F0 m 224 ls [.int j224_s0, .ref mm]) := by
                    intro j224_s0 H locs ls r224_1001 hl hP hD hS
                    refine va_put (D := D) (ci := 16) (v := .int j224_s0) (ty := .int) (C := RX16) (T := TX16) (N := 78) hx hb (htX16 hn) (fun _ h => h) tyX16 tyX16_ok nmX16 hown hK hP hD hS 1 rfl rfl 35 (by decide) (hn.get mw_1574 rfl) (fun _ h9 => h9) rfl (by decide +kernel) rfl rfl (by rw [hs124_18.1, hlen_mm]; decide) dX16_emulate_224 (fun H locs hP hD hS => ?_)
                    have hP : va_P D vwCl [(uob, .inl (ct 1, 60000, .inl g_uob)), (mm, .inr (16, (fs2_mm124_4.set 35 (.int j224_s0)))), (ureg, .inl (ct 2, 32, .inr (.inl k_ureg124_8))), (upl_, .inl (ct 1, 16, .inl g_upl_)), (upb, .inl (ct 1, 4096, .inl g_upb)), (ustk, .inl (ct 1, 64, .inl k_ustk124_9))] _ := hP
                    have hD : va_D A [(uob, .inl (ct 1, 60000, .inl g_uob)), (mm, .inr (16, (fs2_mm124_4.set 35 (.int j224_s0)))), (ureg, .inl (ct 2, 32, .inr (.inl k_ureg124_8))), (upl_, .inl (ct 1, 16, .inl g_upl_)), (upb, .inl (ct 1, 4096, .inl g_upb)), (ustk, .inl (ct 1, 64, .inl k_ustk124_9))] := hD
                    obtain ⟨m224_1, em224_1⟩ : ∃ z, z = (fs2_mm124_4.set 35 (.int j224_s0)) := ⟨_, rfl⟩
                    rw [← em224_1] at hP hD
                    have hsm224_1 : SB fs_mm m224_1 [35, 36, 37, 38, 75, 76, 77] := by rw [em224_1]; exact SB.set hs124_18 (by decide)
                    have hfm224_1_36 : m224_1[36]? = some (.int j79_fmm_36) := by rw [em224_1]; exact fs_ne (by decide) hf124_20
                    have hfm224_1_38 : m224_1[38]? = some (.int 1) := by rw [em224_1]; exact fs_ne (by decide) hf124_21
                    have hfm224_1_37 : m224_1[37]? = some (.int z90_1) := by rw [em224_1]; exact fs_ne (by decide) hf124_22
                    have hfm224_1_75 : m224_1[75]? = some (.long y_mm_75124_5) := by rw [em224_1]; exact fs_ne (by decide) hp124_12
                    have hfm224_1_76 : m224_1[76]? = some (.int y_mm_76124_6) := by rw [em224_1]; exact fs_ne (by decide) hp124_14
                    have hfm224_1_77 : m224_1[77]? = some (.int y_mm_77124_7) := by rw [em224_1]; exact fs_ne (by decide) hp124_16
                    have hfm224_1_35 : m224_1[35]? = some (.int j224_s0) := by rw [em224_1]; exact fs_eq (by rw [hs124_18.1, hlen_mm]; decide)
                    have hP : va_P D vwCl [(uob, .inl (ct 1, 60000, .inl g_uob)), (mm, .inr (16, m224_1)), (ureg, .inl (ct 2, 32, .inr (.inl k_ureg124_8))), (upl_, .inl (ct 1, 16, .inl g_upl_)), (upb, .inl (ct 1, 4096, .inl g_upb)), (ustk, .inl (ct 1, 64, .inl k_ustk124_9))] _ := hP
                    have hD : va_D A [(uob, .inl (ct 1, 60000, .inl g_uob)), (mm, .inr (16, m224_1)), (ureg, .inl (ct 2, 32, .inr (.inl k_ureg124_8))), (upl_, .inl (ct 1, 16, .inl g_upl_)), (upb, .inl (ct 1, 4096, .inl g_upb)), (ustk, .inl (ct 1, 64, .inl k_ustk124_9))] := hD
                    refine lv_lconst (v := 0) hx hb dX16_emulate_227 (by decide) ?_
                    exact endq_l hQ hx hb hr hlocks dX16_emulate_228 (m224_1, j224_s0, j79_fmm_36, z90_1, (1 : Int32), y_mm_75124_5, y_mm_76124_6, y_mm_77124_7, k_ureg124_8, k_ustk124_9) ⟨hsm224_1, (rg_w r224_1001 (by decide)), hfm224_1_35, (rg_w r101_3 (by decide)), hfm224_1_36, hfm224_1_37, (rg_w (show rg (1 : Int32) 1 1 from rg_l (by decide)) (by decide)), hfm224_1_38, hfm224_1_75, hp124_13, hfm224_1_76, hp124_15, hfm224_1_77, hp124_17⟩ hP hD hS [1, 2, 5, 3, 0, 4] rfl (by decide) rfl (Nat.le_of_ble_eq_true rfl) (Nat.le_of_ble_eq_true rfl)
                  refine lv_if_eq (tgt := 211) hx hb dX16_emulate_204 (by decide) (fun c204_1 => ?_) (fun c204_1 => ?_)
                  · have t204_2 := FF.mk (i_eq c204_1)
                    have r204_3 : rg y_mm_76124_6 0 0 := rg_eqA t204_2 hp124_13 (show rg (0 : Int32) 0 0 from rg_l (by decide)) (by decide)
                    refine lv_aload_n hx hb dX16_emulate_211 rfl (lv_at hl 0 rfl) ?_
                    refine va_get (D := D) (ci := 16) (v := .int y_mm_77124_7) (C := RX16) (T := TX16) (N := 78) hx hb (htX16 hn) (fun _ h => h) hown hK hP 1 rfl rfl 77 (by decide) (hn.get mw_1616 rfl) (fun _ h9 => h9) hp124_16 dX16_emulate_212 ?_
                    refine lv_if_eq (tgt := 223) hx hb dX16_emulate_215 (by decide) (fun c215_1 => ?_) (fun c215_1 => ?_)
                    · have t215_2 := FF.mk (i_eq c215_1)
                      have r215_3 : rg y_mm_77124_7 0 0 := rg_eqA t215_2 hp124_15 (show rg (0 : Int32) 0 0 from rg_l (by decide)) (by decide)
                      refine lv_iconst (v := 2) hx hb dX16_emulate_223 (by decide) ?_
                      exact b224 (2 : Int32) H locs ls (rg_w (show rg (2 : Int32) 2 2 from rg_l (by decide)) (by decide)) (lv_sub hl [] rfl) hP hD hS
                    · have t215_2 := FF.mk (i_ne c215_1)
                      have r215_3 : rg y_mm_77124_7 1 1 := rg_neAl t215_2 hp124_15 (show rg (0 : Int32) 0 0 from rg_l (by decide)) (by decide)
                      refine lv_bipush (v := 7) hx hb dX16_emulate_218 (by decide) ?_
                      refine lv_goto (tgt := 224) hx hb dX16_emulate_220 (by decide) ?_
                      exact b224 (7 : Int32) H locs ls (rg_w (show rg (7 : Int32) 7 7 from rg_l (by decide)) (by decide)) (lv_sub hl [] rfl) hP hD hS
                  · have t204_2 := FF.mk (i_ne c204_1)
                    have r204_3 : rg y_mm_76124_6 1 1 := rg_neAl t204_2 hp124_13 (show rg (0 : Int32) 0 0 from rg_l (by decide)) (by decide)
                    refine lv_iconst (v := 1) hx hb dX16_emulate_207 (by decide) ?_
                    refine lv_goto (tgt := 224) hx hb dX16_emulate_208 (by decide) ?_
                    exact b224 (1 : Int32) H locs ls (rg_w (show rg (1 : Int32) 1 1 from rg_l (by decide)) (by decide)) (lv_sub hl [] rfl) hP hD hS
                refine lv_if_ne (tgt := 199) hx hb dX16_emulate_184 (by decide) (fun c184_1 => ?_) (fun c184_1 => ?_)
                · have t184_2 := FF.mk (i_ne c184_1)
                  have r184_3 : rg y_mm_76124_6 1 1 := rg_neAl t184_2 hp124_13 (show rg (0 : Int32) 0 0 from rg_l (by decide)) (by decide)
                  exact b199  H locs ls  (lv_sub hl [1] rfl) hP hD hS
                · have t184_2 := FF.mk (i_eq c184_1)
                  have r184_3 : rg y_mm_76124_6 0 0 := rg_eqA t184_2 hp124_13 (show rg (0 : Int32) 0 0 from rg_l (by decide)) (by decide)
                  refine lv_aload_n hx hb dX16_emulate_187 rfl (lv_at hl 1 rfl) ?_
                  refine va_get (D := D) (ci := 16) (v := .int y_mm_77124_7) (C := RX16) (T := TX16) (N := 78) hx hb (htX16 hn) (fun _ h => h) hown hK hP 1 rfl rfl 77 (by decide) (hn.get mw_1616 rfl) (fun _ h9 => h9) hp124_16 dX16_emulate_188 ?_
                  refine lv_if_ne (tgt := 199) hx hb dX16_emulate_191 (by decide) (fun c191_1 => ?_) (fun c191_1 => ?_)
                  · have t191_2 := FF.mk (i_ne c191_1)
                    have r191_3 : rg y_mm_77124_7 1 1 := rg_neAl t191_2 hp124_15 (show rg (0 : Int32) 0 0 from rg_l (by decide)) (by decide)
                    exact b199  H locs ls  (lv_sub hl [1] rfl) hP hD hS
                  · have t191_2 := FF.mk (i_eq c191_1)
                    have r191_3 : rg y_mm_77124_7 0 0 := rg_eqA t191_2 hp124_15 (show rg (0 : Int32) 0 0 from rg_l (by decide)) (by decide)
                    refine lv_iload hx hb dX16_emulate_194 (lv_at hl 0 rfl) ?_
                    refine lv_if_eq (tgt := 229) hx hb dX16_emulate_196 (by decide) (fun c196_1 => ?_) (fun c196_1 => ?_)
                    · have t196_2 := FF.mk (i_eq c196_1)
                      have r196_3 : rg j178_s0 0 0 := rg_eqA t196_2 r178_1001 (show rg (0 : Int32) 0 0 from rg_l (by decide)) (by decide)
                      refine lv_aload_n hx hb dX16_emulate_229 rfl (lv_at hl 1 rfl) ?_
                      refine lv_dup hx hb dX16_emulate_230 rfl ?_
                      refine va_get (D := D) (ci := 16) (v := .int j79_fmm_36) (C := RX16) (T := TX16) (N := 78) hx hb (htX16 hn) (fun _ h => h) hown hK hP 1 rfl rfl 36 (by decide) (hn.get mw_1575 rfl) (fun _ h9 => h9) hf124_20 dX16_emulate_231 ?_
                      refine lv_iconst (v := 1) hx hb dX16_emulate_234 (by decide) ?_
                      refine lv_iadd hx hb dX16_emulate_235 ?_
                      refine lv_topi (fun z235_1 ez235_1 => ?_)
                      have r235_2 : rg z235_1 1 100000 := rg_add ez235_1 r101_3 (show rg (1 : Int32) 1 1 from rg_l (by decide)) (by decide)
                      refine va_put (D := D) (ci := 16) (v := .int z235_1) (ty := .int) (C := RX16) (T := TX16) (N := 78) hx hb (htX16 hn) (fun _ h => h) tyX16 tyX16_ok nmX16 hown hK hP hD hS 1 rfl rfl 36 (by decide) (hn.get mw_1575 rfl) (fun _ h9 => h9) rfl (by decide +kernel) rfl rfl (by rw [hs124_18.1, hlen_mm]; decide) dX16_emulate_236 (fun H locs hP hD hS => ?_)
                      have hP : va_P D vwCl [(uob, .inl (ct 1, 60000, .inl g_uob)), (mm, .inr (16, (fs2_mm124_4.set 36 (.int z235_1)))), (ureg, .inl (ct 2, 32, .inr (.inl k_ureg124_8))), (upl_, .inl (ct 1, 16, .inl g_upl_)), (upb, .inl (ct 1, 4096, .inl g_upb)), (ustk, .inl (ct 1, 64, .inl k_ustk124_9))] _ := hP
                      have hD : va_D A [(uob, .inl (ct 1, 60000, .inl g_uob)), (mm, .inr (16, (fs2_mm124_4.set 36 (.int z235_1)))), (ureg, .inl (ct 2, 32, .inr (.inl k_ureg124_8))), (upl_, .inl (ct 1, 16, .inl g_upl_)), (upb, .inl (ct 1, 4096, .inl g_upb)), (ustk, .inl (ct 1, 64, .inl k_ustk124_9))] := hD
                      obtain ⟨m236_1, em236_1⟩ : ∃ z, z = (fs2_mm124_4.set 36 (.int z235_1)) := ⟨_, rfl⟩
                      rw [← em236_1] at hP hD
                      have hsm236_1 : SB fs_mm m236_1 [35, 36, 37, 38, 75, 76, 77] := by rw [em236_1]; exact SB.set hs124_18 (by decide)
                      have hfm236_1_35 : m236_1[35]? = some (.int 0) := by rw [em236_1]; exact fs_ne (by decide) hf124_19
                      have hfm236_1_38 : m236_1[38]? = some (.int 1) := by rw [em236_1]; exact fs_ne (by decide) hf124_21
                      have hfm236_1_37 : m236_1[37]? = some (.int z90_1) := by rw [em236_1]; exact fs_ne (by decide) hf124_22
                      have hfm236_1_75 : m236_1[75]? = some (.long y_mm_75124_5) := by rw [em236_1]; exact fs_ne (by decide) hp124_12
                      have hfm236_1_76 : m236_1[76]? = some (.int y_mm_76124_6) := by rw [em236_1]; exact fs_ne (by decide) hp124_14
                      have hfm236_1_77 : m236_1[77]? = some (.int y_mm_77124_7) := by rw [em236_1]; exact fs_ne (by decide) hp124_16
                      have hfm236_1_36 : m236_1[36]? = some (.int z235_1) := by rw [em236_1]; exact fs_eq (by rw [hs124_18.1, hlen_mm]; decide)
                      have hP : va_P D vwCl [(uob, .inl (ct 1, 60000, .inl g_uob)), (mm, .inr (16, m236_1)), (ureg, .inl (ct 2, 32, .inr (.inl k_ureg124_8))), (upl_, .inl (ct 1, 16, .inl g_upl_)), (upb, .inl (ct 1, 4096, .inl g_upb)), (ustk, .inl (ct 1, 64, .inl k_ustk124_9))] _ := hP
                      have hD : va_D A [(uob, .inl (ct 1, 60000, .inl g_uob)), (mm, .inr (16, m236_1)), (ureg, .inl (ct 2, 32, .inr (.inl k_ureg124_8))), (upl_, .inl (ct 1, 16, .inl g_upl_)), (upb, .inl (ct 1, 4096, .inl g_upb)), (ustk, .inl (ct 1, 64, .inl k_ustk124_9))] := hD
                      refine lv_aload_n hx hb dX16_emulate_239 rfl (lv_at hl 1 rfl) ?_
                      refine va_get (D := D) (ci := 16) (v := .long y_mm_75124_5) (C := RX16) (T := TX16) (N := 78) hx hb (htX16 hn) (fun _ h => h) hown hK hP 1 rfl rfl 75 (by decide) (hn.get mw_1614 rfl) (fun _ h9 => h9) hfm236_1_75 dX16_emulate_240 ?_
                      refine lv_lstore_n (lv' := [(2, .long y_mm_75124_5), (5, .int j178_s0), (0, .ref mm), (1, .int v0), (4, .int r124_1)]) hx hb dX16_emulate_243 rfl hl (by decide) rfl (fun ls hl => ?_)
                      refine lv_goto (tgt := 79) hx hb dX16_emulate_244 (by decide) ?_
                      have hP := hP.sub (ws' := [(upl_, .inl (ct 1, 16, .inl g_upl_)), (uob, .inl (ct 1, 60000, .inl g_uob)), (upb, .inl (ct 1, 4096, .inl g_upb)), (mm, .inr (16, m236_1)), (ureg, .inl (ct 2, 32, .inr (.inl k_ureg124_8))), (ustk, .inl (ct 1, 64, .inl k_ustk124_9))]) [3, 0, 4, 1, 2, 5] rfl
                      have hD := hD.sub (ws' := [(upl_, .inl (ct 1, 16, .inl g_upl_)), (uob, .inl (ct 1, 60000, .inl g_uob)), (upb, .inl (ct 1, 4096, .inl g_upb)), (mm, .inr (16, m236_1)), (ureg, .inl (ct 2, 32, .inr (.inl k_ureg124_8))), (ustk, .inl (ct 1, 64, .inl k_ustk124_9))]) [3, 0, 4, 1, 2, 5] (by decide) rfl
                      exact ih y_mm_75124_5 r124_1 m236_1 y_mm_75124_5 y_mm_76124_6 y_mm_77124_7 z235_1 z90_1 k_ureg124_8 k_ustk124_9 H locs ls hp124_10 hsm236_1 hfm236_1_75 (rg_w r184_3 (by decide)) hfm236_1_76 (rg_w r191_3 (by decide)) hfm236_1_77 hfm236_1_35 (rg_w r235_2 (by decide)) hfm236_1_36 r90_2 hfm236_1_37 hfm236_1_38 hp124_17 (show r124_1.toInt = 0 → 0 ≤ y_mm_75124_5.toInt ∧ y_mm_75124_5.toInt < 240000 by have q0 := hp124_10.1; have q1 := r196_3.1; have q2 := r196_3.2; have q3 := FF.out hi178_1002; omega) (show ((100001 : Int) - z235_1.toInt).toNat < n by have q0 := r101_3.2; have q1 := (eq_add ez235_1 r101_3 (show rg (1 : Int32) 1 1 from rg_l (by decide)) (by decide)); have q2 := (show (1 : Int32).toInt = 1 from by decide); have q3 := hms; omega) (lv_sub hl [2, 3, 0, 4] rfl) hP hD hS
                    · have t196_2 := FF.mk (i_ne c196_1)
                      have r196_3 : rg j178_s0 1 1 := rg_neAl t196_2 r178_1001 (show rg (0 : Int32) 0 0 from rg_l (by decide)) (by decide)
                      exact b199  H locs ls  (lv_sub hl [1] rfl) hP hD hS
              have b177 : ∀  (H : Heap) (locs : List Loc) (ls : Array Slot), (FF (r124_1.toInt ≠ 0 ∨ (0 ≤ y_mm_75124_5.toInt ∧ y_mm_75124_5.toInt < 240000))) → lv_has ls 6 [(0, .ref mm), (1, .int v0), (4, .int r124_1)] → va_P D vwCl [(uob, .inl (ct 1, 60000, .inl g_uob)), (mm, .inr (16, fs2_mm124_4)), (ureg, .inl (ct 2, 32, .inr (.inl k_ureg124_8))), (upl_, .inl (ct 1, 16, .inl g_upl_)), (upb, .inl (ct 1, 4096, .inl g_upb)), (ustk, .inl (ct 1, 64, .inl k_ustk124_9))] H → va_D A [(uob, .inl (ct 1, 60000, .inl g_uob)), (mm, .inr (16, fs2_mm124_4)), (ureg, .inl (ct 2, 32, .inr (.inl k_ureg124_8))), (upl_, .inl (ct 1, 16, .inl g_upl_)), (upb, .inl (ct 1, 4096, .inl g_upb)), (ustk, .inl (ct 1, 64, .inl k_ustk124_9))] → va_S A s.heap H locs → W p l e ({ frames := 5, cells := 0, slots := 0, locals := 125 }) s m [.ref mm, .int v0].toArray below meth c H locs 0 0 Q (F0 m 177 ls []) := by
                intro  H locs ls hi177_1001 hl hP hD hS
                refine lv_iconst (v := 0) hx hb dX16_emulate_177 (by decide) ?_
                exact b178 (0 : Int32) H locs ls (rg_w (show rg (0 : Int32) 0 0 from rg_l (by decide)) (by decide)) (show (0 : Int32).toInt = 0 → r124_1.toInt ≠ 0 ∨ (0 ≤ y_mm_75124_5.toInt ∧ y_mm_75124_5.toInt < 240000) by have q0 := hp124_10.1; have q1 := FF.out hi177_1001; have q2 := (show (0 : Int32).toInt = 0 from by decide); omega) (lv_sub hl [0, 1, 2] rfl) hP hD hS
              refine lv_if_ne (tgt := 177) hx hb dX16_emulate_131 (by decide) (fun c131_1 => ?_) (fun c131_1 => ?_)
              · have t131_2 := FF.mk (i_ne c131_1)
                have r131_3 : rg r124_1 1 1 := rg_neAl t131_2 hp124_10 (show rg (0 : Int32) 0 0 from rg_l (by decide)) (by decide)
                exact b177  H locs ls (show r124_1.toInt ≠ 0 ∨ (0 ≤ y_mm_75124_5.toInt ∧ y_mm_75124_5.toInt < 240000) by have q0 := r131_3.1; omega) (lv_sub hl [1, 2, 0] rfl) hP hD hS
              · have t131_2 := FF.mk (i_eq c131_1)
                have r131_3 : rg r124_1 0 0 := rg_eqA t131_2 hp124_10 (show rg (0 : Int32) 0 0 from rg_l (by decide)) (by decide)
                refine lv_aload_n hx hb dX16_emulate_134 rfl (lv_at hl 1 rfl) ?_
                refine va_get (D := D) (ci := 16) (v := .long y_mm_75124_5) (C := RX16) (T := TX16) (N := 78) hx hb (htX16 hn) (fun _ h => h) hown hK hP 1 rfl rfl 75 (by decide) (hn.get mw_1614 rfl) (fun _ h9 => h9) hp124_12 dX16_emulate_135 ?_
                refine lv_lconst (v := 0) hx hb dX16_emulate_138 (by decide) ?_
                refine W.lcmp hx hb dX16_emulate_139 ?_
                refine lv_topi (fun z139_1 ez139_1 => ?_)
                have b173 : ∀  (H : Heap) (locs : List Loc) (ls : Array Slot), lv_has ls 6 [(0, .ref mm), (1, .int v0), (4, .int r124_1)] → va_P D vwCl [(uob, .inl (ct 1, 60000, .inl g_uob)), (mm, .inr (16, fs2_mm124_4)), (ureg, .inl (ct 2, 32, .inr (.inl k_ureg124_8))), (upl_, .inl (ct 1, 16, .inl g_upl_)), (upb, .inl (ct 1, 4096, .inl g_upb)), (ustk, .inl (ct 1, 64, .inl k_ustk124_9))] H → va_D A [(uob, .inl (ct 1, 60000, .inl g_uob)), (mm, .inr (16, fs2_mm124_4)), (ureg, .inl (ct 2, 32, .inr (.inl k_ureg124_8))), (upl_, .inl (ct 1, 16, .inl g_upl_)), (upb, .inl (ct 1, 4096, .inl g_upb)), (ustk, .inl (ct 1, 64, .inl k_ustk124_9))] → va_S A s.heap H locs → W p l e ({ frames := 5, cells := 0, slots := 0, locals := 125 }) s m [.ref mm, .int v0].toArray below meth c H locs 0 0 Q (F0 m 173 ls []) := by
                  intro  H locs ls  hl hP hD hS
                  refine lv_iconst (v := 1) hx hb dX16_emulate_173 (by decide) ?_
                  refine lv_goto (tgt := 178) hx hb dX16_emulate_174 (by decide) ?_
                  exact b178 (1 : Int32) H locs ls (rg_w (show rg (1 : Int32) 1 1 from rg_l (by decide)) (by decide)) (show (1 : Int32).toInt = 0 → r124_1.toInt ≠ 0 ∨ (0 ≤ y_mm_75124_5.toInt ∧ y_mm_75124_5.toInt < 240000) by have q0 := (show (1 : Int32).toInt = 1 from by decide); omega) (lv_sub hl [0, 1, 2] rfl) hP hD hS
                refine lv_if_lt (tgt := 173) hx hb dX16_emulate_140 (by decide) (fun c140_1 => ?_) (fun c140_1 => ?_)
                · have t140_2 := FF.mk (l_lt ez139_1 c140_1)
                  have r140_3 : rl y_mm_75124_5 (-9223372036854775808) (-1) := rl_ltA t140_2 (rl_any y_mm_75124_5) (show rl (0 : Int64) 0 0 from rl_l (by decide)) (by decide)
                  exact b173  H locs ls  (lv_sub hl [1, 2, 0] rfl) hP hD hS
                · have t140_2 := FF.mk (l_nlt ez139_1 c140_1)
                  have r140_3 : rl y_mm_75124_5 0 9223372036854775807 := rl_leB t140_2 (show rl (0 : Int64) 0 0 from rl_l (by decide)) (rl_any y_mm_75124_5) (by decide)
                  refine lv_aload_n hx hb dX16_emulate_143 rfl (lv_at hl 1 rfl) ?_
                  refine va_get (D := D) (ci := 16) (v := .long y_mm_75124_5) (C := RX16) (T := TX16) (N := 78) hx hb (htX16 hn) (fun _ h => h) hown hK hP 1 rfl rfl 75 (by decide) (hn.get mw_1614 rfl) (fun _ h9 => h9) hp124_12 dX16_emulate_144 ?_
                  refine lv_ldc2 (v := 4) hx hb hown (hn.get mw_1825 rfl) dX16_emulate_147 ?_
                  refine lv_lrem hx hb dX16_emulate_150 (by decide) ?_
                  refine lv_topl (fun z150_1 ez150_1 => ?_)
                  refine lv_lconst (v := 0) hx hb dX16_emulate_151 (by decide) ?_
                  refine W.lcmp hx hb dX16_emulate_152 ?_
                  refine lv_topi (fun z152_1 ez152_1 => ?_)
                  refine lv_if_ne (tgt := 173) hx hb dX16_emulate_153 (by decide) (fun c153_1 => ?_) (fun c153_1 => ?_)
                  · have t153_2 := FF.mk (l_ne ez152_1 c153_1)
                    exact b173  H locs ls  (lv_sub hl [1, 2, 0] rfl) hP hD hS
                  · have t153_2 := FF.mk (l_eq ez152_1 c153_1)
                    have r153_3 : rl z150_1 0 0 := rl_eqA t153_2 (rl_any z150_1) (show rl (0 : Int64) 0 0 from rl_l (by decide)) (by decide)
                    refine lv_aload_n hx hb dX16_emulate_156 rfl (lv_at hl 1 rfl) ?_
                    refine va_get (D := D) (ci := 16) (v := .long y_mm_75124_5) (C := RX16) (T := TX16) (N := 78) hx hb (htX16 hn) (fun _ h => h) hown hK hP 1 rfl rfl 75 (by decide) (hn.get mw_1614 rfl) (fun _ h9 => h9) hp124_12 dX16_emulate_157 ?_
                    refine lv_ldc2 (v := 4) hx hb hown (hn.get mw_1825 rfl) dX16_emulate_160 ?_
                    refine lv_ldiv hx hb dX16_emulate_163 (by decide) ?_
                    refine lv_topl (fun z163_1 ez163_1 => ?_)
                    have r163_2 : rl z163_1 0 2305843009213693951 := rgL_div (k := 4) ez163_1 (by decide) r140_3 (by decide)
                    refine lv_aload_n hx hb dX16_emulate_164 rfl (lv_at hl 1 rfl) ?_
                    refine va_get (D := D) (ci := 16) (v := .int x_mm_70) (C := RX16) (T := TX16) (N := 78) hx hb (htX16 hn) (fun _ h => h) hown hK hP 1 rfl rfl 70 (by decide) (hn.get mw_1609 rfl) (fun _ h9 => h9) (SB.get hs124_18 (by decide) hf_mm_70) dX16_emulate_165 ?_
                    refine lv_i2l hx hb dX16_emulate_168 rfl ?_
                    refine lv_topl (fun z168_1 ez168_1 => ?_)
                    have r168_2 : rl z168_1 0 60000 := rl_i2l ez168_1 h_x_mm_70
                    refine W.lcmp hx hb dX16_emulate_169 ?_
                    refine lv_topi (fun z169_1 ez169_1 => ?_)
                    refine lv_if_lt (tgt := 177) hx hb dX16_emulate_170 (by decide) (fun c170_1 => ?_) (fun c170_1 => ?_)
                    · have t170_2 := FF.mk (l_lt ez169_1 c170_1)
                      have r170_3 : rl z163_1 0 59999 := rl_ltA t170_2 r163_2 r168_2 (by decide)
                      have r170_4 : rl z168_1 1 60000 := rl_ltB t170_2 r163_2 r168_2 (by decide)
                      exact b177  H locs ls (show r124_1.toInt ≠ 0 ∨ (0 ≤ y_mm_75124_5.toInt ∧ y_mm_75124_5.toInt < 240000) by have q0 := r140_3.1; have q1 := r170_3.2; have q2 := (eqL_div (c := 4) (k := 4) ez163_1 (by decide) r140_3 (by decide)); omega) (lv_sub hl [1, 2, 0] rfl) hP hD hS
                    · have t170_2 := FF.mk (l_nlt ez169_1 c170_1)
                      exact b173  H locs ls  (lv_sub hl [1, 2, 0] rfl) hP hD hS
            · have t101_2 := FF.mk (i_eq c101_1)
              have r101_3 : rg j79_fmm_36 100000 100000 := rg_eqA t101_2 r79_1009 (show rg (100000 : Int32) 100000 100000 from rg_l (by decide)) (by decide)
              refine lv_aload_n hx hb dX16_emulate_104 rfl (lv_at hl 0 rfl) ?_
              refine lv_bipush (v := 9) hx hb dX16_emulate_105 (by decide) ?_
              refine va_put (D := D) (ci := 16) (v := .int 9) (ty := .int) (C := RX16) (T := TX16) (N := 78) hx hb (htX16 hn) (fun _ h => h) tyX16 tyX16_ok nmX16 hown hK hP hD hS 3 rfl rfl 35 (by decide) (hn.get mw_1574 rfl) (fun _ h9 => h9) rfl (by decide +kernel) rfl rfl (by rw [hsm91_1.1, hlen_mm]; decide) dX16_emulate_107 (fun H locs hP hD hS => ?_)
              have hP : va_P D vwCl [(upl_, .inl (ct 1, 16, .inl g_upl_)), (uob, .inl (ct 1, 60000, .inl g_uob)), (upb, .inl (ct 1, 4096, .inl g_upb)), (mm, .inr (16, (m91_1.set 35 (.int 9)))), (ureg, .inl (ct 2, 32, .inr (.inl j79_cureg))), (ustk, .inl (ct 1, 64, .inl j79_custk))] _ := hP
              have hD : va_D A [(upl_, .inl (ct 1, 16, .inl g_upl_)), (uob, .inl (ct 1, 60000, .inl g_uob)), (upb, .inl (ct 1, 4096, .inl g_upb)), (mm, .inr (16, (m91_1.set 35 (.int 9)))), (ureg, .inl (ct 2, 32, .inr (.inl j79_cureg))), (ustk, .inl (ct 1, 64, .inl j79_custk))] := hD
              obtain ⟨m107_1, em107_1⟩ : ∃ z, z = (m91_1.set 35 (.int 9)) := ⟨_, rfl⟩
              rw [← em107_1] at hP hD
              have hsm107_1 : SB fs_mm m107_1 [35, 36, 37, 38, 75, 76, 77] := by rw [em107_1]; exact SB.set hsm91_1 (by decide)
              have hfm107_1_75 : m107_1[75]? = some (.long j79_fmm_75) := by rw [em107_1]; exact fs_ne (by decide) hfm91_1_75
              have hfm107_1_76 : m107_1[76]? = some (.int j79_fmm_76) := by rw [em107_1]; exact fs_ne (by decide) hfm91_1_76
              have hfm107_1_77 : m107_1[77]? = some (.int j79_fmm_77) := by rw [em107_1]; exact fs_ne (by decide) hfm91_1_77
              have hfm107_1_36 : m107_1[36]? = some (.int j79_fmm_36) := by rw [em107_1]; exact fs_ne (by decide) hfm91_1_36
              have hfm107_1_38 : m107_1[38]? = some (.int 1) := by rw [em107_1]; exact fs_ne (by decide) hfm91_1_38
              have hfm107_1_37 : m107_1[37]? = some (.int z90_1) := by rw [em107_1]; exact fs_ne (by decide) hfm91_1_37
              have hfm107_1_35 : m107_1[35]? = some (.int 9) := by rw [em107_1]; exact fs_eq (by rw [hsm91_1.1, hlen_mm]; decide)
              have hP : va_P D vwCl [(upl_, .inl (ct 1, 16, .inl g_upl_)), (uob, .inl (ct 1, 60000, .inl g_uob)), (upb, .inl (ct 1, 4096, .inl g_upb)), (mm, .inr (16, m107_1)), (ureg, .inl (ct 2, 32, .inr (.inl j79_cureg))), (ustk, .inl (ct 1, 64, .inl j79_custk))] _ := hP
              have hD : va_D A [(upl_, .inl (ct 1, 16, .inl g_upl_)), (uob, .inl (ct 1, 60000, .inl g_uob)), (upb, .inl (ct 1, 4096, .inl g_upb)), (mm, .inr (16, m107_1)), (ureg, .inl (ct 2, 32, .inr (.inl j79_cureg))), (ustk, .inl (ct 1, 64, .inl j79_custk))] := hD
              refine lv_lconst (v := 0) hx hb dX16_emulate_110 (by decide) ?_
              exact endq_l hQ hx hb hr hlocks dX16_emulate_111 (m107_1, (9 : Int32), j79_fmm_36, z90_1, (1 : Int32), j79_fmm_75, j79_fmm_76, j79_fmm_77, j79_cureg, j79_custk) ⟨hsm107_1, (rg_w (show rg (9 : Int32) 9 9 from rg_l (by decide)) (by decide)), hfm107_1_35, (rg_w r101_3 (by decide)), hfm107_1_36, hfm107_1_37, (rg_w (show rg (1 : Int32) 1 1 from rg_l (by decide)) (by decide)), hfm107_1_38, hfm107_1_75, r79_1004, hfm107_1_76, r79_1006, hfm107_1_77, hc79_1014⟩ hP hD hS [3, 4, 5, 0, 1, 2] rfl (by decide) rfl (Nat.le_of_ble_eq_true rfl) (Nat.le_of_ble_eq_true rfl)
      exact b79 _ (0 : Int64) (0 : Int32) m23_1 x_mm_75 x_mm_76 x_mm_77 (0 : Int32) (0 : Int32) f73_2 k_ustk18_6 H locs ls (rg_w (show rg (0 : Int32) 0 0 from rg_l (by decide)) (by decide)) hsm23_1 hfm23_1_75 h_x_mm_76 hfm23_1_76 h_x_mm_77 hfm23_1_77 hfm23_1_35 (rg_w (show rg (0 : Int32) 0 0 from rg_l (by decide)) (by decide)) hfm23_1_36 (rg_w (show rg (0 : Int32) 0 0 from rg_l (by decide)) (by decide)) hfm23_1_37 hfm23_1_38 hp18_11 (show (0 : Int32).toInt = 0 → 0 ≤ (0 : Int64).toInt ∧ (0 : Int64).toInt < 240000 by have q0 := (show (0 : Int32).toInt = 0 from by decide); have q1 := (show (0 : Int64).toInt = 0 from by decide); omega) (Nat.lt_succ_self _) (lv_sub hl [2, 3, 1, 0] rfl) hP hD hS
    · have t12_2 := FF.mk (i_eq c12_1)
      have r12_3 : rg r9_1 0 0 := rg_eqA t12_2 hp9_4 (show rg (0 : Int32) 0 0 from rg_l (by decide)) (by decide)
      refine lv_lconst (v := 0) hx hb dX16_emulate_15 (by decide) ?_
      exact endq_l hQ hx hb hr hlocks dX16_emulate_16 (fs_mm, x_mm_35, x_mm_36, x_mm_37, x_mm_38, x_mm_75, x_mm_76, x_mm_77, g_ureg, g_ustk) ⟨(SB.rf _ _), h_x_mm_35, hf_mm_35, h_x_mm_36, hf_mm_36, hf_mm_37, h_x_mm_38, hf_mm_38, hf_mm_75, h_x_mm_76, hf_mm_76, h_x_mm_77, hf_mm_77, h_g_ustk⟩ hP hD hS [5, 0, 1, 2, 3, 4] rfl (by decide) rfl (Nat.le_of_ble_eq_true rfl) (Nat.le_of_ble_eq_true rfl)
