set_option maxHeartbeats 2000000 in
theorem c_X16_at_t (l : Launch) (D : va_G) (ct : Nat → ClassId) (mm : Nat) (v0 : Int32) (fs_mm : List Value) (utape : Nat) (x_mm_8 : Int32) (g_utape : Nat → Int32) (h_v0 : rg v0 0 2002) (hlen_mm : fs_mm.length = 78) (hf_mm_0 : fs_mm[0]? = some (.ref utape)) (h_x_mm_8 : rg x_mm_8 0 2000) (hf_mm_8 : fs_mm[8]? = some (.int x_mm_8)) (h_g_utape : Rg g_utape 2000 0 255) : KI (S := Unit) l yX16_at cX16_at 2 (some .int) 1 20 D ct [.ref mm, .int v0] [(mm, .inr (16, fs_mm)), (utape, .inl (ct 1, 2000, .inl g_utape))] 0 0 (fun (r : Int32) (_ : Unit) => rg r 0 255 ∧ (v0.toInt < x_mm_8.toInt → r.toInt = (g_utape v0.toNatClampNeg).toInt) ∧ (x_mm_8.toInt ≤ v0.toInt → r.toInt = 0)) (fun (_ : Unit) => [(mm, .inr (16, fs_mm)), (utape, .inl (ct 1, 2000, .inl g_utape))]) := by
  refine KIq_of (by decide) (Nat.le_of_ble_eq_true rfl) (fun p e s m below meth c A Q C0 hA H locs hS hP hD hQ ls hl => ?_)
  obtain ⟨hx, hb, hr, hown, hin, hml, hlocks, hn, hK, hZ, hSK⟩ := C0
  have hl : lv_has ls 2 [(0, .ref mm), (1, .int v0)] := hl
  refine lv_iload_n hx hb dX16_at_0 rfl (lv_at hl 1 rfl) ?_
  refine lv_aload_n hx hb dX16_at_1 rfl (lv_at hl 0 rfl) ?_
  refine va_get (D := D) (ci := 16) (v := .int x_mm_8) (C := RX16) (T := TX16) (N := 78) hx hb (htX16 hn) (fun _ h => h) hown hK hP 0 rfl rfl 8 (by decide) (hn.get mw_1547 rfl) (fun _ h9 => h9) hf_mm_8 dX16_at_2 ?_
  refine lv_icmp_ge (tgt := 17) hx hb dX16_at_5 (by decide) (fun c5_1 => ?_) (fun c5_1 => ?_)
  · have t5_2 := FF.mk (i_le c5_1)
    refine lv_iconst (v := 0) hx hb dX16_at_17 (by decide) ?_
    exact endq_i hQ hx hb hr hlocks dX16_at_18 rfl () ⟨(rg_w (show rg (0 : Int32) 0 0 from rg_l (by decide)) (by decide)), (show v0.toInt < x_mm_8.toInt → (0 : Int32).toInt = (g_utape v0.toNatClampNeg).toInt by have q0 := FF.out t5_2; have q1 := (show (0 : Int32).toInt = 0 from by decide); omega), (show x_mm_8.toInt ≤ v0.toInt → (0 : Int32).toInt = 0 by have q0 := (show (0 : Int32).toInt = 0 from by decide); omega)⟩ hP hD hS [0, 1] rfl (by decide) rfl (Nat.le_of_ble_eq_true rfl) (Nat.le_of_ble_eq_true rfl)
  · have t5_2 := FF.mk (i_nle c5_1)
    have r5_3 : rg v0 0 1999 := rg_ltA t5_2 h_v0 h_x_mm_8 (by decide)
    have r5_4 : rg x_mm_8 1 2000 := rg_ltB t5_2 h_v0 h_x_mm_8 (by decide)
    refine lv_aload_n hx hb dX16_at_8 rfl (lv_at hl 0 rfl) ?_
    refine va_get (D := D) (ci := 16) (v := .ref utape) (C := RX16) (T := TX16) (N := 78) hx hb (htX16 hn) (fun _ h => h) hown hK hP 0 rfl rfl 0 (by decide) (hn.get mw_1539 rfl) (fun _ h9 => h9) hf_mm_0 dX16_at_9 ?_
    refine lv_iload_n hx hb dX16_at_12 rfl (lv_at hl 1 rfl) ?_
    have hi13_1 : vp_in v0 2000 := (in_rg r5_3 (by decide))
    refine va_iald hx hb hK hP 1 1 rfl rfl hi13_1 dX16_at_13 ?_
    refine lv_topi (fun z13_2 ez13_2 => ?_)
    have r13_3 : rg z13_2 0 255 := Rg_at h_g_utape hi13_1 ez13_2
    refine lv_goto (tgt := 18) hx hb dX16_at_14 (by decide) ?_
    exact endq_i hQ hx hb hr hlocks dX16_at_18 rfl () ⟨r13_3, (show v0.toInt < x_mm_8.toInt → z13_2.toInt = (g_utape v0.toNatClampNeg).toInt by have q0 := (congrArg Int32.toInt ez13_2); omega), (show x_mm_8.toInt ≤ v0.toInt → z13_2.toInt = 0 by have q0 := FF.out t5_2; omega)⟩ hP hD hS [0, 1] rfl (by decide) rfl (Nat.le_of_ble_eq_true rfl) (Nat.le_of_ble_eq_true rfl)
set_option maxHeartbeats 2000000 in
theorem c_X16_isDigit_dg (l : Launch) (D : va_G) (ct : Nat → ClassId) (v0 : Int32)  : KI (S := Unit) l yX16_isDigit cX16_isDigit 1 (some .boolean) 1 20 D ct [.int v0] [] 0 0 (fun (r : Int32) (_ : Unit) => rg r 0 1 ∧ (r.toInt = 1 → 48 ≤ v0.toInt ∧ v0.toInt ≤ 57) ∧ (r.toInt = 0 → v0.toInt < 48 ∨ 57 < v0.toInt)) (fun (_ : Unit) => []) := by
  refine KIq_of (by decide) (Nat.le_of_ble_eq_true rfl) (fun p e s m below meth c A Q C0 hA H locs hS hP hD hQ ls hl => ?_)
  obtain ⟨hx, hb, hr, hown, hin, hml, hlocks, hn, hK, hZ, hSK⟩ := C0
  have hl : lv_has ls 1 [(0, .int v0)] := hl
  refine lv_iload_n hx hb dX16_isDigit_0 rfl (lv_at hl 0 rfl) ?_
  refine lv_bipush (v := 48) hx hb dX16_isDigit_1 (by decide) ?_
  refine lv_icmp_lt (tgt := 16) hx hb dX16_isDigit_3 (by decide) (fun c3_1 => ?_) (fun c3_1 => ?_)
  · have t3_2 := FF.mk (i_lt c3_1)
    have r3_3 : rg v0 (-2147483648) 47 := rg_ltA t3_2 (rg_any v0) (show rg (48 : Int32) 48 48 from rg_l (by decide)) (by decide)
    refine lv_iconst (v := 0) hx hb dX16_isDigit_16 (by decide) ?_
    exact endq_i hQ hx hb hr hlocks dX16_isDigit_17 (by decide) () ⟨(rg_w (show rg (0 : Int32) 0 0 from rg_l (by decide)) (by decide)), (show (0 : Int32).toInt = 1 → 48 ≤ v0.toInt ∧ v0.toInt ≤ 57 by have q0 := (show (0 : Int32).toInt = 0 from by decide); omega), (show (0 : Int32).toInt = 0 → v0.toInt < 48 ∨ 57 < v0.toInt by have q0 := r3_3.2; have q1 := (show (0 : Int32).toInt = 0 from by decide); omega)⟩ hP hD hS [] rfl (by decide) rfl (Nat.le_of_ble_eq_true rfl) (Nat.le_of_ble_eq_true rfl)
  · have t3_2 := FF.mk (i_nlt c3_1)
    have r3_3 : rg v0 48 2147483647 := rg_leB t3_2 (show rg (48 : Int32) 48 48 from rg_l (by decide)) (rg_any v0) (by decide)
    refine lv_iload_n hx hb dX16_isDigit_6 rfl (lv_at hl 0 rfl) ?_
    refine lv_bipush (v := 57) hx hb dX16_isDigit_7 (by decide) ?_
    refine lv_icmp_gt (tgt := 16) hx hb dX16_isDigit_9 (by decide) (fun c9_1 => ?_) (fun c9_1 => ?_)
    · have t9_2 := FF.mk (i_lt c9_1)
      have r9_3 : rg v0 58 2147483647 := rg_ltB t9_2 (show rg (57 : Int32) 57 57 from rg_l (by decide)) r3_3 (by decide)
      refine lv_iconst (v := 0) hx hb dX16_isDigit_16 (by decide) ?_
      exact endq_i hQ hx hb hr hlocks dX16_isDigit_17 (by decide) () ⟨(rg_w (show rg (0 : Int32) 0 0 from rg_l (by decide)) (by decide)), (show (0 : Int32).toInt = 1 → 48 ≤ v0.toInt ∧ v0.toInt ≤ 57 by have q0 := (show (0 : Int32).toInt = 0 from by decide); omega), (show (0 : Int32).toInt = 0 → v0.toInt < 48 ∨ 57 < v0.toInt by have q0 := r9_3.1; have q1 := (show (0 : Int32).toInt = 0 from by decide); omega)⟩ hP hD hS [] rfl (by decide) rfl (Nat.le_of_ble_eq_true rfl) (Nat.le_of_ble_eq_true rfl)
    · have t9_2 := FF.mk (i_nlt c9_1)
      have r9_3 : rg v0 48 57 := rg_leA t9_2 r3_3 (show rg (57 : Int32) 57 57 from rg_l (by decide)) (by decide)
      refine lv_iconst (v := 1) hx hb dX16_isDigit_12 (by decide) ?_
      refine lv_goto (tgt := 17) hx hb dX16_isDigit_13 (by decide) ?_
      exact endq_i hQ hx hb hr hlocks dX16_isDigit_17 (by decide) () ⟨(rg_w (show rg (1 : Int32) 1 1 from rg_l (by decide)) (by decide)), (show (1 : Int32).toInt = 1 → 48 ≤ v0.toInt ∧ v0.toInt ≤ 57 by have q0 := r9_3.1; have q1 := r9_3.2; have q2 := (show (1 : Int32).toInt = 1 from by decide); omega), (show (1 : Int32).toInt = 0 → v0.toInt < 48 ∨ 57 < v0.toInt by have q0 := (show (1 : Int32).toInt = 1 from by decide); omega)⟩ hP hD hS [] rfl (by decide) rfl (Nat.le_of_ble_eq_true rfl) (Nat.le_of_ble_eq_true rfl)
set_option maxHeartbeats 2000000 in
theorem c_X16_isOfWord (l : Launch) (D : va_G) (ct : Nat → ClassId) (mm : Nat) (v0 : Int32) (fs_mm : List Value) (utape : Nat) (x_mm_8 : Int32) (g_utape : Nat → Int32) (h_v0 : rg v0 0 2001) (hlen_mm : fs_mm.length = 78) (hf_mm_0 : fs_mm[0]? = some (.ref utape)) (h_x_mm_8 : rg x_mm_8 0 2000) (hf_mm_8 : fs_mm[8]? = some (.int x_mm_8)) (h_g_utape : Rg g_utape 2000 0 255) : KI (S := Unit) l yX16_isOfWord cX16_isOfWord 3 (some .boolean) 2 41 D ct [.ref mm, .int v0] [(mm, .inr (16, fs_mm)), (utape, .inl (ct 1, 2000, .inl g_utape))] 0 0 (fun (r : Int32) (_ : Unit) => rg r 0 1 ∧ (r.toInt = 1 → v0.toInt < x_mm_8.toInt ∧ ((97 ≤ (g_utape v0.toNatClampNeg).toInt ∧ (g_utape v0.toNatClampNeg).toInt ≤ 122) ∨ (48 ≤ (g_utape v0.toNatClampNeg).toInt ∧ (g_utape v0.toNatClampNeg).toInt ≤ 57) ∨ (g_utape v0.toNatClampNeg).toInt = 46)) ∧ (r.toInt = 0 → x_mm_8.toInt ≤ v0.toInt ∨ ¬ ((97 ≤ (g_utape v0.toNatClampNeg).toInt ∧ (g_utape v0.toNatClampNeg).toInt ≤ 122) ∨ (48 ≤ (g_utape v0.toNatClampNeg).toInt ∧ (g_utape v0.toNatClampNeg).toInt ≤ 57) ∨ (g_utape v0.toNatClampNeg).toInt = 46))) (fun (_ : Unit) => [(mm, .inr (16, fs_mm)), (utape, .inl (ct 1, 2000, .inl g_utape))]) := by
  refine KIq_of (by decide) (Nat.le_of_ble_eq_true rfl) (fun p e s m below meth c A Q C0 hA H locs hS hP hD hQ ls hl => ?_)
  obtain ⟨hx, hb, hr, hown, hin, hml, hlocks, hn, hK, hZ, hSK⟩ := C0
  have hl : lv_has ls 3 [(0, .ref mm), (1, .int v0)] := hl
  refine lv_aload_n hx hb dX16_isOfWord_0 rfl (lv_at hl 0 rfl) ?_
  refine lv_iload_n hx hb dX16_isOfWord_1 rfl (lv_at hl 1 rfl) ?_
  refine go_i (k1 := 0) (n1 := 0) (wr := []) [0, 1] [] (rn_V (As := [.int v0]) (rest := []) (c_X16_at_t l D ct mm v0 fs_mm utape x_mm_8 g_utape (rg_w h_v0 (by decide)) hlen_mm hf_mm_0 h_x_mm_8 hf_mm_8 h_g_utape _) (cb_of (n := 1) hn mw_1920 mw_13 mw_1917 mhX16_at ⟨(Nat.le_of_ble_eq_true rfl), (Nat.le_of_ble_eq_true rfl)⟩) hx hb hml hown hn hK hSK hZ hS mw_1919 mw_s181 (ci := 16) (q0 := 0) rfl rfl rfl rfl hl.1 (Nat.le_of_ble_eq_true rfl) dX16_isOfWord_2 ⟨(Nat.le_of_ble_eq_true rfl), (Nat.le_of_ble_eq_true rfl)⟩) hP hD hS hA rfl rfl (by decide) (by decide) (by decide) (Nat.le_of_ble_eq_true rfl) (Nat.le_of_ble_eq_true rfl) (fun r2_1 u2_2 H locs hp2_3 hP hD hS => ?_)
  obtain ⟨hp2_4, hp2_5, hp2_6⟩ := hp2_3
  have hp2_4 : rg r2_1 0 255 := hp2_4
  replace hp2_5 : FF (v0.toInt < x_mm_8.toInt → r2_1.toInt = (g_utape v0.toNatClampNeg).toInt) := hp2_5
  replace hp2_6 : FF (x_mm_8.toInt ≤ v0.toInt → r2_1.toInt = 0) := hp2_6
  have hP : va_P D vwCl [(mm, .inr (16, fs_mm)), (utape, .inl (ct 1, 2000, .inl g_utape))] _ := hP
  have hD : va_D A [(mm, .inr (16, fs_mm)), (utape, .inl (ct 1, 2000, .inl g_utape))] := hD
  refine lv_istore_n (lv' := [(2, .int r2_1), (0, .ref mm), (1, .int v0)]) hx hb dX16_isOfWord_5 rfl hl (by decide) rfl (fun ls hl => ?_)
  refine lv_iload_n hx hb dX16_isOfWord_6 rfl (lv_at hl 0 rfl) ?_
  refine lv_bipush (v := 97) hx hb dX16_isOfWord_7 (by decide) ?_
  refine lv_icmp_lt (tgt := 18) hx hb dX16_isOfWord_9 (by decide) (fun c9_1 => ?_) (fun c9_1 => ?_)
  · have t9_2 := FF.mk (i_lt c9_1)
    have r9_3 : rg r2_1 0 96 := rg_ltA t9_2 hp2_4 (show rg (97 : Int32) 97 97 from rg_l (by decide)) (by decide)
    refine lv_iload_n hx hb dX16_isOfWord_18 rfl (lv_at hl 0 rfl) ?_
    refine go_i (k1 := 0) (n1 := 0) (wr := [(mm, .inr (16, fs_mm)), (utape, .inl (ct 1, 2000, .inl g_utape))]) [] [0, 1] (rn_S (As := [.int r2_1]) (rest := []) (c_X16_isDigit_dg l D ct r2_1  _) (cb_of (n := 1) hn mw_1923 mw_13 mw_1921 mhX16_isDigit ⟨(Nat.le_of_ble_eq_true rfl), (Nat.le_of_ble_eq_true rfl)⟩) hx hb hml hown hn hK hSK hZ hS mw_1922 rfl hl.1 (Nat.le_of_ble_eq_true rfl) dX16_isOfWord_19 ⟨(Nat.le_of_ble_eq_true rfl), (Nat.le_of_ble_eq_true rfl)⟩) hP hD hS hA rfl rfl (by decide) (by decide) (by decide) (Nat.le_of_ble_eq_true rfl) (Nat.le_of_ble_eq_true rfl) (fun r19_1 u19_2 H locs hp19_3 hP hD hS => ?_)
    obtain ⟨hp19_4, hp19_5, hp19_6⟩ := hp19_3
    have hp19_4 : rg r19_1 0 1 := hp19_4
    replace hp19_5 : FF (r19_1.toInt = 1 → 48 ≤ r2_1.toInt ∧ r2_1.toInt ≤ 57) := hp19_5
    replace hp19_6 : FF (r19_1.toInt = 0 → r2_1.toInt < 48 ∨ 57 < r2_1.toInt) := hp19_6
    have hP : va_P D vwCl [(mm, .inr (16, fs_mm)), (utape, .inl (ct 1, 2000, .inl g_utape))] _ := hP
    have hD : va_D A [(mm, .inr (16, fs_mm)), (utape, .inl (ct 1, 2000, .inl g_utape))] := hD
    refine lv_if_ne (tgt := 31) hx hb dX16_isOfWord_22 (by decide) (fun c22_1 => ?_) (fun c22_1 => ?_)
    · have t22_2 := FF.mk (i_ne c22_1)
      have r22_3 : rg r19_1 1 1 := rg_neAl t22_2 hp19_4 (show rg (0 : Int32) 0 0 from rg_l (by decide)) (by decide)
      refine lv_iconst (v := 1) hx hb dX16_isOfWord_31 (by decide) ?_
      refine lv_goto (tgt := 36) hx hb dX16_isOfWord_32 (by decide) ?_
      exact endq_i hQ hx hb hr hlocks dX16_isOfWord_36 (by decide) () ⟨(rg_w (show rg (1 : Int32) 1 1 from rg_l (by decide)) (by decide)), (show (1 : Int32).toInt = 1 → v0.toInt < x_mm_8.toInt ∧ ((97 ≤ (g_utape v0.toNatClampNeg).toInt ∧ (g_utape v0.toNatClampNeg).toInt ≤ 122) ∨ (48 ≤ (g_utape v0.toNatClampNeg).toInt ∧ (g_utape v0.toNatClampNeg).toInt ≤ 57) ∨ (g_utape v0.toNatClampNeg).toInt = 46) by have q0 := r22_3.1; have q1 := r22_3.2; have q2 := FF.out hp2_5; have q3 := FF.out hp2_6; have q4 := FF.out hp19_5; have q5 := (show (1 : Int32).toInt = 1 from by decide); omega), (show (1 : Int32).toInt = 0 → x_mm_8.toInt ≤ v0.toInt ∨ ¬ ((97 ≤ (g_utape v0.toNatClampNeg).toInt ∧ (g_utape v0.toNatClampNeg).toInt ≤ 122) ∨ (48 ≤ (g_utape v0.toNatClampNeg).toInt ∧ (g_utape v0.toNatClampNeg).toInt ≤ 57) ∨ (g_utape v0.toNatClampNeg).toInt = 46) by have q0 := (show (1 : Int32).toInt = 1 from by decide); omega)⟩ hP hD hS [0, 1] rfl (by decide) rfl (Nat.le_of_ble_eq_true rfl) (Nat.le_of_ble_eq_true rfl)
    · have t22_2 := FF.mk (i_eq c22_1)
      have r22_3 : rg r19_1 0 0 := rg_eqA t22_2 hp19_4 (show rg (0 : Int32) 0 0 from rg_l (by decide)) (by decide)
      refine lv_iload_n hx hb dX16_isOfWord_25 rfl (lv_at hl 0 rfl) ?_
      refine lv_bipush (v := 46) hx hb dX16_isOfWord_26 (by decide) ?_
      refine lv_icmp_ne (tgt := 35) hx hb dX16_isOfWord_28 (by decide) (fun c28_1 => ?_) (fun c28_1 => ?_)
      · have t28_2 := FF.mk (i_ne c28_1)
        refine lv_iconst (v := 0) hx hb dX16_isOfWord_35 (by decide) ?_
        exact endq_i hQ hx hb hr hlocks dX16_isOfWord_36 (by decide) () ⟨(rg_w (show rg (0 : Int32) 0 0 from rg_l (by decide)) (by decide)), (show (0 : Int32).toInt = 1 → v0.toInt < x_mm_8.toInt ∧ ((97 ≤ (g_utape v0.toNatClampNeg).toInt ∧ (g_utape v0.toNatClampNeg).toInt ≤ 122) ∨ (48 ≤ (g_utape v0.toNatClampNeg).toInt ∧ (g_utape v0.toNatClampNeg).toInt ≤ 57) ∨ (g_utape v0.toNatClampNeg).toInt = 46) by have q0 := (show (0 : Int32).toInt = 0 from by decide); omega), (show (0 : Int32).toInt = 0 → x_mm_8.toInt ≤ v0.toInt ∨ ¬ ((97 ≤ (g_utape v0.toNatClampNeg).toInt ∧ (g_utape v0.toNatClampNeg).toInt ≤ 122) ∨ (48 ≤ (g_utape v0.toNatClampNeg).toInt ∧ (g_utape v0.toNatClampNeg).toInt ≤ 57) ∨ (g_utape v0.toNatClampNeg).toInt = 46) by have q0 := r9_3.2; have q1 := FF.out hp2_5; have q2 := FF.out hp19_6; have q3 := FF.out t22_2; have q4 := FF.out t28_2; have q5 := (show (0 : Int32).toInt = 0 from by decide); have q6 := (show (46 : Int32).toInt = 46 from by decide); omega)⟩ hP hD hS [0, 1] rfl (by decide) rfl (Nat.le_of_ble_eq_true rfl) (Nat.le_of_ble_eq_true rfl)
      · have t28_2 := FF.mk (i_eq c28_1)
        have r28_3 : rg r2_1 46 46 := rg_eqA t28_2 r9_3 (show rg (46 : Int32) 46 46 from rg_l (by decide)) (by decide)
        refine lv_iconst (v := 1) hx hb dX16_isOfWord_31 (by decide) ?_
        refine lv_goto (tgt := 36) hx hb dX16_isOfWord_32 (by decide) ?_
        exact endq_i hQ hx hb hr hlocks dX16_isOfWord_36 (by decide) () ⟨(rg_w (show rg (1 : Int32) 1 1 from rg_l (by decide)) (by decide)), (show (1 : Int32).toInt = 1 → v0.toInt < x_mm_8.toInt ∧ ((97 ≤ (g_utape v0.toNatClampNeg).toInt ∧ (g_utape v0.toNatClampNeg).toInt ≤ 122) ∨ (48 ≤ (g_utape v0.toNatClampNeg).toInt ∧ (g_utape v0.toNatClampNeg).toInt ≤ 57) ∨ (g_utape v0.toNatClampNeg).toInt = 46) by have q0 := r28_3.1; have q1 := r28_3.2; have q2 := FF.out hp2_5; have q3 := FF.out hp2_6; have q4 := (show (1 : Int32).toInt = 1 from by decide); omega), (show (1 : Int32).toInt = 0 → x_mm_8.toInt ≤ v0.toInt ∨ ¬ ((97 ≤ (g_utape v0.toNatClampNeg).toInt ∧ (g_utape v0.toNatClampNeg).toInt ≤ 122) ∨ (48 ≤ (g_utape v0.toNatClampNeg).toInt ∧ (g_utape v0.toNatClampNeg).toInt ≤ 57) ∨ (g_utape v0.toNatClampNeg).toInt = 46) by have q0 := (show (1 : Int32).toInt = 1 from by decide); omega)⟩ hP hD hS [0, 1] rfl (by decide) rfl (Nat.le_of_ble_eq_true rfl) (Nat.le_of_ble_eq_true rfl)
  · have t9_2 := FF.mk (i_nlt c9_1)
    have r9_3 : rg r2_1 97 255 := rg_leB t9_2 (show rg (97 : Int32) 97 97 from rg_l (by decide)) hp2_4 (by decide)
    refine lv_iload_n hx hb dX16_isOfWord_12 rfl (lv_at hl 0 rfl) ?_
    refine lv_bipush (v := 122) hx hb dX16_isOfWord_13 (by decide) ?_
    refine lv_icmp_le (tgt := 31) hx hb dX16_isOfWord_15 (by decide) (fun c15_1 => ?_) (fun c15_1 => ?_)
    · have t15_2 := FF.mk (i_le c15_1)
      have r15_3 : rg r2_1 97 122 := rg_leA t15_2 r9_3 (show rg (122 : Int32) 122 122 from rg_l (by decide)) (by decide)
      refine lv_iconst (v := 1) hx hb dX16_isOfWord_31 (by decide) ?_
      refine lv_goto (tgt := 36) hx hb dX16_isOfWord_32 (by decide) ?_
      exact endq_i hQ hx hb hr hlocks dX16_isOfWord_36 (by decide) () ⟨(rg_w (show rg (1 : Int32) 1 1 from rg_l (by decide)) (by decide)), (show (1 : Int32).toInt = 1 → v0.toInt < x_mm_8.toInt ∧ ((97 ≤ (g_utape v0.toNatClampNeg).toInt ∧ (g_utape v0.toNatClampNeg).toInt ≤ 122) ∨ (48 ≤ (g_utape v0.toNatClampNeg).toInt ∧ (g_utape v0.toNatClampNeg).toInt ≤ 57) ∨ (g_utape v0.toNatClampNeg).toInt = 46) by have q0 := r15_3.1; have q1 := r15_3.2; have q2 := FF.out hp2_5; have q3 := FF.out hp2_6; have q4 := (show (1 : Int32).toInt = 1 from by decide); omega), (show (1 : Int32).toInt = 0 → x_mm_8.toInt ≤ v0.toInt ∨ ¬ ((97 ≤ (g_utape v0.toNatClampNeg).toInt ∧ (g_utape v0.toNatClampNeg).toInt ≤ 122) ∨ (48 ≤ (g_utape v0.toNatClampNeg).toInt ∧ (g_utape v0.toNatClampNeg).toInt ≤ 57) ∨ (g_utape v0.toNatClampNeg).toInt = 46) by have q0 := (show (1 : Int32).toInt = 1 from by decide); omega)⟩ hP hD hS [0, 1] rfl (by decide) rfl (Nat.le_of_ble_eq_true rfl) (Nat.le_of_ble_eq_true rfl)
    · have t15_2 := FF.mk (i_nle c15_1)
      have r15_3 : rg r2_1 123 255 := rg_ltB t15_2 (show rg (122 : Int32) 122 122 from rg_l (by decide)) r9_3 (by decide)
      refine lv_iload_n hx hb dX16_isOfWord_18 rfl (lv_at hl 0 rfl) ?_
      refine go_i (k1 := 0) (n1 := 0) (wr := [(mm, .inr (16, fs_mm)), (utape, .inl (ct 1, 2000, .inl g_utape))]) [] [0, 1] (rn_S (As := [.int r2_1]) (rest := []) (c_X16_isDigit_dg l D ct r2_1  _) (cb_of (n := 1) hn mw_1923 mw_13 mw_1921 mhX16_isDigit ⟨(Nat.le_of_ble_eq_true rfl), (Nat.le_of_ble_eq_true rfl)⟩) hx hb hml hown hn hK hSK hZ hS mw_1922 rfl hl.1 (Nat.le_of_ble_eq_true rfl) dX16_isOfWord_19 ⟨(Nat.le_of_ble_eq_true rfl), (Nat.le_of_ble_eq_true rfl)⟩) hP hD hS hA rfl rfl (by decide) (by decide) (by decide) (Nat.le_of_ble_eq_true rfl) (Nat.le_of_ble_eq_true rfl) (fun r19_1 u19_2 H locs hp19_3 hP hD hS => ?_)
      obtain ⟨hp19_4, hp19_5, hp19_6⟩ := hp19_3
      have hp19_4 : rg r19_1 0 1 := hp19_4
      replace hp19_5 : FF (r19_1.toInt = 1 → 48 ≤ r2_1.toInt ∧ r2_1.toInt ≤ 57) := hp19_5
      replace hp19_6 : FF (r19_1.toInt = 0 → r2_1.toInt < 48 ∨ 57 < r2_1.toInt) := hp19_6
      have hP : va_P D vwCl [(mm, .inr (16, fs_mm)), (utape, .inl (ct 1, 2000, .inl g_utape))] _ := hP
      have hD : va_D A [(mm, .inr (16, fs_mm)), (utape, .inl (ct 1, 2000, .inl g_utape))] := hD
      refine lv_if_ne (tgt := 31) hx hb dX16_isOfWord_22 (by decide) (fun c22_1 => ?_) (fun c22_1 => ?_)
      · have t22_2 := FF.mk (i_ne c22_1)
        have r22_3 : rg r19_1 1 1 := rg_neAl t22_2 hp19_4 (show rg (0 : Int32) 0 0 from rg_l (by decide)) (by decide)
        refine lv_iconst (v := 1) hx hb dX16_isOfWord_31 (by decide) ?_
        refine lv_goto (tgt := 36) hx hb dX16_isOfWord_32 (by decide) ?_
        exact endq_i hQ hx hb hr hlocks dX16_isOfWord_36 (by decide) () ⟨(rg_w (show rg (1 : Int32) 1 1 from rg_l (by decide)) (by decide)), (show (1 : Int32).toInt = 1 → v0.toInt < x_mm_8.toInt ∧ ((97 ≤ (g_utape v0.toNatClampNeg).toInt ∧ (g_utape v0.toNatClampNeg).toInt ≤ 122) ∨ (48 ≤ (g_utape v0.toNatClampNeg).toInt ∧ (g_utape v0.toNatClampNeg).toInt ≤ 57) ∨ (g_utape v0.toNatClampNeg).toInt = 46) by have q0 := r15_3.1; have q1 := r22_3.1; have q2 := r22_3.2; have q3 := FF.out hp19_5; have q4 := (show (1 : Int32).toInt = 1 from by decide); omega), (show (1 : Int32).toInt = 0 → x_mm_8.toInt ≤ v0.toInt ∨ ¬ ((97 ≤ (g_utape v0.toNatClampNeg).toInt ∧ (g_utape v0.toNatClampNeg).toInt ≤ 122) ∨ (48 ≤ (g_utape v0.toNatClampNeg).toInt ∧ (g_utape v0.toNatClampNeg).toInt ≤ 57) ∨ (g_utape v0.toNatClampNeg).toInt = 46) by have q0 := (show (1 : Int32).toInt = 1 from by decide); omega)⟩ hP hD hS [0, 1] rfl (by decide) rfl (Nat.le_of_ble_eq_true rfl) (Nat.le_of_ble_eq_true rfl)
      · have t22_2 := FF.mk (i_eq c22_1)
        have r22_3 : rg r19_1 0 0 := rg_eqA t22_2 hp19_4 (show rg (0 : Int32) 0 0 from rg_l (by decide)) (by decide)
        refine lv_iload_n hx hb dX16_isOfWord_25 rfl (lv_at hl 0 rfl) ?_
        refine lv_bipush (v := 46) hx hb dX16_isOfWord_26 (by decide) ?_
        refine lv_icmp_ne (tgt := 35) hx hb dX16_isOfWord_28 (by decide) (fun c28_1 => ?_) (fun c28_1 => ?_)
        · have t28_2 := FF.mk (i_ne c28_1)
          refine lv_iconst (v := 0) hx hb dX16_isOfWord_35 (by decide) ?_
          exact endq_i hQ hx hb hr hlocks dX16_isOfWord_36 (by decide) () ⟨(rg_w (show rg (0 : Int32) 0 0 from rg_l (by decide)) (by decide)), (show (0 : Int32).toInt = 1 → v0.toInt < x_mm_8.toInt ∧ ((97 ≤ (g_utape v0.toNatClampNeg).toInt ∧ (g_utape v0.toNatClampNeg).toInt ≤ 122) ∨ (48 ≤ (g_utape v0.toNatClampNeg).toInt ∧ (g_utape v0.toNatClampNeg).toInt ≤ 57) ∨ (g_utape v0.toNatClampNeg).toInt = 46) by have q0 := (show (0 : Int32).toInt = 0 from by decide); omega), (show (0 : Int32).toInt = 0 → x_mm_8.toInt ≤ v0.toInt ∨ ¬ ((97 ≤ (g_utape v0.toNatClampNeg).toInt ∧ (g_utape v0.toNatClampNeg).toInt ≤ 122) ∨ (48 ≤ (g_utape v0.toNatClampNeg).toInt ∧ (g_utape v0.toNatClampNeg).toInt ≤ 57) ∨ (g_utape v0.toNatClampNeg).toInt = 46) by have q0 := r15_3.1; have q1 := FF.out hp2_5; have q2 := (show (0 : Int32).toInt = 0 from by decide); omega)⟩ hP hD hS [0, 1] rfl (by decide) rfl (Nat.le_of_ble_eq_true rfl) (Nat.le_of_ble_eq_true rfl)
        · exact absurd (i_eq c28_1) (rg_eqX r15_3 (show rg (46 : Int32) 46 46 from rg_l (by decide)) (by decide))
set_option maxHeartbeats 2000000 in
theorem c_X16_must (l : Launch) (hst : l.stackTraces = false) (D : va_G) (ct : Nat → ClassId) (mm : Nat) (v0 : Int32) (fs_mm : List Value) (x_mm_6 : Int32) (h_v0 : rg v0 0 1) (hlen_mm : fs_mm.length = 78) (h_x_mm_6 : rg x_mm_6 0 2000) (hf_mm_6 : fs_mm[6]? = some (.int x_mm_6)) : KT (V := Unit) (S := Unit) (SX := Unit) l yX16_must cX16_must 2 none 7 141 D ct [.ref mm, .int v0] [(mm, .inr (16, fs_mm))] 1 7 (fun _ : Unit => none) (fun (_ : Unit) (_ : Unit) => (v0.toInt = 1)) (fun (_ : Unit) => [(mm, .inr (16, fs_mm))] ++ []) (fun _ => 0) (fun _ => 0) 15 RX15 peW (fun (_ : Unit) => True) (fun (_ : Unit) => [(mm, .inr (16, fs_mm))]) := by
  refine KT_of (by decide) (Nat.le_of_ble_eq_true rfl) (fun p e s m below meth c A Q C0 htab hA H locs hS hP hD hQ ls hl => ?_)
  obtain ⟨hx, hb, hr, hown, hin, hml, hlocks, hn, hK, hZ, hSK⟩ := C0
  have hl : lv_has ls 2 [(0, .ref mm), (1, .int v0)] := hl
  refine lv_iload_n hx hb dX16_must_0 rfl (lv_at hl 1 rfl) ?_
  refine lv_if_ne (tgt := 16) hx hb dX16_must_1 (by decide) (fun c1_1 => ?_) (fun c1_1 => ?_)
  · have t1_2 := FF.mk (i_ne c1_1)
    have r1_3 : rg v0 1 1 := rg_neAl t1_2 h_v0 (show rg (0 : Int32) 0 0 from rg_l (by decide)) (by decide)
    exact et_v (SX := Unit) (pl1 := fun _ => []) hQ hx hb hr hlocks dX16_must_16 () (show v0.toInt = 1 by have q0 := r1_3.1; have q1 := r1_3.2; omega) (by rw [List.append_nil]; exact hP) (by rw [List.append_nil]; exact hD) hS [0] (by decide) rfl (Nat.le_of_ble_eq_true rfl) (Nat.le_of_ble_eq_true rfl) (Nat.le_of_ble_eq_true rfl) (Nat.le_of_ble_eq_true rfl)
  · have t1_2 := FF.mk (i_eq c1_1)
    have r1_3 : rg v0 0 0 := rg_eqA t1_2 h_v0 (show rg (0 : Int32) 0 0 from rg_l (by decide)) (by decide)
    refine nw_W (k1 := 1) (n1 := 7) hx hb hn hown mw_1908 mw_1928 mw_21 hK hP hD hS hA (Nat.le_of_ble_eq_true rfl) (Nat.le_of_ble_eq_true rfl) (Nat.le_of_ble_eq_true rfl) (Nat.le_of_ble_eq_true rfl) dX16_must_4 (fun q4_1 H hfr hP hD hS => ?_)
    have hP : va_P D vwCl [(mm, .inr (16, fs_mm)), (q4_1, .inr (15, fs0W))] _ := hP
    have hD : va_D A [(mm, .inr (16, fs_mm)), (q4_1, .inr (15, fs0W))] := hD
    refine lv_dup hx hb dX16_must_7 rfl ?_
    refine lv_aload_n hx hb dX16_must_8 rfl (lv_at hl 0 rfl) ?_
    refine va_get (D := D) (ci := 16) (v := .int x_mm_6) (C := RX16) (T := TX16) (N := 78) hx hb (htX16 hn) (fun _ h => h) hown hK hP 0 rfl rfl 6 (by decide) (hn.get mw_1545 rfl) (fun _ h9 => h9) hf_mm_6 dX16_must_9 ?_
    refine go_v (wc := [(q4_1, .inr (15, fs0W))]) (k1 := 1) (n1 := 7) (wr := [(mm, .inr (16, fs_mm))]) [1] [0] (fun hPc hDc hFc => va_runI (As := [.int x_mm_6]) (rest := [.ref q4_1]) (fix0 hx hb hml hown) (c_X15_init l hst D ct q4_1 x_mm_6 _) ⟨cb_of (n := 1) hn mw_1938 mw_21 mw_1936 mhX15_init ⟨(Nat.le_of_ble_eq_true rfl), (Nat.le_of_ble_eq_true rfl)⟩, rfl, hn.get mw_1937 rfl⟩ ⟨blindNW, preN_of hPc hK hDc hn hSK hZ hS hFc hfr⟩ rfl rfl hl.1 rfl (lv_room (Nat.le_of_ble_eq_true rfl)) dX16_must_12 ⟨(Nat.le_of_ble_eq_true rfl), (Nat.le_of_ble_eq_true rfl)⟩) hP hD hS hA rfl rfl (by decide) (by decide) (by decide) (Nat.le_of_ble_eq_true rfl) (Nat.le_of_ble_eq_true rfl) (fun fs12_1 H locs hp12_2 hP hD hS => ?_)
    have hP : va_P D vwCl [(mm, .inr (16, fs_mm)), (q4_1, .inr (15, fs12_1))] _ := hP
    have hD : va_D A [(mm, .inr (16, fs_mm)), (q4_1, .inr (15, fs12_1))] := hD
    have hpefs12_1 : peW fs12_1 := ⟨hp12_2.1, x_mm_6, hp12_2.2⟩
    refine vx_athrow hx hb dX16_must_15 ?_
    exact xo hQ htab hlocks hK rfl hP hD hS () (fs := fs12_1) trivial hpefs12_1 [0, 1] (by decide) rfl (kq := 1) rfl (Nat.le_of_ble_eq_true rfl) (Nat.le_of_ble_eq_true rfl)
set_option maxHeartbeats 2000000 in
theorem c_X16_next (l : Launch) (hst : l.stackTraces = false) (D : va_G) (ct : Nat → ClassId) (mm : Nat) (fs_mm : List Value) (utape : Nat) (x_mm_7 : Int32) (x_mm_8 : Int32) (g_utape : Nat → Int32) (hlen_mm : fs_mm.length = 78) (hf_mm_0 : fs_mm[0]? = some (.ref utape)) (h_x_mm_7 : rg x_mm_7 0 2001) (hf_mm_7 : fs_mm[7]? = some (.int x_mm_7)) (h_x_mm_8 : rg x_mm_8 0 2000) (hf_mm_8 : fs_mm[8]? = some (.int x_mm_8)) (h_g_utape : Rg g_utape 2000 0 255) (hq0 : x_mm_7.toInt ≤ x_mm_8.toInt) : KT (V := Unit) (S := List Value × Int32 × Int32 × Int32) (SX := List Value × Int32) l yX16_next cX16_next 6 none 8 162 D ct [.ref mm] [(mm, .inr (16, fs_mm)), (utape, .inl (ct 1, 2000, .inl g_utape))] 1 7 (fun _ : Unit => none) (fun (_ : Unit) (u : List Value × Int32 × Int32 × Int32) => match u with | (fs2_mm, y_mm_5, y_mm_6, y_mm_7) => SB fs_mm fs2_mm [5, 6, 7] ∧ rg y_mm_5 0 2 ∧ fs2_mm[5]? = some (.int y_mm_5) ∧ rg y_mm_6 0 2000 ∧ fs2_mm[6]? = some (.int y_mm_6) ∧ rg y_mm_7 0 2002 ∧ fs2_mm[7]? = some (.int y_mm_7) ∧ (y_mm_7.toInt ≤ x_mm_8.toInt) ∧ (y_mm_6.toInt ≤ x_mm_8.toInt) ∧ (y_mm_5.toInt ≠ 0 → y_mm_6.toInt + 1 ≤ y_mm_7.toInt) ∧ (x_mm_7.toInt ≤ y_mm_6.toInt)) (fun (u : List Value × Int32 × Int32 × Int32) => match u with | (fs2_mm, y_mm_5, y_mm_6, y_mm_7) => [(mm, .inr (16, fs2_mm)), (utape, .inl (ct 1, 2000, .inl g_utape))] ++ []) (fun _ => 0) (fun _ => 0) 15 RX15 peW (fun (u : List Value × Int32) => match u with | (fs2_mm, y_mm_6) => SB fs_mm fs2_mm [5, 6, 7] ∧ rg y_mm_6 0 2000 ∧ fs2_mm[6]? = some (.int y_mm_6) ∧ fs2_mm[7]? = some (.int x_mm_7)) (fun (u : List Value × Int32) => match u with | (fs2_mm, y_mm_6) => [(mm, .inr (16, fs2_mm)), (utape, .inl (ct 1, 2000, .inl g_utape))]) := by
  refine KT_of (by decide) (Nat.le_of_ble_eq_true rfl) (fun p e s m below meth c A Q C0 htab hA H locs hS hP hD hQ ls hl => ?_)
  obtain ⟨hx, hb, hr, hown, hin, hml, hlocks, hn, hK, hZ, hSK⟩ := C0
  have hl : lv_has ls 6 [(0, .ref mm)] := hl
  replace hq0 := FF.mk hq0
  refine lv_aload_n hx hb dX16_next_0 rfl (lv_at hl 0 rfl) ?_
  refine va_get (D := D) (ci := 16) (v := .int x_mm_7) (C := RX16) (T := TX16) (N := 78) hx hb (htX16 hn) (fun _ h => h) hown hK hP 0 rfl rfl 7 (by decide) (hn.get mw_1546 rfl) (fun _ h9 => h9) hf_mm_7 dX16_next_1 ?_
  refine lv_istore_n (lv' := [(1, .int x_mm_7), (0, .ref mm)]) hx hb dX16_next_4 rfl hl (by decide) rfl (fun ls hl => ?_)
  have b5 : ∀ (n5 : Nat) (j5_l1 : Int32) (H : Heap) (locs : List Loc) (ls : Array Slot), (rg j5_l1 0 2000) → (FF (x_mm_7.toInt ≤ j5_l1.toInt)) → (FF (j5_l1.toInt ≤ x_mm_8.toInt)) → ((2147483647 : Int) - j5_l1.toInt).toNat < n5 → lv_has ls 6 [(0, .ref mm), (1, .int j5_l1)] → va_P D vwCl [(mm, .inr (16, fs_mm)), (utape, .inl (ct 1, 2000, .inl g_utape))] H → va_D A [(mm, .inr (16, fs_mm)), (utape, .inl (ct 1, 2000, .inl g_utape))] → va_S A s.heap H locs → W p l e ({ frames := 8, cells := 1, slots := 7, locals := 162 }) s m [.ref mm].toArray below meth c H locs 0 0 Q (F0 m 5 ls []) := by
    intro n5
    induction n5 with
    | zero => intros; rename_i hms _ _ _ _; exact absurd hms (Nat.not_lt_zero _)
    | succ n5 ih5 =>
      intro j5_l1 H locs ls r5_1001 hi5_1002 hi5_1003 hms5 hl hP hD hS
      refine lv_iload_n hx hb dX16_next_5 rfl (lv_at hl 1 rfl) ?_
      refine lv_aload_n hx hb dX16_next_6 rfl (lv_at hl 0 rfl) ?_
      refine va_get (D := D) (ci := 16) (v := .int x_mm_8) (C := RX16) (T := TX16) (N := 78) hx hb (htX16 hn) (fun _ h => h) hown hK hP 0 rfl rfl 8 (by decide) (hn.get mw_1547 rfl) (fun _ h9 => h9) hf_mm_8 dX16_next_7 ?_
      have b41 : ∀  (H : Heap) (locs : List Loc) (ls : Array Slot), (FF (x_mm_7.toInt ≤ j5_l1.toInt)) → (FF (j5_l1.toInt ≤ x_mm_8.toInt)) → lv_has ls 6 [(0, .ref mm), (1, .int j5_l1)] → va_P D vwCl [(mm, .inr (16, fs_mm)), (utape, .inl (ct 1, 2000, .inl g_utape))] H → va_D A [(mm, .inr (16, fs_mm)), (utape, .inl (ct 1, 2000, .inl g_utape))] → va_S A s.heap H locs → W p l e ({ frames := 8, cells := 1, slots := 7, locals := 162 }) s m [.ref mm].toArray below meth c H locs 0 0 Q (F0 m 41 ls []) := by
        intro  H locs ls hi41_1001 hi41_1002 hl hP hD hS
        refine lv_aload_n hx hb dX16_next_41 rfl (lv_at hl 0 rfl) ?_
        refine lv_iload_n hx hb dX16_next_42 rfl (lv_at hl 1 rfl) ?_
        refine va_put (D := D) (ci := 16) (v := .int j5_l1) (ty := .int) (C := RX16) (T := TX16) (N := 78) hx hb (htX16 hn) (fun _ h => h) tyX16 tyX16_ok nmX16 hown hK hP hD hS 0 rfl rfl 6 (by decide) (hn.get mw_1545 rfl) (fun _ h9 => h9) rfl (by decide +kernel) rfl rfl (by rw [hlen_mm]; decide) dX16_next_43 (fun H locs hP hD hS => ?_)
        have hP : va_P D vwCl [(mm, .inr (16, (fs_mm.set 6 (.int j5_l1)))), (utape, .inl (ct 1, 2000, .inl g_utape))] _ := hP
        have hD : va_D A [(mm, .inr (16, (fs_mm.set 6 (.int j5_l1)))), (utape, .inl (ct 1, 2000, .inl g_utape))] := hD
        obtain ⟨m43_1, em43_1⟩ : ∃ z, z = (fs_mm.set 6 (.int j5_l1)) := ⟨_, rfl⟩
        rw [← em43_1] at hP hD
        have hsm43_1 : SB fs_mm m43_1 [5, 6, 7] := by rw [em43_1]; exact SB.set (SB.rf _ _) (by decide)
        have hfm43_1_7 : m43_1[7]? = some (.int x_mm_7) := by rw [em43_1]; exact fs_ne (by decide) hf_mm_7
        have hfm43_1_6 : m43_1[6]? = some (.int j5_l1) := by rw [em43_1]; exact fs_eq (by rw [hlen_mm]; decide)
        have hP : va_P D vwCl [(mm, .inr (16, m43_1)), (utape, .inl (ct 1, 2000, .inl g_utape))] _ := hP
        have hD : va_D A [(mm, .inr (16, m43_1)), (utape, .inl (ct 1, 2000, .inl g_utape))] := hD
        refine lv_iload_n hx hb dX16_next_46 rfl (lv_at hl 1 rfl) ?_
        refine lv_aload_n hx hb dX16_next_47 rfl (lv_at hl 0 rfl) ?_
        refine va_get (D := D) (ci := 16) (v := .int x_mm_8) (C := RX16) (T := TX16) (N := 78) hx hb (htX16 hn) (fun _ h => h) hown hK hP 0 rfl rfl 8 (by decide) (hn.get mw_1547 rfl) (fun _ h9 => h9) (SB.get hsm43_1 (by decide) hf_mm_8) dX16_next_48 ?_
        refine lv_icmp_ne (tgt := 60) hx hb dX16_next_51 (by decide) (fun c51_1 => ?_) (fun c51_1 => ?_)
        · have t51_2 := FF.mk (i_ne c51_1)
          refine lv_aload_n hx hb dX16_next_60 rfl (lv_at hl 0 rfl) ?_
          refine lv_iload_n hx hb dX16_next_61 rfl (lv_at hl 1 rfl) ?_
          refine go_i (k1 := 0) (n1 := 0) (wr := []) [0, 1] [] (rn_V (As := [.int j5_l1]) (rest := []) (c_X16_isOfWord l D ct mm j5_l1 m43_1 utape x_mm_8 g_utape (rg_w r5_1001 (by decide)) (hsm43_1.1.trans hlen_mm) (SB.get hsm43_1 (by decide) hf_mm_0) h_x_mm_8 (SB.get hsm43_1 (by decide) hf_mm_8) h_g_utape _) (cb_of (n := 1) hn mw_1916 mw_13 mw_1913 mhX16_isOfWord ⟨(Nat.le_of_ble_eq_true rfl), (Nat.le_of_ble_eq_true rfl)⟩) hx hb hml hown hn hK hSK hZ hS mw_1915 mw_s180 (ci := 16) (q0 := 0) rfl rfl rfl rfl hl.1 (Nat.le_of_ble_eq_true rfl) dX16_next_62 ⟨(Nat.le_of_ble_eq_true rfl), (Nat.le_of_ble_eq_true rfl)⟩) hP hD hS hA rfl rfl (by decide) (by decide) (by decide) (Nat.le_of_ble_eq_true rfl) (Nat.le_of_ble_eq_true rfl) (fun r62_1 u62_2 H locs hp62_3 hP hD hS => ?_)
          obtain ⟨hp62_4, hp62_5, hp62_6⟩ := hp62_3
          have hp62_4 : rg r62_1 0 1 := hp62_4
          replace hp62_5 : FF (r62_1.toInt = 1 → j5_l1.toInt < x_mm_8.toInt ∧ ((97 ≤ (g_utape j5_l1.toNatClampNeg).toInt ∧ (g_utape j5_l1.toNatClampNeg).toInt ≤ 122) ∨ (48 ≤ (g_utape j5_l1.toNatClampNeg).toInt ∧ (g_utape j5_l1.toNatClampNeg).toInt ≤ 57) ∨ (g_utape j5_l1.toNatClampNeg).toInt = 46)) := hp62_5
          replace hp62_6 : FF (r62_1.toInt = 0 → x_mm_8.toInt ≤ j5_l1.toInt ∨ ¬ ((97 ≤ (g_utape j5_l1.toNatClampNeg).toInt ∧ (g_utape j5_l1.toNatClampNeg).toInt ≤ 122) ∨ (48 ≤ (g_utape j5_l1.toNatClampNeg).toInt ∧ (g_utape j5_l1.toNatClampNeg).toInt ≤ 57) ∨ (g_utape j5_l1.toNatClampNeg).toInt = 46)) := hp62_6
          have hP : va_P D vwCl [(mm, .inr (16, m43_1)), (utape, .inl (ct 1, 2000, .inl g_utape))] _ := hP
          have hD : va_D A [(mm, .inr (16, m43_1)), (utape, .inl (ct 1, 2000, .inl g_utape))] := hD
          refine lv_if_eq (tgt := 93) hx hb dX16_next_65 (by decide) (fun c65_1 => ?_) (fun c65_1 => ?_)
          · have t65_2 := FF.mk (i_eq c65_1)
            have r65_3 : rg r62_1 0 0 := rg_eqA t65_2 hp62_4 (show rg (0 : Int32) 0 0 from rg_l (by decide)) (by decide)
            refine lv_aload_n hx hb dX16_next_93 rfl (lv_at hl 0 rfl) ?_
            refine lv_iload_n hx hb dX16_next_94 rfl (lv_at hl 1 rfl) ?_
            refine go_i (k1 := 0) (n1 := 0) (wr := []) [0, 1] [] (rn_V (As := [.int j5_l1]) (rest := []) (c_X16_at_t l D ct mm j5_l1 m43_1 utape x_mm_8 g_utape (rg_w r5_1001 (by decide)) (hsm43_1.1.trans hlen_mm) (SB.get hsm43_1 (by decide) hf_mm_0) h_x_mm_8 (SB.get hsm43_1 (by decide) hf_mm_8) h_g_utape _) (cb_of (n := 1) hn mw_1920 mw_13 mw_1917 mhX16_at ⟨(Nat.le_of_ble_eq_true rfl), (Nat.le_of_ble_eq_true rfl)⟩) hx hb hml hown hn hK hSK hZ hS mw_1919 mw_s181 (ci := 16) (q0 := 0) rfl rfl rfl rfl hl.1 (Nat.le_of_ble_eq_true rfl) dX16_next_95 ⟨(Nat.le_of_ble_eq_true rfl), (Nat.le_of_ble_eq_true rfl)⟩) hP hD hS hA rfl rfl (by decide) (by decide) (by decide) (Nat.le_of_ble_eq_true rfl) (Nat.le_of_ble_eq_true rfl) (fun r95_1 u95_2 H locs hp95_3 hP hD hS => ?_)
            obtain ⟨hp95_4, hp95_5, hp95_6⟩ := hp95_3
            have hp95_4 : rg r95_1 0 255 := hp95_4
            replace hp95_5 : FF (j5_l1.toInt < x_mm_8.toInt → r95_1.toInt = (g_utape j5_l1.toNatClampNeg).toInt) := hp95_5
            replace hp95_6 : FF (x_mm_8.toInt ≤ j5_l1.toInt → r95_1.toInt = 0) := hp95_6
            have hP : va_P D vwCl [(mm, .inr (16, m43_1)), (utape, .inl (ct 1, 2000, .inl g_utape))] _ := hP
            have hD : va_D A [(mm, .inr (16, m43_1)), (utape, .inl (ct 1, 2000, .inl g_utape))] := hD
            refine lv_istore_n (lv' := [(2, .int r95_1), (0, .ref mm), (1, .int j5_l1)]) hx hb dX16_next_98 rfl hl (by decide) rfl (fun ls hl => ?_)
            refine lv_aload_n hx hb dX16_next_99 rfl (lv_at hl 1 rfl) ?_
            refine lv_iload_n hx hb dX16_next_100 rfl (lv_at hl 2 rfl) ?_
            refine lv_iconst (v := 1) hx hb dX16_next_101 (by decide) ?_
            refine lv_iadd hx hb dX16_next_102 ?_
            refine lv_topi (fun z102_1 ez102_1 => ?_)
            have r102_2 : rg z102_1 1 2001 := rg_add ez102_1 r5_1001 (show rg (1 : Int32) 1 1 from rg_l (by decide)) (by decide)
            refine go_i (k1 := 0) (n1 := 0) (wr := []) [0, 1] [] (rn_V (As := [.int z102_1]) (rest := []) (c_X16_at_t l D ct mm z102_1 m43_1 utape x_mm_8 g_utape (rg_w r102_2 (by decide)) (hsm43_1.1.trans hlen_mm) (SB.get hsm43_1 (by decide) hf_mm_0) h_x_mm_8 (SB.get hsm43_1 (by decide) hf_mm_8) h_g_utape _) (cb_of (n := 1) hn mw_1920 mw_13 mw_1917 mhX16_at ⟨(Nat.le_of_ble_eq_true rfl), (Nat.le_of_ble_eq_true rfl)⟩) hx hb hml hown hn hK hSK hZ hS mw_1919 mw_s181 (ci := 16) (q0 := 0) rfl rfl rfl rfl hl.1 (Nat.le_of_ble_eq_true rfl) dX16_next_103 ⟨(Nat.le_of_ble_eq_true rfl), (Nat.le_of_ble_eq_true rfl)⟩) hP hD hS hA rfl rfl (by decide) (by decide) (by decide) (Nat.le_of_ble_eq_true rfl) (Nat.le_of_ble_eq_true rfl) (fun r103_1 u103_2 H locs hp103_3 hP hD hS => ?_)
            obtain ⟨hp103_4, hp103_5, hp103_6⟩ := hp103_3
            have hp103_4 : rg r103_1 0 255 := hp103_4
            replace hp103_5 : FF (z102_1.toInt < x_mm_8.toInt → r103_1.toInt = (g_utape z102_1.toNatClampNeg).toInt) := hp103_5
            replace hp103_6 : FF (x_mm_8.toInt ≤ z102_1.toInt → r103_1.toInt = 0) := hp103_6
            have hP : va_P D vwCl [(mm, .inr (16, m43_1)), (utape, .inl (ct 1, 2000, .inl g_utape))] _ := hP
            have hD : va_D A [(mm, .inr (16, m43_1)), (utape, .inl (ct 1, 2000, .inl g_utape))] := hD
            refine lv_istore_n (lv' := [(3, .int r103_1), (2, .int r95_1), (0, .ref mm), (1, .int j5_l1)]) hx hb dX16_next_106 rfl hl (by decide) rfl (fun ls hl => ?_)
            refine lv_iload_n hx hb dX16_next_107 rfl (lv_at hl 1 rfl) ?_
            refine lv_bipush (v := 60) hx hb dX16_next_108 (by decide) ?_
            have b160 : ∀ (j160_s0 : Int32) (H : Heap) (locs : List Loc) (ls : Array Slot), (rg j160_s0 0 1) → (FF (j160_s0.toInt = 1 → r103_1.toInt ≠ 0)) → lv_has ls 6 [(0, .ref mm), (1, .int j5_l1), (2, .int r95_1)] → va_P D vwCl [(mm, .inr (16, m43_1)), (utape, .inl (ct 1, 2000, .inl g_utape))] H → va_D A [(mm, .inr (16, m43_1)), (utape, .inl (ct 1, 2000, .inl g_utape))] → va_S A s.heap H locs → W p l e ({ frames := 8, cells := 1, slots := 7, locals := 162 }) s m [.ref mm].toArray below meth c H locs 0 0 Q (F0 m 160 ls [.int j160_s0]) := by
              intro j160_s0 H locs ls r160_1001 hi160_1002 hl hP hD hS
              refine lv_istore (lv' := [(4, .int j160_s0), (0, .ref mm), (1, .int j5_l1), (2, .int r95_1)]) hx hb dX16_next_160 hl (by decide) rfl (fun ls hl => ?_)
              refine lv_iload_n hx hb dX16_next_162 rfl (lv_at hl 3 rfl) ?_
              refine lv_bipush (v := 40) hx hb dX16_next_163 (by decide) ?_
              have b275 : ∀ (j275_s0 : Int32) (H : Heap) (locs : List Loc) (ls : Array Slot), (rg j275_s0 0 1) → lv_has ls 6 [(0, .ref mm), (1, .int j5_l1), (4, .int j160_s0)] → va_P D vwCl [(mm, .inr (16, m43_1)), (utape, .inl (ct 1, 2000, .inl g_utape))] H → va_D A [(mm, .inr (16, m43_1)), (utape, .inl (ct 1, 2000, .inl g_utape))] → va_S A s.heap H locs → W p l e ({ frames := 8, cells := 1, slots := 7, locals := 162 }) s m [.ref mm].toArray below meth c H locs 0 0 Q (F0 m 275 ls [.int j275_s0]) := by
                intro j275_s0 H locs ls r275_1001 hl hP hD hS
                refine lv_istore (lv' := [(5, .int j275_s0), (0, .ref mm), (1, .int j5_l1), (4, .int j160_s0)]) hx hb dX16_next_275 hl (by decide) rfl (fun ls hl => ?_)
                refine lv_aload_n hx hb dX16_next_277 rfl (lv_at hl 1 rfl) ?_
                refine lv_iload hx hb dX16_next_278 (lv_at hl 3 rfl) ?_
                have b293 : ∀ (j293_s0 : Int32) (H : Heap) (locs : List Loc) (ls : Array Slot), (rg j293_s0 0 1) → lv_has ls 6 [(0, .ref mm), (1, .int j5_l1), (4, .int j160_s0)] → va_P D vwCl [(mm, .inr (16, m43_1)), (utape, .inl (ct 1, 2000, .inl g_utape))] H → va_D A [(mm, .inr (16, m43_1)), (utape, .inl (ct 1, 2000, .inl g_utape))] → va_S A s.heap H locs → W p l e ({ frames := 8, cells := 1, slots := 7, locals := 162 }) s m [.ref mm].toArray below meth c H locs 0 0 Q (F0 m 293 ls [.int j293_s0, .ref mm]) := by
                  intro j293_s0 H locs ls r293_1001 hl hP hD hS
                  refine gt_q (pl := []) (wr := [(utape, .inl (ct 1, 2000, .inl g_utape))]) [0] [1] (rt_V (As := [.int j293_s0]) (rest := []) (c_X16_must l hst D ct mm j293_s0 m43_1 j5_l1 r293_1001 (hsm43_1.1.trans hlen_mm) r5_1001 hfm43_1_6 _) (cb_of (n := 1) hn mw_1927 mw_13 mw_1924 mhX16_must ⟨(Nat.le_of_ble_eq_true rfl), (Nat.le_of_ble_eq_true rfl)⟩) hx hb hml hown hn hK hSK hZ hS mw_1926 mw_s182 (ci := 16) (q0 := 0) rfl rfl rfl rfl hl.1 (Nat.le_of_ble_eq_true rfl) dX16_next_293 ⟨(Nat.le_of_ble_eq_true rfl), (Nat.le_of_ble_eq_true rfl)⟩) (by rw [List.append_nil]; exact hP) (by rw [List.append_nil]; exact hD) hS hA rfl rfl (by decide) (by decide) (by decide) (fun xq293_4 ux293_5 xfs293_6 H locs hpx293_7 hpexfs293_6 hP hD hS => ?_) (fun r293_1 u293_2 H locs hp293_3 hP hD hS => ?_)
                  · have hP : va_P D vwCl [(utape, .inl (ct 1, 2000, .inl g_utape)), (mm, .inr (16, m43_1)), (xq293_4, .inr (15, xfs293_6))] _ := hP
                    have hD : va_D A [(utape, .inl (ct 1, 2000, .inl g_utape)), (mm, .inr (16, m43_1)), (xq293_4, .inr (15, xfs293_6))] := hD
                    refine vx_widen (k := 1) (n := 7) (Nat.le_of_ble_eq_true rfl) (Nat.le_of_ble_eq_true rfl) ?_
                    exact xo hQ htab hlocks hK rfl hP hD hS (m43_1, j5_l1) (fs := xfs293_6) ⟨hsm43_1, r5_1001, hfm43_1_6, hfm43_1_7⟩ hpexfs293_6 [1, 0, 2] (by decide) rfl (kq := 2) rfl (Nat.le_of_ble_eq_true rfl) (Nat.le_of_ble_eq_true rfl)
                  have hp293_308 := hp293_3
                  replace hp293_308 : FF (j293_s0.toInt = 1) := hp293_308
                  rw [List.append_nil] at hP hD
                  have hP : va_P D vwCl [(utape, .inl (ct 1, 2000, .inl g_utape)), (mm, .inr (16, m43_1))] _ := hP
                  have hD : va_D A [(utape, .inl (ct 1, 2000, .inl g_utape)), (mm, .inr (16, m43_1))] := hD
                  refine W.widen (k := 0) (n := 0) (Nat.le_of_ble_eq_true rfl) (Nat.le_of_ble_eq_true rfl) (W.eq (g2 := F0 m 296 ls []) rfl ?_)
                  refine lv_aload_n hx hb dX16_next_296 rfl (lv_at hl 0 rfl) ?_
                  refine lv_iconst (v := 2) hx hb dX16_next_297 (by decide) ?_
                  refine va_put (D := D) (ci := 16) (v := .int 2) (ty := .int) (C := RX16) (T := TX16) (N := 78) hx hb (htX16 hn) (fun _ h => h) tyX16 tyX16_ok nmX16 hown hK hP hD hS 1 rfl rfl 5 (by decide) (hn.get mw_1544 rfl) (fun _ h9 => h9) rfl (by decide +kernel) rfl rfl (by rw [hsm43_1.1, hlen_mm]; decide) dX16_next_298 (fun H locs hP hD hS => ?_)
                  have hP : va_P D vwCl [(utape, .inl (ct 1, 2000, .inl g_utape)), (mm, .inr (16, (m43_1.set 5 (.int 2))))] _ := hP
                  have hD : va_D A [(utape, .inl (ct 1, 2000, .inl g_utape)), (mm, .inr (16, (m43_1.set 5 (.int 2))))] := hD
                  obtain ⟨m298_1, em298_1⟩ : ∃ z, z = (m43_1.set 5 (.int 2)) := ⟨_, rfl⟩
                  rw [← em298_1] at hP hD
                  have hsm298_1 : SB fs_mm m298_1 [5, 6, 7] := by rw [em298_1]; exact SB.set hsm43_1 (by decide)
                  have hfm298_1_7 : m298_1[7]? = some (.int x_mm_7) := by rw [em298_1]; exact fs_ne (by decide) hfm43_1_7
                  have hfm298_1_6 : m298_1[6]? = some (.int j5_l1) := by rw [em298_1]; exact fs_ne (by decide) hfm43_1_6
                  have hfm298_1_5 : m298_1[5]? = some (.int 2) := by rw [em298_1]; exact fs_eq (by rw [hsm43_1.1, hlen_mm]; decide)
                  have hP : va_P D vwCl [(utape, .inl (ct 1, 2000, .inl g_utape)), (mm, .inr (16, m298_1))] _ := hP
                  have hD : va_D A [(utape, .inl (ct 1, 2000, .inl g_utape)), (mm, .inr (16, m298_1))] := hD
                  refine lv_aload_n hx hb dX16_next_301 rfl (lv_at hl 0 rfl) ?_
                  refine lv_iload_n hx hb dX16_next_302 rfl (lv_at hl 1 rfl) ?_
                  refine lv_iload hx hb dX16_next_303 (lv_at hl 2 rfl) ?_
                  have b313 : ∀ (j313_s0 : Int32) (H : Heap) (locs : List Loc) (ls : Array Slot), (rg j313_s0 1 2) → (FF (j313_s0.toInt = 2 → j160_s0.toInt ≠ 0)) → lv_has ls 6 [] → va_P D vwCl [(utape, .inl (ct 1, 2000, .inl g_utape)), (mm, .inr (16, m298_1))] H → va_D A [(utape, .inl (ct 1, 2000, .inl g_utape)), (mm, .inr (16, m298_1))] → va_S A s.heap H locs → W p l e ({ frames := 8, cells := 1, slots := 7, locals := 162 }) s m [.ref mm].toArray below meth c H locs 0 0 Q (F0 m 313 ls [.int j313_s0, .int j5_l1, .ref mm]) := by
                    intro j313_s0 H locs ls r313_1001 hi313_1002 hl hP hD hS
                    refine lv_iadd hx hb dX16_next_313 ?_
                    refine lv_topi (fun z313_1 ez313_1 => ?_)
                    have r313_2 : rg z313_1 1 2002 := rg_add ez313_1 r5_1001 r313_1001 (by decide)
                    refine va_put (D := D) (ci := 16) (v := .int z313_1) (ty := .int) (C := RX16) (T := TX16) (N := 78) hx hb (htX16 hn) (fun _ h => h) tyX16 tyX16_ok nmX16 hown hK hP hD hS 1 rfl rfl 7 (by decide) (hn.get mw_1546 rfl) (fun _ h9 => h9) rfl (by decide +kernel) rfl rfl (by rw [hsm298_1.1, hlen_mm]; decide) dX16_next_314 (fun H locs hP hD hS => ?_)
                    have hP : va_P D vwCl [(utape, .inl (ct 1, 2000, .inl g_utape)), (mm, .inr (16, (m298_1.set 7 (.int z313_1))))] _ := hP
                    have hD : va_D A [(utape, .inl (ct 1, 2000, .inl g_utape)), (mm, .inr (16, (m298_1.set 7 (.int z313_1))))] := hD
                    obtain ⟨m314_1, em314_1⟩ : ∃ z, z = (m298_1.set 7 (.int z313_1)) := ⟨_, rfl⟩
                    rw [← em314_1] at hP hD
                    have hsm314_1 : SB fs_mm m314_1 [5, 6, 7] := by rw [em314_1]; exact SB.set hsm298_1 (by decide)
                    have hfm314_1_6 : m314_1[6]? = some (.int j5_l1) := by rw [em314_1]; exact fs_ne (by decide) hfm298_1_6
                    have hfm314_1_5 : m314_1[5]? = some (.int 2) := by rw [em314_1]; exact fs_ne (by decide) hfm298_1_5
                    have hfm314_1_7 : m314_1[7]? = some (.int z313_1) := by rw [em314_1]; exact fs_eq (by rw [hsm298_1.1, hlen_mm]; decide)
                    have hP : va_P D vwCl [(utape, .inl (ct 1, 2000, .inl g_utape)), (mm, .inr (16, m314_1))] _ := hP
                    have hD : va_D A [(utape, .inl (ct 1, 2000, .inl g_utape)), (mm, .inr (16, m314_1))] := hD
                    exact et_v (SX := List Value × Int32) (pl1 := fun _ => []) hQ hx hb hr hlocks dX16_next_317 (m314_1, (2 : Int32), j5_l1, z313_1) ⟨hsm314_1, (rg_w (show rg (2 : Int32) 2 2 from rg_l (by decide)) (by decide)), hfm314_1_5, r5_1001, hfm314_1_6, (rg_w r313_2 (by decide)), hfm314_1_7, (show z313_1.toInt ≤ x_mm_8.toInt by have q0 := (eq_add ez313_1 r5_1001 r313_1001 (by decide)); have q1 := r313_1001.2; have q2 := hp103_4.1; have q3 := (eq_add ez102_1 r5_1001 (show rg (1 : Int32) 1 1 from rg_l (by decide)) (by decide)); have q4 := r160_1001.1; have q5 := r160_1001.2; have q6 := FF.out hi41_1002; have q7 := FF.out t51_2; have q8 := FF.out hp103_6; have q9 := FF.out hi160_1002; have q10 := FF.out hi313_1002; have q11 := (show (1 : Int32).toInt = 1 from by decide); omega), (show j5_l1.toInt ≤ x_mm_8.toInt by have q0 := FF.out hi41_1002; omega), (show (2 : Int32).toInt ≠ 0 → j5_l1.toInt + 1 ≤ z313_1.toInt by have q0 := (eq_add ez313_1 r5_1001 r313_1001 (by decide)); have q1 := r313_1001.1; have q2 := (show (2 : Int32).toInt = 2 from by decide); omega), (show x_mm_7.toInt ≤ j5_l1.toInt by have q0 := FF.out hi41_1001; omega)⟩ (by rw [List.append_nil]; exact hP) (by rw [List.append_nil]; exact hD) hS [1, 0] (by decide) rfl (Nat.le_of_ble_eq_true rfl) (Nat.le_of_ble_eq_true rfl) (Nat.le_of_ble_eq_true rfl) (Nat.le_of_ble_eq_true rfl)
                  refine lv_if_eq (tgt := 312) hx hb dX16_next_305 (by decide) (fun c305_1 => ?_) (fun c305_1 => ?_)
                  · have t305_2 := FF.mk (i_eq c305_1)
                    have r305_3 : rg j160_s0 0 0 := rg_eqA t305_2 r160_1001 (show rg (0 : Int32) 0 0 from rg_l (by decide)) (by decide)
                    refine lv_iconst (v := 1) hx hb dX16_next_312 (by decide) ?_
                    exact b313 (1 : Int32) H locs ls (rg_w (show rg (1 : Int32) 1 1 from rg_l (by decide)) (by decide)) (show (1 : Int32).toInt = 2 → j160_s0.toInt ≠ 0 by have q0 := (show (1 : Int32).toInt = 1 from by decide); omega) (lv_sub hl [] rfl) hP hD hS
                  · have t305_2 := FF.mk (i_ne c305_1)
                    have r305_3 : rg j160_s0 1 1 := rg_neAl t305_2 r160_1001 (show rg (0 : Int32) 0 0 from rg_l (by decide)) (by decide)
                    refine lv_iconst (v := 2) hx hb dX16_next_308 (by decide) ?_
                    refine lv_goto (tgt := 313) hx hb dX16_next_309 (by decide) ?_
                    exact b313 (2 : Int32) H locs ls (rg_w (show rg (2 : Int32) 2 2 from rg_l (by decide)) (by decide)) (show (2 : Int32).toInt = 2 → j160_s0.toInt ≠ 0 by have q0 := r305_3.1; have q1 := (show (2 : Int32).toInt = 2 from by decide); omega) (lv_sub hl [] rfl) hP hD hS
                have b288 : ∀  (H : Heap) (locs : List Loc) (ls : Array Slot), lv_has ls 6 [(0, .ref mm), (1, .int j5_l1), (4, .int j160_s0)] → va_P D vwCl [(mm, .inr (16, m43_1)), (utape, .inl (ct 1, 2000, .inl g_utape))] H → va_D A [(mm, .inr (16, m43_1)), (utape, .inl (ct 1, 2000, .inl g_utape))] → va_S A s.heap H locs → W p l e ({ frames := 8, cells := 1, slots := 7, locals := 162 }) s m [.ref mm].toArray below meth c H locs 0 0 Q (F0 m 288 ls [.ref mm]) := by
                  intro  H locs ls  hl hP hD hS
                  refine lv_iconst (v := 1) hx hb dX16_next_288 (by decide) ?_
                  refine lv_goto (tgt := 293) hx hb dX16_next_289 (by decide) ?_
                  exact b293 (1 : Int32) H locs ls (rg_w (show rg (1 : Int32) 1 1 from rg_l (by decide)) (by decide)) (lv_sub hl [0, 1, 2] rfl) hP hD hS
                refine lv_if_ne (tgt := 288) hx hb dX16_next_280 (by decide) (fun c280_1 => ?_) (fun c280_1 => ?_)
                · have t280_2 := FF.mk (i_ne c280_1)
                  have r280_3 : rg j160_s0 1 1 := rg_neAl t280_2 r160_1001 (show rg (0 : Int32) 0 0 from rg_l (by decide)) (by decide)
                  exact b288  H locs ls  (lv_sub hl [1, 2, 3] rfl) hP hD hS
                · have t280_2 := FF.mk (i_eq c280_1)
                  have r280_3 : rg j160_s0 0 0 := rg_eqA t280_2 r160_1001 (show rg (0 : Int32) 0 0 from rg_l (by decide)) (by decide)
                  refine lv_iload hx hb dX16_next_283 (lv_at hl 0 rfl) ?_
                  refine lv_if_eq (tgt := 292) hx hb dX16_next_285 (by decide) (fun c285_1 => ?_) (fun c285_1 => ?_)
                  · have t285_2 := FF.mk (i_eq c285_1)
                    have r285_3 : rg j275_s0 0 0 := rg_eqA t285_2 r275_1001 (show rg (0 : Int32) 0 0 from rg_l (by decide)) (by decide)
                    refine lv_iconst (v := 0) hx hb dX16_next_292 (by decide) ?_
                    exact b293 (0 : Int32) H locs ls (rg_w (show rg (0 : Int32) 0 0 from rg_l (by decide)) (by decide)) (lv_sub hl [1, 2, 3] rfl) hP hD hS
                  · have t285_2 := FF.mk (i_ne c285_1)
                    have r285_3 : rg j275_s0 1 1 := rg_neAl t285_2 r275_1001 (show rg (0 : Int32) 0 0 from rg_l (by decide)) (by decide)
                    exact b288  H locs ls  (lv_sub hl [1, 2, 3] rfl) hP hD hS
              have b270 : ∀  (H : Heap) (locs : List Loc) (ls : Array Slot), lv_has ls 6 [(0, .ref mm), (1, .int j5_l1), (4, .int j160_s0)] → va_P D vwCl [(mm, .inr (16, m43_1)), (utape, .inl (ct 1, 2000, .inl g_utape))] H → va_D A [(mm, .inr (16, m43_1)), (utape, .inl (ct 1, 2000, .inl g_utape))] → va_S A s.heap H locs → W p l e ({ frames := 8, cells := 1, slots := 7, locals := 162 }) s m [.ref mm].toArray below meth c H locs 0 0 Q (F0 m 270 ls []) := by
                intro  H locs ls  hl hP hD hS
                refine lv_iconst (v := 1) hx hb dX16_next_270 (by decide) ?_
                refine lv_goto (tgt := 275) hx hb dX16_next_271 (by decide) ?_
                exact b275 (1 : Int32) H locs ls (rg_w (show rg (1 : Int32) 1 1 from rg_l (by decide)) (by decide)) (lv_sub hl [0, 1, 2] rfl) hP hD hS
              refine lv_icmp_eq (tgt := 270) hx hb dX16_next_165 (by decide) (fun c165_1 => ?_) (fun c165_1 => ?_)
              · have t165_2 := FF.mk (i_eq c165_1)
                have r165_3 : rg r95_1 40 40 := rg_eqA t165_2 hp95_4 (show rg (40 : Int32) 40 40 from rg_l (by decide)) (by decide)
                exact b270  H locs ls  (lv_sub hl [1, 2, 0] rfl) hP hD hS
              · have t165_2 := FF.mk (i_ne c165_1)
                refine lv_iload_n hx hb dX16_next_168 rfl (lv_at hl 3 rfl) ?_
                refine lv_bipush (v := 41) hx hb dX16_next_169 (by decide) ?_
                refine lv_icmp_eq (tgt := 270) hx hb dX16_next_171 (by decide) (fun c171_1 => ?_) (fun c171_1 => ?_)
                · have t171_2 := FF.mk (i_eq c171_1)
                  have r171_3 : rg r95_1 41 41 := rg_eqA t171_2 hp95_4 (show rg (41 : Int32) 41 41 from rg_l (by decide)) (by decide)
                  exact b270  H locs ls  (lv_sub hl [1, 2, 0] rfl) hP hD hS
                · have t171_2 := FF.mk (i_ne c171_1)
                  refine lv_iload_n hx hb dX16_next_174 rfl (lv_at hl 3 rfl) ?_
                  refine lv_bipush (v := 123) hx hb dX16_next_175 (by decide) ?_
                  refine lv_icmp_eq (tgt := 270) hx hb dX16_next_177 (by decide) (fun c177_1 => ?_) (fun c177_1 => ?_)
                  · have t177_2 := FF.mk (i_eq c177_1)
                    have r177_3 : rg r95_1 123 123 := rg_eqA t177_2 hp95_4 (show rg (123 : Int32) 123 123 from rg_l (by decide)) (by decide)
                    exact b270  H locs ls  (lv_sub hl [1, 2, 0] rfl) hP hD hS
                  · have t177_2 := FF.mk (i_ne c177_1)
                    refine lv_iload_n hx hb dX16_next_180 rfl (lv_at hl 3 rfl) ?_
                    refine lv_bipush (v := 125) hx hb dX16_next_181 (by decide) ?_
                    refine lv_icmp_eq (tgt := 270) hx hb dX16_next_183 (by decide) (fun c183_1 => ?_) (fun c183_1 => ?_)
                    · have t183_2 := FF.mk (i_eq c183_1)
                      have r183_3 : rg r95_1 125 125 := rg_eqA t183_2 hp95_4 (show rg (125 : Int32) 125 125 from rg_l (by decide)) (by decide)
                      exact b270  H locs ls  (lv_sub hl [1, 2, 0] rfl) hP hD hS
                    · have t183_2 := FF.mk (i_ne c183_1)
                      refine lv_iload_n hx hb dX16_next_186 rfl (lv_at hl 3 rfl) ?_
                      refine lv_bipush (v := 91) hx hb dX16_next_187 (by decide) ?_
                      refine lv_icmp_eq (tgt := 270) hx hb dX16_next_189 (by decide) (fun c189_1 => ?_) (fun c189_1 => ?_)
                      · have t189_2 := FF.mk (i_eq c189_1)
                        have r189_3 : rg r95_1 91 91 := rg_eqA t189_2 hp95_4 (show rg (91 : Int32) 91 91 from rg_l (by decide)) (by decide)
                        exact b270  H locs ls  (lv_sub hl [1, 2, 0] rfl) hP hD hS
                      · have t189_2 := FF.mk (i_ne c189_1)
                        refine lv_iload_n hx hb dX16_next_192 rfl (lv_at hl 3 rfl) ?_
                        refine lv_bipush (v := 93) hx hb dX16_next_193 (by decide) ?_
                        refine lv_icmp_eq (tgt := 270) hx hb dX16_next_195 (by decide) (fun c195_1 => ?_) (fun c195_1 => ?_)
                        · have t195_2 := FF.mk (i_eq c195_1)
                          have r195_3 : rg r95_1 93 93 := rg_eqA t195_2 hp95_4 (show rg (93 : Int32) 93 93 from rg_l (by decide)) (by decide)
                          exact b270  H locs ls  (lv_sub hl [1, 2, 0] rfl) hP hD hS
                        · have t195_2 := FF.mk (i_ne c195_1)
                          refine lv_iload_n hx hb dX16_next_198 rfl (lv_at hl 3 rfl) ?_
                          refine lv_bipush (v := 58) hx hb dX16_next_199 (by decide) ?_
                          refine lv_icmp_eq (tgt := 270) hx hb dX16_next_201 (by decide) (fun c201_1 => ?_) (fun c201_1 => ?_)
                          · have t201_2 := FF.mk (i_eq c201_1)
                            have r201_3 : rg r95_1 58 58 := rg_eqA t201_2 hp95_4 (show rg (58 : Int32) 58 58 from rg_l (by decide)) (by decide)
                            exact b270  H locs ls  (lv_sub hl [1, 2, 0] rfl) hP hD hS
                          · have t201_2 := FF.mk (i_ne c201_1)
                            refine lv_iload_n hx hb dX16_next_204 rfl (lv_at hl 3 rfl) ?_
                            refine lv_bipush (v := 47) hx hb dX16_next_205 (by decide) ?_
                            refine lv_icmp_eq (tgt := 270) hx hb dX16_next_207 (by decide) (fun c207_1 => ?_) (fun c207_1 => ?_)
                            · have t207_2 := FF.mk (i_eq c207_1)
                              have r207_3 : rg r95_1 47 47 := rg_eqA t207_2 hp95_4 (show rg (47 : Int32) 47 47 from rg_l (by decide)) (by decide)
                              exact b270  H locs ls  (lv_sub hl [1, 2, 0] rfl) hP hD hS
                            · have t207_2 := FF.mk (i_ne c207_1)
                              refine lv_iload_n hx hb dX16_next_210 rfl (lv_at hl 3 rfl) ?_
                              refine lv_bipush (v := 45) hx hb dX16_next_211 (by decide) ?_
                              refine lv_icmp_eq (tgt := 270) hx hb dX16_next_213 (by decide) (fun c213_1 => ?_) (fun c213_1 => ?_)
                              · have t213_2 := FF.mk (i_eq c213_1)
                                have r213_3 : rg r95_1 45 45 := rg_eqA t213_2 hp95_4 (show rg (45 : Int32) 45 45 from rg_l (by decide)) (by decide)
                                exact b270  H locs ls  (lv_sub hl [1, 2, 0] rfl) hP hD hS
                              · have t213_2 := FF.mk (i_ne c213_1)
                                refine lv_iload_n hx hb dX16_next_216 rfl (lv_at hl 3 rfl) ?_
                                refine lv_bipush (v := 43) hx hb dX16_next_217 (by decide) ?_
                                refine lv_icmp_eq (tgt := 270) hx hb dX16_next_219 (by decide) (fun c219_1 => ?_) (fun c219_1 => ?_)
                                · have t219_2 := FF.mk (i_eq c219_1)
                                  have r219_3 : rg r95_1 43 43 := rg_eqA t219_2 hp95_4 (show rg (43 : Int32) 43 43 from rg_l (by decide)) (by decide)
                                  exact b270  H locs ls  (lv_sub hl [1, 2, 0] rfl) hP hD hS
                                · have t219_2 := FF.mk (i_ne c219_1)
                                  refine lv_iload_n hx hb dX16_next_222 rfl (lv_at hl 3 rfl) ?_
                                  refine lv_bipush (v := 42) hx hb dX16_next_223 (by decide) ?_
                                  refine lv_icmp_eq (tgt := 270) hx hb dX16_next_225 (by decide) (fun c225_1 => ?_) (fun c225_1 => ?_)
                                  · have t225_2 := FF.mk (i_eq c225_1)
                                    have r225_3 : rg r95_1 42 42 := rg_eqA t225_2 hp95_4 (show rg (42 : Int32) 42 42 from rg_l (by decide)) (by decide)
                                    exact b270  H locs ls  (lv_sub hl [1, 2, 0] rfl) hP hD hS
                                  · have t225_2 := FF.mk (i_ne c225_1)
                                    refine lv_iload_n hx hb dX16_next_228 rfl (lv_at hl 3 rfl) ?_
                                    refine lv_bipush (v := 37) hx hb dX16_next_229 (by decide) ?_
                                    refine lv_icmp_eq (tgt := 270) hx hb dX16_next_231 (by decide) (fun c231_1 => ?_) (fun c231_1 => ?_)
                                    · have t231_2 := FF.mk (i_eq c231_1)
                                      have r231_3 : rg r95_1 37 37 := rg_eqA t231_2 hp95_4 (show rg (37 : Int32) 37 37 from rg_l (by decide)) (by decide)
                                      exact b270  H locs ls  (lv_sub hl [1, 2, 0] rfl) hP hD hS
                                    · have t231_2 := FF.mk (i_ne c231_1)
                                      refine lv_iload_n hx hb dX16_next_234 rfl (lv_at hl 3 rfl) ?_
                                      refine lv_bipush (v := 38) hx hb dX16_next_235 (by decide) ?_
                                      refine lv_icmp_eq (tgt := 270) hx hb dX16_next_237 (by decide) (fun c237_1 => ?_) (fun c237_1 => ?_)
                                      · have t237_2 := FF.mk (i_eq c237_1)
                                        have r237_3 : rg r95_1 38 38 := rg_eqA t237_2 hp95_4 (show rg (38 : Int32) 38 38 from rg_l (by decide)) (by decide)
                                        exact b270  H locs ls  (lv_sub hl [1, 2, 0] rfl) hP hD hS
                                      · have t237_2 := FF.mk (i_ne c237_1)
                                        refine lv_iload_n hx hb dX16_next_240 rfl (lv_at hl 3 rfl) ?_
                                        refine lv_bipush (v := 124) hx hb dX16_next_241 (by decide) ?_
                                        refine lv_icmp_eq (tgt := 270) hx hb dX16_next_243 (by decide) (fun c243_1 => ?_) (fun c243_1 => ?_)
                                        · have t243_2 := FF.mk (i_eq c243_1)
                                          have r243_3 : rg r95_1 124 124 := rg_eqA t243_2 hp95_4 (show rg (124 : Int32) 124 124 from rg_l (by decide)) (by decide)
                                          exact b270  H locs ls  (lv_sub hl [1, 2, 0] rfl) hP hD hS
                                        · have t243_2 := FF.mk (i_ne c243_1)
                                          refine lv_iload_n hx hb dX16_next_246 rfl (lv_at hl 3 rfl) ?_
                                          refine lv_bipush (v := 94) hx hb dX16_next_247 (by decide) ?_
                                          refine lv_icmp_eq (tgt := 270) hx hb dX16_next_249 (by decide) (fun c249_1 => ?_) (fun c249_1 => ?_)
                                          · have t249_2 := FF.mk (i_eq c249_1)
                                            have r249_3 : rg r95_1 94 94 := rg_eqA t249_2 hp95_4 (show rg (94 : Int32) 94 94 from rg_l (by decide)) (by decide)
                                            exact b270  H locs ls  (lv_sub hl [1, 2, 0] rfl) hP hD hS
                                          · have t249_2 := FF.mk (i_ne c249_1)
                                            refine lv_iload_n hx hb dX16_next_252 rfl (lv_at hl 3 rfl) ?_
                                            refine lv_bipush (v := 61) hx hb dX16_next_253 (by decide) ?_
                                            refine lv_icmp_eq (tgt := 270) hx hb dX16_next_255 (by decide) (fun c255_1 => ?_) (fun c255_1 => ?_)
                                            · have t255_2 := FF.mk (i_eq c255_1)
                                              have r255_3 : rg r95_1 61 61 := rg_eqA t255_2 hp95_4 (show rg (61 : Int32) 61 61 from rg_l (by decide)) (by decide)
                                              exact b270  H locs ls  (lv_sub hl [1, 2, 0] rfl) hP hD hS
                                            · have t255_2 := FF.mk (i_ne c255_1)
                                              refine lv_iload_n hx hb dX16_next_258 rfl (lv_at hl 3 rfl) ?_
                                              refine lv_bipush (v := 60) hx hb dX16_next_259 (by decide) ?_
                                              refine lv_icmp_eq (tgt := 270) hx hb dX16_next_261 (by decide) (fun c261_1 => ?_) (fun c261_1 => ?_)
                                              · have t261_2 := FF.mk (i_eq c261_1)
                                                have r261_3 : rg r95_1 60 60 := rg_eqA t261_2 hp95_4 (show rg (60 : Int32) 60 60 from rg_l (by decide)) (by decide)
                                                exact b270  H locs ls  (lv_sub hl [1, 2, 0] rfl) hP hD hS
                                              · have t261_2 := FF.mk (i_ne c261_1)
                                                refine lv_iload_n hx hb dX16_next_264 rfl (lv_at hl 3 rfl) ?_
                                                refine lv_bipush (v := 62) hx hb dX16_next_265 (by decide) ?_
                                                refine lv_icmp_ne (tgt := 274) hx hb dX16_next_267 (by decide) (fun c267_1 => ?_) (fun c267_1 => ?_)
                                                · have t267_2 := FF.mk (i_ne c267_1)
                                                  refine lv_iconst (v := 0) hx hb dX16_next_274 (by decide) ?_
                                                  exact b275 (0 : Int32) H locs ls (rg_w (show rg (0 : Int32) 0 0 from rg_l (by decide)) (by decide)) (lv_sub hl [1, 2, 0] rfl) hP hD hS
                                                · have t267_2 := FF.mk (i_eq c267_1)
                                                  have r267_3 : rg r95_1 62 62 := rg_eqA t267_2 hp95_4 (show rg (62 : Int32) 62 62 from rg_l (by decide)) (by decide)
                                                  exact b270  H locs ls  (lv_sub hl [1, 2, 0] rfl) hP hD hS
            have b155 : ∀  (H : Heap) (locs : List Loc) (ls : Array Slot), (FF (r103_1.toInt ≠ 0)) → lv_has ls 6 [(0, .ref mm), (1, .int j5_l1), (2, .int r95_1)] → va_P D vwCl [(mm, .inr (16, m43_1)), (utape, .inl (ct 1, 2000, .inl g_utape))] H → va_D A [(mm, .inr (16, m43_1)), (utape, .inl (ct 1, 2000, .inl g_utape))] → va_S A s.heap H locs → W p l e ({ frames := 8, cells := 1, slots := 7, locals := 162 }) s m [.ref mm].toArray below meth c H locs 0 0 Q (F0 m 155 ls []) := by
              intro  H locs ls hi155_1001 hl hP hD hS
              refine lv_iconst (v := 1) hx hb dX16_next_155 (by decide) ?_
              refine lv_goto (tgt := 160) hx hb dX16_next_156 (by decide) ?_
              exact b160 (1 : Int32) H locs ls (rg_w (show rg (1 : Int32) 1 1 from rg_l (by decide)) (by decide)) (show (1 : Int32).toInt = 1 → r103_1.toInt ≠ 0 by have q0 := FF.out hi155_1001; have q1 := (show (1 : Int32).toInt = 1 from by decide); omega) (lv_sub hl [0, 1, 2] rfl) hP hD hS
            have b125 : ∀  (H : Heap) (locs : List Loc) (ls : Array Slot), lv_has ls 6 [(0, .ref mm), (1, .int j5_l1), (2, .int r95_1), (3, .int r103_1)] → va_P D vwCl [(mm, .inr (16, m43_1)), (utape, .inl (ct 1, 2000, .inl g_utape))] H → va_D A [(mm, .inr (16, m43_1)), (utape, .inl (ct 1, 2000, .inl g_utape))] → va_S A s.heap H locs → W p l e ({ frames := 8, cells := 1, slots := 7, locals := 162 }) s m [.ref mm].toArray below meth c H locs 0 0 Q (F0 m 125 ls []) := by
              intro  H locs ls  hl hP hD hS
              refine lv_iload_n hx hb dX16_next_125 rfl (lv_at hl 2 rfl) ?_
              refine lv_bipush (v := 62) hx hb dX16_next_126 (by decide) ?_
              have b143 : ∀  (H : Heap) (locs : List Loc) (ls : Array Slot), lv_has ls 6 [(0, .ref mm), (1, .int j5_l1), (2, .int r95_1), (3, .int r103_1)] → va_P D vwCl [(mm, .inr (16, m43_1)), (utape, .inl (ct 1, 2000, .inl g_utape))] H → va_D A [(mm, .inr (16, m43_1)), (utape, .inl (ct 1, 2000, .inl g_utape))] → va_S A s.heap H locs → W p l e ({ frames := 8, cells := 1, slots := 7, locals := 162 }) s m [.ref mm].toArray below meth c H locs 0 0 Q (F0 m 143 ls []) := by
                intro  H locs ls  hl hP hD hS
                refine lv_iload_n hx hb dX16_next_143 rfl (lv_at hl 2 rfl) ?_
                refine lv_bipush (v := 33) hx hb dX16_next_144 (by decide) ?_
                have b159 : ∀  (H : Heap) (locs : List Loc) (ls : Array Slot), lv_has ls 6 [(0, .ref mm), (1, .int j5_l1), (2, .int r95_1)] → va_P D vwCl [(mm, .inr (16, m43_1)), (utape, .inl (ct 1, 2000, .inl g_utape))] H → va_D A [(mm, .inr (16, m43_1)), (utape, .inl (ct 1, 2000, .inl g_utape))] → va_S A s.heap H locs → W p l e ({ frames := 8, cells := 1, slots := 7, locals := 162 }) s m [.ref mm].toArray below meth c H locs 0 0 Q (F0 m 159 ls []) := by
                  intro  H locs ls  hl hP hD hS
                  refine lv_iconst (v := 0) hx hb dX16_next_159 (by decide) ?_
                  exact b160 (0 : Int32) H locs ls (rg_w (show rg (0 : Int32) 0 0 from rg_l (by decide)) (by decide)) (show (0 : Int32).toInt = 1 → r103_1.toInt ≠ 0 by have q0 := (show (0 : Int32).toInt = 0 from by decide); omega) (lv_sub hl [0, 1, 2] rfl) hP hD hS
                refine lv_icmp_ne (tgt := 159) hx hb dX16_next_146 (by decide) (fun c146_1 => ?_) (fun c146_1 => ?_)
                · have t146_2 := FF.mk (i_ne c146_1)
                  exact b159  H locs ls  (lv_sub hl [0, 1, 2] rfl) hP hD hS
                · have t146_2 := FF.mk (i_eq c146_1)
                  have r146_3 : rg r95_1 33 33 := rg_eqA t146_2 hp95_4 (show rg (33 : Int32) 33 33 from rg_l (by decide)) (by decide)
                  refine lv_iload_n hx hb dX16_next_149 rfl (lv_at hl 3 rfl) ?_
                  refine lv_bipush (v := 61) hx hb dX16_next_150 (by decide) ?_
                  refine lv_icmp_ne (tgt := 159) hx hb dX16_next_152 (by decide) (fun c152_1 => ?_) (fun c152_1 => ?_)
                  · have t152_2 := FF.mk (i_ne c152_1)
                    exact b159  H locs ls  (lv_sub hl [0, 1, 2] rfl) hP hD hS
                  · have t152_2 := FF.mk (i_eq c152_1)
                    have r152_3 : rg r103_1 61 61 := rg_eqA t152_2 hp103_4 (show rg (61 : Int32) 61 61 from rg_l (by decide)) (by decide)
                    exact b155  H locs ls (show r103_1.toInt ≠ 0 by have q0 := r152_3.1; omega) (lv_sub hl [0, 1, 2] rfl) hP hD hS
              refine lv_icmp_ne (tgt := 143) hx hb dX16_next_128 (by decide) (fun c128_1 => ?_) (fun c128_1 => ?_)
              · have t128_2 := FF.mk (i_ne c128_1)
                exact b143  H locs ls  (lv_sub hl [0, 1, 2, 3] rfl) hP hD hS
              · have t128_2 := FF.mk (i_eq c128_1)
                have r128_3 : rg r95_1 62 62 := rg_eqA t128_2 hp95_4 (show rg (62 : Int32) 62 62 from rg_l (by decide)) (by decide)
                refine lv_iload_n hx hb dX16_next_131 rfl (lv_at hl 3 rfl) ?_
                refine lv_bipush (v := 62) hx hb dX16_next_132 (by decide) ?_
                refine lv_icmp_eq (tgt := 155) hx hb dX16_next_134 (by decide) (fun c134_1 => ?_) (fun c134_1 => ?_)
                · have t134_2 := FF.mk (i_eq c134_1)
                  have r134_3 : rg r103_1 62 62 := rg_eqA t134_2 hp103_4 (show rg (62 : Int32) 62 62 from rg_l (by decide)) (by decide)
                  exact b155  H locs ls (show r103_1.toInt ≠ 0 by have q0 := r134_3.1; omega) (lv_sub hl [0, 1, 2] rfl) hP hD hS
                · have t134_2 := FF.mk (i_ne c134_1)
                  refine lv_iload_n hx hb dX16_next_137 rfl (lv_at hl 3 rfl) ?_
                  refine lv_bipush (v := 61) hx hb dX16_next_138 (by decide) ?_
                  refine lv_icmp_eq (tgt := 155) hx hb dX16_next_140 (by decide) (fun c140_1 => ?_) (fun c140_1 => ?_)
                  · have t140_2 := FF.mk (i_eq c140_1)
                    have r140_3 : rg r103_1 61 61 := rg_eqA t140_2 hp103_4 (show rg (61 : Int32) 61 61 from rg_l (by decide)) (by decide)
                    exact b155  H locs ls (show r103_1.toInt ≠ 0 by have q0 := r140_3.1; omega) (lv_sub hl [0, 1, 2] rfl) hP hD hS
                  · have t140_2 := FF.mk (i_ne c140_1)
                    exact b143  H locs ls  (lv_sub hl [0, 1, 2, 3] rfl) hP hD hS
            refine lv_icmp_ne (tgt := 125) hx hb dX16_next_110 (by decide) (fun c110_1 => ?_) (fun c110_1 => ?_)
            · have t110_2 := FF.mk (i_ne c110_1)
              exact b125  H locs ls  (lv_sub hl [2, 3, 1, 0] rfl) hP hD hS
            · have t110_2 := FF.mk (i_eq c110_1)
              have r110_3 : rg r95_1 60 60 := rg_eqA t110_2 hp95_4 (show rg (60 : Int32) 60 60 from rg_l (by decide)) (by decide)
              refine lv_iload_n hx hb dX16_next_113 rfl (lv_at hl 0 rfl) ?_
              refine lv_bipush (v := 60) hx hb dX16_next_114 (by decide) ?_
              refine lv_icmp_eq (tgt := 155) hx hb dX16_next_116 (by decide) (fun c116_1 => ?_) (fun c116_1 => ?_)
              · have t116_2 := FF.mk (i_eq c116_1)
                have r116_3 : rg r103_1 60 60 := rg_eqA t116_2 hp103_4 (show rg (60 : Int32) 60 60 from rg_l (by decide)) (by decide)
                exact b155  H locs ls (show r103_1.toInt ≠ 0 by have q0 := r116_3.1; omega) (lv_sub hl [2, 3, 1] rfl) hP hD hS
              · have t116_2 := FF.mk (i_ne c116_1)
                refine lv_iload_n hx hb dX16_next_119 rfl (lv_at hl 0 rfl) ?_
                refine lv_bipush (v := 61) hx hb dX16_next_120 (by decide) ?_
                refine lv_icmp_eq (tgt := 155) hx hb dX16_next_122 (by decide) (fun c122_1 => ?_) (fun c122_1 => ?_)
                · have t122_2 := FF.mk (i_eq c122_1)
                  have r122_3 : rg r103_1 61 61 := rg_eqA t122_2 hp103_4 (show rg (61 : Int32) 61 61 from rg_l (by decide)) (by decide)
                  exact b155  H locs ls (show r103_1.toInt ≠ 0 by have q0 := r122_3.1; omega) (lv_sub hl [2, 3, 1] rfl) hP hD hS
                · have t122_2 := FF.mk (i_ne c122_1)
                  exact b125  H locs ls  (lv_sub hl [2, 3, 1, 0] rfl) hP hD hS
          · have t65_2 := FF.mk (i_ne c65_1)
            have r65_3 : rg r62_1 1 1 := rg_neAl t65_2 hp62_4 (show rg (0 : Int32) 0 0 from rg_l (by decide)) (by decide)
            have b68 : ∀ (n68 : Nat) (j68_l1 : Int32) (H : Heap) (locs : List Loc) (ls : Array Slot), (rg j68_l1 0 2000) → (FF (j5_l1.toInt ≤ j68_l1.toInt)) → (FF (j68_l1.toInt ≤ x_mm_8.toInt)) → (x_mm_8.toInt - j68_l1.toInt).toNat < n68 → lv_has ls 6 [(0, .ref mm), (1, .int j68_l1)] → va_P D vwCl [(mm, .inr (16, m43_1)), (utape, .inl (ct 1, 2000, .inl g_utape))] H → va_D A [(mm, .inr (16, m43_1)), (utape, .inl (ct 1, 2000, .inl g_utape))] → va_S A s.heap H locs → W p l e ({ frames := 8, cells := 1, slots := 7, locals := 162 }) s m [.ref mm].toArray below meth c H locs 0 0 Q (F0 m 68 ls []) := by
              intro n68
              induction n68 with
              | zero => intros; rename_i hms _ _ _ _; exact absurd hms (Nat.not_lt_zero _)
              | succ n68 ih68 =>
                intro j68_l1 H locs ls r68_1001 hi68_1002 hi68_1003 hms68 hl hP hD hS
                refine lv_aload_n hx hb dX16_next_68 rfl (lv_at hl 0 rfl) ?_
                refine lv_iload_n hx hb dX16_next_69 rfl (lv_at hl 1 rfl) ?_
                refine go_i (k1 := 0) (n1 := 0) (wr := []) [0, 1] [] (rn_V (As := [.int j68_l1]) (rest := []) (c_X16_isOfWord l D ct mm j68_l1 m43_1 utape x_mm_8 g_utape (rg_w r68_1001 (by decide)) (hsm43_1.1.trans hlen_mm) (SB.get hsm43_1 (by decide) hf_mm_0) h_x_mm_8 (SB.get hsm43_1 (by decide) hf_mm_8) h_g_utape _) (cb_of (n := 1) hn mw_1916 mw_13 mw_1913 mhX16_isOfWord ⟨(Nat.le_of_ble_eq_true rfl), (Nat.le_of_ble_eq_true rfl)⟩) hx hb hml hown hn hK hSK hZ hS mw_1915 mw_s180 (ci := 16) (q0 := 0) rfl rfl rfl rfl hl.1 (Nat.le_of_ble_eq_true rfl) dX16_next_70 ⟨(Nat.le_of_ble_eq_true rfl), (Nat.le_of_ble_eq_true rfl)⟩) hP hD hS hA rfl rfl (by decide) (by decide) (by decide) (Nat.le_of_ble_eq_true rfl) (Nat.le_of_ble_eq_true rfl) (fun r70_1 u70_2 H locs hp70_3 hP hD hS => ?_)
                obtain ⟨hp70_4, hp70_5, hp70_6⟩ := hp70_3
                have hp70_4 : rg r70_1 0 1 := hp70_4
                replace hp70_5 : FF (r70_1.toInt = 1 → j68_l1.toInt < x_mm_8.toInt ∧ ((97 ≤ (g_utape j68_l1.toNatClampNeg).toInt ∧ (g_utape j68_l1.toNatClampNeg).toInt ≤ 122) ∨ (48 ≤ (g_utape j68_l1.toNatClampNeg).toInt ∧ (g_utape j68_l1.toNatClampNeg).toInt ≤ 57) ∨ (g_utape j68_l1.toNatClampNeg).toInt = 46)) := hp70_5
                replace hp70_6 : FF (r70_1.toInt = 0 → x_mm_8.toInt ≤ j68_l1.toInt ∨ ¬ ((97 ≤ (g_utape j68_l1.toNatClampNeg).toInt ∧ (g_utape j68_l1.toNatClampNeg).toInt ≤ 122) ∨ (48 ≤ (g_utape j68_l1.toNatClampNeg).toInt ∧ (g_utape j68_l1.toNatClampNeg).toInt ≤ 57) ∨ (g_utape j68_l1.toNatClampNeg).toInt = 46)) := hp70_6
                have hP : va_P D vwCl [(mm, .inr (16, m43_1)), (utape, .inl (ct 1, 2000, .inl g_utape))] _ := hP
                have hD : va_D A [(mm, .inr (16, m43_1)), (utape, .inl (ct 1, 2000, .inl g_utape))] := hD
                refine lv_if_eq (tgt := 82) hx hb dX16_next_73 (by decide) (fun c73_1 => ?_) (fun c73_1 => ?_)
                · have t73_2 := FF.mk (i_eq c73_1)
                  have r73_3 : rg r70_1 0 0 := rg_eqA t73_2 hp70_4 (show rg (0 : Int32) 0 0 from rg_l (by decide)) (by decide)
                  have hk82_1 : FF (j68_l1.toInt = j5_l1.toInt → (g_utape j68_l1.toNatClampNeg).toInt = (g_utape j5_l1.toNatClampNeg).toInt) := (fun h9 => by rw [Int32.toInt_inj.mp h9])
                  refine lv_aload_n hx hb dX16_next_82 rfl (lv_at hl 0 rfl) ?_
                  refine lv_iconst (v := 1) hx hb dX16_next_83 (by decide) ?_
                  refine va_put (D := D) (ci := 16) (v := .int 1) (ty := .int) (C := RX16) (T := TX16) (N := 78) hx hb (htX16 hn) (fun _ h => h) tyX16 tyX16_ok nmX16 hown hK hP hD hS 0 rfl rfl 5 (by decide) (hn.get mw_1544 rfl) (fun _ h9 => h9) rfl (by decide +kernel) rfl rfl (by rw [hsm43_1.1, hlen_mm]; decide) dX16_next_84 (fun H locs hP hD hS => ?_)
                  have hP : va_P D vwCl [(mm, .inr (16, (m43_1.set 5 (.int 1)))), (utape, .inl (ct 1, 2000, .inl g_utape))] _ := hP
                  have hD : va_D A [(mm, .inr (16, (m43_1.set 5 (.int 1)))), (utape, .inl (ct 1, 2000, .inl g_utape))] := hD
                  obtain ⟨m84_1, em84_1⟩ : ∃ z, z = (m43_1.set 5 (.int 1)) := ⟨_, rfl⟩
                  rw [← em84_1] at hP hD
                  have hsm84_1 : SB fs_mm m84_1 [5, 6, 7] := by rw [em84_1]; exact SB.set hsm43_1 (by decide)
                  have hfm84_1_7 : m84_1[7]? = some (.int x_mm_7) := by rw [em84_1]; exact fs_ne (by decide) hfm43_1_7
                  have hfm84_1_6 : m84_1[6]? = some (.int j5_l1) := by rw [em84_1]; exact fs_ne (by decide) hfm43_1_6
                  have hfm84_1_5 : m84_1[5]? = some (.int 1) := by rw [em84_1]; exact fs_eq (by rw [hsm43_1.1, hlen_mm]; decide)
                  have hP : va_P D vwCl [(mm, .inr (16, m84_1)), (utape, .inl (ct 1, 2000, .inl g_utape))] _ := hP
                  have hD : va_D A [(mm, .inr (16, m84_1)), (utape, .inl (ct 1, 2000, .inl g_utape))] := hD
                  refine lv_aload_n hx hb dX16_next_87 rfl (lv_at hl 0 rfl) ?_
                  refine lv_iload_n hx hb dX16_next_88 rfl (lv_at hl 1 rfl) ?_
                  refine va_put (D := D) (ci := 16) (v := .int j68_l1) (ty := .int) (C := RX16) (T := TX16) (N := 78) hx hb (htX16 hn) (fun _ h => h) tyX16 tyX16_ok nmX16 hown hK hP hD hS 0 rfl rfl 7 (by decide) (hn.get mw_1546 rfl) (fun _ h9 => h9) rfl (by decide +kernel) rfl rfl (by rw [hsm84_1.1, hlen_mm]; decide) dX16_next_89 (fun H locs hP hD hS => ?_)
                  have hP : va_P D vwCl [(mm, .inr (16, (m84_1.set 7 (.int j68_l1)))), (utape, .inl (ct 1, 2000, .inl g_utape))] _ := hP
                  have hD : va_D A [(mm, .inr (16, (m84_1.set 7 (.int j68_l1)))), (utape, .inl (ct 1, 2000, .inl g_utape))] := hD
                  obtain ⟨m89_1, em89_1⟩ : ∃ z, z = (m84_1.set 7 (.int j68_l1)) := ⟨_, rfl⟩
                  rw [← em89_1] at hP hD
                  have hsm89_1 : SB fs_mm m89_1 [5, 6, 7] := by rw [em89_1]; exact SB.set hsm84_1 (by decide)
                  have hfm89_1_6 : m89_1[6]? = some (.int j5_l1) := by rw [em89_1]; exact fs_ne (by decide) hfm84_1_6
                  have hfm89_1_5 : m89_1[5]? = some (.int 1) := by rw [em89_1]; exact fs_ne (by decide) hfm84_1_5
                  have hfm89_1_7 : m89_1[7]? = some (.int j68_l1) := by rw [em89_1]; exact fs_eq (by rw [hsm84_1.1, hlen_mm]; decide)
                  have hP : va_P D vwCl [(mm, .inr (16, m89_1)), (utape, .inl (ct 1, 2000, .inl g_utape))] _ := hP
                  have hD : va_D A [(mm, .inr (16, m89_1)), (utape, .inl (ct 1, 2000, .inl g_utape))] := hD
                  exact et_v (SX := List Value × Int32) (pl1 := fun _ => []) hQ hx hb hr hlocks dX16_next_92 (m89_1, (1 : Int32), j5_l1, j68_l1) ⟨hsm89_1, (rg_w (show rg (1 : Int32) 1 1 from rg_l (by decide)) (by decide)), hfm89_1_5, r5_1001, hfm89_1_6, (rg_w r68_1001 (by decide)), hfm89_1_7, (show j68_l1.toInt ≤ x_mm_8.toInt by have q0 := FF.out hi68_1003; omega), (show j5_l1.toInt ≤ x_mm_8.toInt by have q0 := FF.out hi68_1002; have q1 := FF.out hi68_1003; omega), (show (1 : Int32).toInt ≠ 0 → j5_l1.toInt + 1 ≤ j68_l1.toInt by have q0 := r65_3.1; have q1 := r65_3.2; have q2 := FF.out hp62_5; have q3 := FF.out hi68_1002; have q4 := FF.out hp70_6; have q5 := FF.out t73_2; have q6 := FF.out hk82_1; have q7 := (show (0 : Int32).toInt = 0 from by decide); have q8 := (show (1 : Int32).toInt = 1 from by decide); omega), (show x_mm_7.toInt ≤ j5_l1.toInt by have q0 := FF.out hi41_1001; omega)⟩ (by rw [List.append_nil]; exact hP) (by rw [List.append_nil]; exact hD) hS [0, 1] (by decide) rfl (Nat.le_of_ble_eq_true rfl) (Nat.le_of_ble_eq_true rfl) (Nat.le_of_ble_eq_true rfl) (Nat.le_of_ble_eq_true rfl)
                · have t73_2 := FF.mk (i_ne c73_1)
                  have r73_3 : rg r70_1 1 1 := rg_neAl t73_2 hp70_4 (show rg (0 : Int32) 0 0 from rg_l (by decide)) (by decide)
                  obtain ⟨x76_1, ex76_1⟩ : ∃ z : Int32, z = j68_l1 + 1 := ⟨_, rfl⟩
                  have r76_2 : rg x76_1 1 2001 := rg_add ex76_1 r68_1001 (show rg (1 : Int32) 1 1 from rg_l (by decide)) (by decide)
                  refine lv_iinc (v := x76_1) (lv' := [(1, .int x76_1), (0, .ref mm)]) hx hb dX16_next_76 hl (k := 1) rfl (by rw [ex76_1]; rfl) (by decide) rfl (fun ls hl => ?_)
                  refine lv_goto (tgt := 68) hx hb dX16_next_79 (by decide) ?_
                  exact ih68 x76_1 H locs ls (rg_of (show 0 ≤ x76_1.toInt ∧ x76_1.toInt ≤ 2000 by have q0 := (eq_add ex76_1 r68_1001 (show rg (1 : Int32) 1 1 from rg_l (by decide)) (by decide)); have q1 := h_x_mm_8.2; have q2 := r73_3.1; have q3 := r73_3.2; have q4 := h_x_mm_7.1; have q5 := FF.out hi41_1001; have q6 := FF.out hi68_1002; have q7 := FF.out hp70_5; have q8 := (show (1 : Int32).toInt = 1 from by decide); omega)) (show j5_l1.toInt ≤ x76_1.toInt by have q0 := (eq_add ex76_1 r68_1001 (show rg (1 : Int32) 1 1 from rg_l (by decide)) (by decide)); have q1 := FF.out hi68_1002; have q2 := (show (1 : Int32).toInt = 1 from by decide); omega) (show x76_1.toInt ≤ x_mm_8.toInt by have q0 := (eq_add ex76_1 r68_1001 (show rg (1 : Int32) 1 1 from rg_l (by decide)) (by decide)); have q1 := r73_3.1; have q2 := r73_3.2; have q3 := FF.out hp70_5; have q4 := (show (1 : Int32).toInt = 1 from by decide); omega) (show (x_mm_8.toInt - x76_1.toInt).toNat < n68 by have q0 := (eq_add ex76_1 r68_1001 (show rg (1 : Int32) 1 1 from rg_l (by decide)) (by decide)); have q1 := r73_3.1; have q2 := r73_3.2; have q3 := FF.out hp70_5; have q4 := (show (1 : Int32).toInt = 1 from by decide); have q5 := hms68; omega) (lv_sub hl [1, 0] rfl) hP hD hS
            exact b68 _ j5_l1 H locs ls r5_1001 (show j5_l1.toInt ≤ j5_l1.toInt by omega) (show j5_l1.toInt ≤ x_mm_8.toInt by have q0 := FF.out hi41_1002; omega) (Nat.lt_succ_self _) (lv_sub hl [0, 1] rfl) hP hD hS
        · have t51_2 := FF.mk (i_eq c51_1)
          refine lv_aload_n hx hb dX16_next_54 rfl (lv_at hl 0 rfl) ?_
          refine lv_iconst (v := 0) hx hb dX16_next_55 (by decide) ?_
          refine va_put (D := D) (ci := 16) (v := .int 0) (ty := .int) (C := RX16) (T := TX16) (N := 78) hx hb (htX16 hn) (fun _ h => h) tyX16 tyX16_ok nmX16 hown hK hP hD hS 0 rfl rfl 5 (by decide) (hn.get mw_1544 rfl) (fun _ h9 => h9) rfl (by decide +kernel) rfl rfl (by rw [hsm43_1.1, hlen_mm]; decide) dX16_next_56 (fun H locs hP hD hS => ?_)
          have hP : va_P D vwCl [(mm, .inr (16, (m43_1.set 5 (.int 0)))), (utape, .inl (ct 1, 2000, .inl g_utape))] _ := hP
          have hD : va_D A [(mm, .inr (16, (m43_1.set 5 (.int 0)))), (utape, .inl (ct 1, 2000, .inl g_utape))] := hD
          obtain ⟨m56_1, em56_1⟩ : ∃ z, z = (m43_1.set 5 (.int 0)) := ⟨_, rfl⟩
          rw [← em56_1] at hP hD
          have hsm56_1 : SB fs_mm m56_1 [5, 6, 7] := by rw [em56_1]; exact SB.set hsm43_1 (by decide)
          have hfm56_1_7 : m56_1[7]? = some (.int x_mm_7) := by rw [em56_1]; exact fs_ne (by decide) hfm43_1_7
          have hfm56_1_6 : m56_1[6]? = some (.int j5_l1) := by rw [em56_1]; exact fs_ne (by decide) hfm43_1_6
          have hfm56_1_5 : m56_1[5]? = some (.int 0) := by rw [em56_1]; exact fs_eq (by rw [hsm43_1.1, hlen_mm]; decide)
          have hP : va_P D vwCl [(mm, .inr (16, m56_1)), (utape, .inl (ct 1, 2000, .inl g_utape))] _ := hP
          have hD : va_D A [(mm, .inr (16, m56_1)), (utape, .inl (ct 1, 2000, .inl g_utape))] := hD
          exact et_v (SX := List Value × Int32) (pl1 := fun _ => []) hQ hx hb hr hlocks dX16_next_59 (m56_1, (0 : Int32), j5_l1, x_mm_7) ⟨hsm56_1, (rg_w (show rg (0 : Int32) 0 0 from rg_l (by decide)) (by decide)), hfm56_1_5, r5_1001, hfm56_1_6, (rg_w h_x_mm_7 (by decide)), hfm56_1_7, (show x_mm_7.toInt ≤ x_mm_8.toInt by have q0 := FF.out hq0; omega), (show j5_l1.toInt ≤ x_mm_8.toInt by have q0 := FF.out hi5_1003; omega), (show (0 : Int32).toInt ≠ 0 → j5_l1.toInt + 1 ≤ x_mm_7.toInt by have q0 := (show (0 : Int32).toInt = 0 from by decide); omega), (show x_mm_7.toInt ≤ j5_l1.toInt by have q0 := FF.out hi5_1002; omega)⟩ (by rw [List.append_nil]; exact hP) (by rw [List.append_nil]; exact hD) hS [0, 1] (by decide) rfl (Nat.le_of_ble_eq_true rfl) (Nat.le_of_ble_eq_true rfl) (Nat.le_of_ble_eq_true rfl) (Nat.le_of_ble_eq_true rfl)
      refine lv_icmp_ge (tgt := 41) hx hb dX16_next_10 (by decide) (fun c10_1 => ?_) (fun c10_1 => ?_)
      · have t10_2 := FF.mk (i_le c10_1)
        exact b41  H locs ls (show x_mm_7.toInt ≤ j5_l1.toInt by have q0 := FF.out hi5_1002; omega) (show j5_l1.toInt ≤ x_mm_8.toInt by have q0 := FF.out hi5_1003; omega) (lv_sub hl [0, 1] rfl) hP hD hS
      · have t10_2 := FF.mk (i_nle c10_1)
        have r10_3 : rg j5_l1 0 1999 := rg_ltA t10_2 r5_1001 h_x_mm_8 (by decide)
        have r10_4 : rg x_mm_8 1 2000 := rg_ltB t10_2 r5_1001 h_x_mm_8 (by decide)
        refine lv_aload_n hx hb dX16_next_13 rfl (lv_at hl 0 rfl) ?_
        refine va_get (D := D) (ci := 16) (v := .ref utape) (C := RX16) (T := TX16) (N := 78) hx hb (htX16 hn) (fun _ h => h) hown hK hP 0 rfl rfl 0 (by decide) (hn.get mw_1539 rfl) (fun _ h9 => h9) hf_mm_0 dX16_next_14 ?_
        refine lv_iload_n hx hb dX16_next_17 rfl (lv_at hl 1 rfl) ?_
        have hi18_1 : vp_in j5_l1 2000 := (in_rg r10_3 (by decide))
        refine va_iald hx hb hK hP 1 1 rfl rfl hi18_1 dX16_next_18 ?_
        refine lv_topi (fun z18_2 ez18_2 => ?_)
        have r18_3 : rg z18_2 0 255 := Rg_at h_g_utape hi18_1 ez18_2
        refine lv_bipush (v := 32) hx hb dX16_next_19 (by decide) ?_
        have b35 : ∀  (H : Heap) (locs : List Loc) (ls : Array Slot), (FF (j5_l1.toInt < x_mm_8.toInt)) → lv_has ls 6 [(0, .ref mm), (1, .int j5_l1)] → va_P D vwCl [(mm, .inr (16, fs_mm)), (utape, .inl (ct 1, 2000, .inl g_utape))] H → va_D A [(mm, .inr (16, fs_mm)), (utape, .inl (ct 1, 2000, .inl g_utape))] → va_S A s.heap H locs → W p l e ({ frames := 8, cells := 1, slots := 7, locals := 162 }) s m [.ref mm].toArray below meth c H locs 0 0 Q (F0 m 35 ls []) := by
          intro  H locs ls hi35_1001 hl hP hD hS
          obtain ⟨x35_1, ex35_1⟩ : ∃ z : Int32, z = j5_l1 + 1 := ⟨_, rfl⟩
          have r35_2 : rg x35_1 1 2000 := rg_add ex35_1 r10_3 (show rg (1 : Int32) 1 1 from rg_l (by decide)) (by decide)
          refine lv_iinc (v := x35_1) (lv' := [(1, .int x35_1), (0, .ref mm)]) hx hb dX16_next_35 hl (k := 1) rfl (by rw [ex35_1]; rfl) (by decide) rfl (fun ls hl => ?_)
          refine lv_goto (tgt := 5) hx hb dX16_next_38 (by decide) ?_
          exact ih5 x35_1 H locs ls (rg_w r35_2 (by decide)) (show x_mm_7.toInt ≤ x35_1.toInt by have q0 := (eq_add ex35_1 r10_3 (show rg (1 : Int32) 1 1 from rg_l (by decide)) (by decide)); have q1 := FF.out hi5_1002; have q2 := (show (1 : Int32).toInt = 1 from by decide); omega) (show x35_1.toInt ≤ x_mm_8.toInt by have q0 := (eq_add ex35_1 r10_3 (show rg (1 : Int32) 1 1 from rg_l (by decide)) (by decide)); have q1 := FF.out t10_2; have q2 := (show (1 : Int32).toInt = 1 from by decide); omega) (show ((2147483647 : Int) - x35_1.toInt).toNat < n5 by have q0 := r10_3.2; have q1 := (eq_add ex35_1 r10_3 (show rg (1 : Int32) 1 1 from rg_l (by decide)) (by decide)); have q2 := (show (1 : Int32).toInt = 1 from by decide); have q3 := hms5; omega) (lv_sub hl [1, 0] rfl) hP hD hS
        refine lv_icmp_eq (tgt := 35) hx hb dX16_next_21 (by decide) (fun c21_1 => ?_) (fun c21_1 => ?_)
        · have t21_2 := FF.mk (i_eq c21_1)
          have r21_3 : rg z18_2 32 32 := rg_eqA t21_2 r18_3 (show rg (32 : Int32) 32 32 from rg_l (by decide)) (by decide)
          exact b35  H locs ls (show j5_l1.toInt < x_mm_8.toInt by have q0 := FF.out t10_2; omega) (lv_sub hl [0, 1] rfl) hP hD hS
        · have t21_2 := FF.mk (i_ne c21_1)
          refine lv_aload_n hx hb dX16_next_24 rfl (lv_at hl 0 rfl) ?_
          refine va_get (D := D) (ci := 16) (v := .ref utape) (C := RX16) (T := TX16) (N := 78) hx hb (htX16 hn) (fun _ h => h) hown hK hP 0 rfl rfl 0 (by decide) (hn.get mw_1539 rfl) (fun _ h9 => h9) hf_mm_0 dX16_next_25 ?_
          refine lv_iload_n hx hb dX16_next_28 rfl (lv_at hl 1 rfl) ?_
          have hi29_1 : vp_in j5_l1 2000 := (in_rg r10_3 (by decide))
          refine va_iald hx hb hK hP 1 1 rfl rfl hi29_1 dX16_next_29 ?_
          refine lv_topi (fun z29_2 ez29_2 => ?_)
          obtain rfl : z18_2 = z29_2 := ez18_2.trans ez29_2.symm
          refine lv_bipush (v := 10) hx hb dX16_next_30 (by decide) ?_
          refine lv_icmp_ne (tgt := 41) hx hb dX16_next_32 (by decide) (fun c32_1 => ?_) (fun c32_1 => ?_)
          · have t32_2 := FF.mk (i_ne c32_1)
            exact b41  H locs ls (show x_mm_7.toInt ≤ j5_l1.toInt by have q0 := FF.out hi5_1002; omega) (show j5_l1.toInt ≤ x_mm_8.toInt by have q0 := FF.out t10_2; omega) (lv_sub hl [0, 1] rfl) hP hD hS
          · have t32_2 := FF.mk (i_eq c32_1)
            have r32_3 : rg z18_2 10 10 := rg_eqA t32_2 r18_3 (show rg (10 : Int32) 10 10 from rg_l (by decide)) (by decide)
            exact b35  H locs ls (show j5_l1.toInt < x_mm_8.toInt by have q0 := FF.out t10_2; omega) (lv_sub hl [0, 1] rfl) hP hD hS
  exact b5 _ x_mm_7 H locs ls (rg_of (show 0 ≤ x_mm_7.toInt ∧ x_mm_7.toInt ≤ 2000 by have q0 := h_x_mm_7.1; have q1 := h_x_mm_8.2; have q2 := FF.out hq0; omega)) (show x_mm_7.toInt ≤ x_mm_7.toInt by omega) (show x_mm_7.toInt ≤ x_mm_8.toInt by have q0 := FF.out hq0; omega) (Nat.lt_succ_self _) (lv_sub hl [1, 0] rfl) hP hD hS
set_option maxHeartbeats 2000000 in
theorem c_X16_is (l : Launch) (D : va_G) (ct : Nat → ClassId) (mm : Nat) (si : Nat) (sn : Nat) (fs_mm : List Value) (utape : Nat) (x_mm_5 : Int32) (x_mm_6 : Int32) (x_mm_7 : Int32) (g_utape : Nat → Int32) (hsi : si < 63 ∧ sLen.getD si 0 = sn) (hlen_mm : fs_mm.length = 78) (hf_mm_0 : fs_mm[0]? = some (.ref utape)) (h_x_mm_5 : rg x_mm_5 0 2) (hf_mm_5 : fs_mm[5]? = some (.int x_mm_5)) (h_x_mm_6 : rg x_mm_6 0 2000) (hf_mm_6 : fs_mm[6]? = some (.int x_mm_6)) (h_x_mm_7 : rg x_mm_7 0 2001) (hf_mm_7 : fs_mm[7]? = some (.int x_mm_7)) (h_g_utape : Rg g_utape 2000 0 255) (hq0 : x_mm_7.toInt ≤ 2000) (hq3 : x_mm_5.toInt ≠ 0 → x_mm_6.toInt + 1 ≤ x_mm_7.toInt) : KI (S := Unit) l yX16_is cX16_is 4 (some .boolean) 5 105 D ct [.ref mm, .ref (ct (100 + si))] [(mm, .inr (16, fs_mm)), (utape, .inl (ct 1, 2000, .inl g_utape))] 0 0 (fun (r : Int32) (_ : Unit) => rg r 0 1 ∧ (r.toInt = 1 → x_mm_5.toInt ≠ 0 ∧ x_mm_7.toInt - x_mm_6.toInt = ((sn : Nat) : Int))) (fun (_ : Unit) => [(mm, .inr (16, fs_mm)), (utape, .inl (ct 1, 2000, .inl g_utape))]) := by
  refine KIq_of (by decide) (Nat.le_of_ble_eq_true rfl) (fun p e s m below meth c A Q C0 hA H locs hS hP hD hQ ls hl => ?_)
  obtain ⟨hx, hb, hr, hown, hin, hml, hlocks, hn, hK, hZ, hSK⟩ := C0
  have hl : lv_has ls 4 [(0, .ref mm), (1, .ref (ct (100 + si)))] := hl
  replace hq0 := FF.mk hq0
  replace hq3 := FF.mk hq3
  refine lv_aload_n hx hb dX16_is_0 rfl (lv_at hl 0 rfl) ?_
  refine va_get (D := D) (ci := 16) (v := .int x_mm_5) (C := RX16) (T := TX16) (N := 78) hx hb (htX16 hn) (fun _ h => h) hown hK hP 0 rfl rfl 5 (by decide) (hn.get mw_1544 rfl) (fun _ h9 => h9) hf_mm_5 dX16_is_1 ?_
  have b28 : ∀ (j28_s0 : Int32) (H : Heap) (locs : List Loc) (ls : Array Slot), (rg j28_s0 0 1) → (FF (j28_s0.toInt = 1 → x_mm_5.toInt ≠ 0 ∧ x_mm_7.toInt - x_mm_6.toInt = ((sn : Nat) : Int))) → lv_has ls 4 [(0, .ref mm), (1, .ref (ct (100 + si)))] → va_P D vwCl [(mm, .inr (16, fs_mm)), (utape, .inl (ct 1, 2000, .inl g_utape))] H → va_D A [(mm, .inr (16, fs_mm)), (utape, .inl (ct 1, 2000, .inl g_utape))] → va_S A s.heap H locs → W p l e ({ frames := 5, cells := 0, slots := 0, locals := 105 }) s m [.ref mm, .ref (ct (100 + si))].toArray below meth c H locs 0 0 Q (F0 m 28 ls [.int j28_s0]) := by
    intro j28_s0 H locs ls r28_1001 hi28_1002 hl hP hD hS
    refine lv_istore_n (lv' := [(2, .int j28_s0), (0, .ref mm), (1, .ref (ct (100 + si)))]) hx hb dX16_is_28 rfl hl (by decide) rfl (fun ls hl => ?_)
    refine lv_iconst (v := 0) hx hb dX16_is_29 (by decide) ?_
    refine lv_istore_n (lv' := [(3, .int 0), (2, .int j28_s0), (0, .ref mm), (1, .ref (ct (100 + si)))]) hx hb dX16_is_30 rfl hl (by decide) rfl (fun ls hl => ?_)
    have b31 : ∀ (n31 : Nat) (j31_l2 : Int32) (j31_l3 : Int32) (H : Heap) (locs : List Loc) (ls : Array Slot), (rg j31_l2 0 1) → (rg j31_l3 0 9) → (FF (j31_l2.toInt = 1 → x_mm_5.toInt ≠ 0 ∧ x_mm_7.toInt - x_mm_6.toInt = ((sn : Nat) : Int))) → ((2147483647 : Int) - j31_l3.toInt).toNat < n31 → lv_has ls 4 [(0, .ref mm), (1, .ref (ct (100 + si))), (2, .int j31_l2), (3, .int j31_l3)] → va_P D vwCl [(mm, .inr (16, fs_mm)), (utape, .inl (ct 1, 2000, .inl g_utape))] H → va_D A [(mm, .inr (16, fs_mm)), (utape, .inl (ct 1, 2000, .inl g_utape))] → va_S A s.heap H locs → W p l e ({ frames := 5, cells := 0, slots := 0, locals := 105 }) s m [.ref mm, .ref (ct (100 + si))].toArray below meth c H locs 0 0 Q (F0 m 31 ls []) := by
      intro n31
      induction n31 with
      | zero => intros; rename_i hms _ _ _ _; exact absurd hms (Nat.not_lt_zero _)
      | succ n31 ih31 =>
        intro j31_l2 j31_l3 H locs ls r31_1001 r31_1002 hi31_1003 hms31 hl hP hD hS
        refine lv_iload_n hx hb dX16_is_31 rfl (lv_at hl 2 rfl) ?_
        refine lv_if_eq (tgt := 74) hx hb dX16_is_32 (by decide) (fun c32_1 => ?_) (fun c32_1 => ?_)
        · have t32_2 := FF.mk (i_eq c32_1)
          have r32_3 : rg j31_l2 0 0 := rg_eqA t32_2 r31_1001 (show rg (0 : Int32) 0 0 from rg_l (by decide)) (by decide)
          refine lv_iload_n hx hb dX16_is_74 rfl (lv_at hl 2 rfl) ?_
          exact endq_i hQ hx hb hr hlocks dX16_is_75 (nar_bool (rg_w r32_3 (by decide))) () ⟨(rg_w r32_3 (by decide)), (show j31_l2.toInt = 1 → x_mm_5.toInt ≠ 0 ∧ x_mm_7.toInt - x_mm_6.toInt = ((sn : Nat) : Int) by have q0 := r32_3.2; omega)⟩ hP hD hS [0, 1] rfl (by decide) rfl (Nat.le_of_ble_eq_true rfl) (Nat.le_of_ble_eq_true rfl)
        · have t32_2 := FF.mk (i_ne c32_1)
          have r32_3 : rg j31_l2 1 1 := rg_neAl t32_2 r31_1001 (show rg (0 : Int32) 0 0 from rg_l (by decide)) (by decide)
          refine lv_iload_n hx hb dX16_is_35 rfl (lv_at hl 3 rfl) ?_
          refine lv_aload_n hx hb dX16_is_36 rfl (lv_at hl 1 rfl) ?_
          refine go_i (k1 := 0) (n1 := 0) (wr := [(mm, .inr (16, fs_mm)), (utape, .inl (ct 1, 2000, .inl g_utape))]) [] [0, 1] (rn_VS (As := []) (rest := [.int j31_l3]) (c_JS_length l D ct si sn hsi _) (cb_of (n := 0) hn mw_529 mw_14 mw_1963 mhJS_length ⟨(Nat.le_of_ble_eq_true rfl), (Nat.le_of_ble_eq_true rfl)⟩) hx hb hml hown hn hK hSK hZ hS mw_527 mw_528 (hZ.2.2.2.2.2 si hsi.1).1 rfl rfl hl.1 (Nat.le_of_ble_eq_true rfl) dX16_is_37 ⟨(Nat.le_of_ble_eq_true rfl), (Nat.le_of_ble_eq_true rfl)⟩) hP hD hS hA rfl rfl (by decide) (by decide) (by decide) (Nat.le_of_ble_eq_true rfl) (Nat.le_of_ble_eq_true rfl) (fun r37_1 u37_2 H locs hp37_3 hP hD hS => ?_)
          obtain ⟨hp37_4, hp37_5⟩ := hp37_3
          have hp37_4 : rg r37_1 1 9 := hp37_4
          replace hp37_5 : FF (r37_1.toInt = ((sn : Nat) : Int)) := hp37_5
          have hP : va_P D vwCl [(mm, .inr (16, fs_mm)), (utape, .inl (ct 1, 2000, .inl g_utape))] _ := hP
          have hD : va_D A [(mm, .inr (16, fs_mm)), (utape, .inl (ct 1, 2000, .inl g_utape))] := hD
          refine lv_icmp_ge (tgt := 74) hx hb dX16_is_40 (by decide) (fun c40_1 => ?_) (fun c40_1 => ?_)
          · have t40_2 := FF.mk (i_le c40_1)
            have r40_3 : rg j31_l3 1 9 := rg_leB t40_2 hp37_4 r31_1002 (by decide)
            refine lv_iload_n hx hb dX16_is_74 rfl (lv_at hl 2 rfl) ?_
            exact endq_i hQ hx hb hr hlocks dX16_is_75 (nar_bool (rg_w r32_3 (by decide))) () ⟨(rg_w r32_3 (by decide)), (show j31_l2.toInt = 1 → x_mm_5.toInt ≠ 0 ∧ x_mm_7.toInt - x_mm_6.toInt = ((sn : Nat) : Int) by have q0 := h_x_mm_5.1; have q1 := r32_3.1; have q2 := r32_3.2; have q3 := FF.out hi31_1003; omega)⟩ hP hD hS [0, 1] rfl (by decide) rfl (Nat.le_of_ble_eq_true rfl) (Nat.le_of_ble_eq_true rfl)
          · have t40_2 := FF.mk (i_nle c40_1)
            have r40_3 : rg j31_l3 0 8 := rg_ltA t40_2 r31_1002 hp37_4 (by decide)
            refine lv_aload_n hx hb dX16_is_43 rfl (lv_at hl 0 rfl) ?_
            refine va_get (D := D) (ci := 16) (v := .ref utape) (C := RX16) (T := TX16) (N := 78) hx hb (htX16 hn) (fun _ h => h) hown hK hP 0 rfl rfl 0 (by decide) (hn.get mw_1539 rfl) (fun _ h9 => h9) hf_mm_0 dX16_is_44 ?_
            refine lv_aload_n hx hb dX16_is_47 rfl (lv_at hl 0 rfl) ?_
            refine va_get (D := D) (ci := 16) (v := .int x_mm_6) (C := RX16) (T := TX16) (N := 78) hx hb (htX16 hn) (fun _ h => h) hown hK hP 0 rfl rfl 6 (by decide) (hn.get mw_1545 rfl) (fun _ h9 => h9) hf_mm_6 dX16_is_48 ?_
            refine lv_iload_n hx hb dX16_is_51 rfl (lv_at hl 3 rfl) ?_
            refine lv_iadd hx hb dX16_is_52 ?_
            refine lv_topi (fun z52_1 ez52_1 => ?_)
            have r52_2 : rg z52_1 0 2008 := rg_add ez52_1 h_x_mm_6 r40_3 (by decide)
            have hi53_1 : vp_in z52_1 2000 := (in_of (show 0 ≤ z52_1.toInt ∧ z52_1.toInt < 2000 by have q0 := r52_2.1; have q1 := (eq_add ez52_1 h_x_mm_6 r40_3 (by decide)); have q2 := r32_3.1; have q3 := r32_3.2; have q4 := FF.out hq0; have q5 := FF.out hi31_1003; have q6 := FF.out hp37_5; have q7 := FF.out t40_2; omega))
            refine va_iald hx hb hK hP 1 1 rfl rfl hi53_1 dX16_is_53 ?_
            refine lv_topi (fun z53_2 ez53_2 => ?_)
            have r53_3 : rg z53_2 0 255 := Rg_at h_g_utape hi53_1 ez53_2
            refine lv_aload_n hx hb dX16_is_54 rfl (lv_at hl 1 rfl) ?_
            refine lv_iload_n hx hb dX16_is_55 rfl (lv_at hl 3 rfl) ?_
            refine go_i (k1 := 0) (n1 := 0) (wr := [(mm, .inr (16, fs_mm)), (utape, .inl (ct 1, 2000, .inl g_utape))]) [] [0, 1] (rn_VS (As := [.int j31_l3]) (rest := [.int z53_2]) (c_JS_charAt l D ct si sn j31_l3 hsi (rg_w r40_3 (by decide)) (show j31_l3.toInt < ((sn : Nat) : Int) by have q0 := FF.out hp37_5; have q1 := FF.out t40_2; omega) _) (cb_of (n := 1) hn mw_539 mw_14 mw_1964 mhJS_charAt ⟨(Nat.le_of_ble_eq_true rfl), (Nat.le_of_ble_eq_true rfl)⟩) hx hb hml hown hn hK hSK hZ hS mw_537 mw_538 (hZ.2.2.2.2.2 si hsi.1).1 rfl rfl hl.1 (Nat.le_of_ble_eq_true rfl) dX16_is_56 ⟨(Nat.le_of_ble_eq_true rfl), (Nat.le_of_ble_eq_true rfl)⟩) hP hD hS hA rfl rfl (by decide) (by decide) (by decide) (Nat.le_of_ble_eq_true rfl) (Nat.le_of_ble_eq_true rfl) (fun r56_1 u56_2 H locs hp56_3 hP hD hS => ?_)
            have hp56_4 := hp56_3
            have hp56_4 : rg r56_1 0 65535 := hp56_4
            have hP : va_P D vwCl [(mm, .inr (16, fs_mm)), (utape, .inl (ct 1, 2000, .inl g_utape))] _ := hP
            have hD : va_D A [(mm, .inr (16, fs_mm)), (utape, .inl (ct 1, 2000, .inl g_utape))] := hD
            have b67 : ∀ (j67_s0 : Int32) (H : Heap) (locs : List Loc) (ls : Array Slot), (rg j67_s0 0 1) → lv_has ls 4 [(0, .ref mm), (1, .ref (ct (100 + si))), (3, .int j31_l3)] → va_P D vwCl [(mm, .inr (16, fs_mm)), (utape, .inl (ct 1, 2000, .inl g_utape))] H → va_D A [(mm, .inr (16, fs_mm)), (utape, .inl (ct 1, 2000, .inl g_utape))] → va_S A s.heap H locs → W p l e ({ frames := 5, cells := 0, slots := 0, locals := 105 }) s m [.ref mm, .ref (ct (100 + si))].toArray below meth c H locs 0 0 Q (F0 m 67 ls [.int j67_s0]) := by
              intro j67_s0 H locs ls r67_1001 hl hP hD hS
              refine lv_istore_n (lv' := [(2, .int j67_s0), (0, .ref mm), (1, .ref (ct (100 + si))), (3, .int j31_l3)]) hx hb dX16_is_67 rfl hl (by decide) rfl (fun ls hl => ?_)
              obtain ⟨x68_1, ex68_1⟩ : ∃ z : Int32, z = j31_l3 + 1 := ⟨_, rfl⟩
              have r68_2 : rg x68_1 1 9 := rg_add ex68_1 r40_3 (show rg (1 : Int32) 1 1 from rg_l (by decide)) (by decide)
              refine lv_iinc (v := x68_1) (lv' := [(3, .int x68_1), (2, .int j67_s0), (0, .ref mm), (1, .ref (ct (100 + si)))]) hx hb dX16_is_68 hl (k := 3) rfl (by rw [ex68_1]; rfl) (by decide) rfl (fun ls hl => ?_)
              refine lv_goto (tgt := 31) hx hb dX16_is_71 (by decide) ?_
              exact ih31 j67_s0 x68_1 H locs ls r67_1001 (rg_w r68_2 (by decide)) (show j67_s0.toInt = 1 → x_mm_5.toInt ≠ 0 ∧ x_mm_7.toInt - x_mm_6.toInt = ((sn : Nat) : Int) by have q0 := h_x_mm_5.1; have q1 := r32_3.1; have q2 := r32_3.2; have q3 := FF.out hi31_1003; omega) (show ((2147483647 : Int) - x68_1.toInt).toNat < n31 by have q0 := r40_3.2; have q1 := (eq_add ex68_1 r40_3 (show rg (1 : Int32) 1 1 from rg_l (by decide)) (by decide)); have q2 := (show (1 : Int32).toInt = 1 from by decide); have q3 := hms31; omega) (lv_sub hl [2, 3, 1, 0] rfl) hP hD hS
            refine lv_icmp_ne (tgt := 66) hx hb dX16_is_59 (by decide) (fun c59_1 => ?_) (fun c59_1 => ?_)
            · have t59_2 := FF.mk (i_ne c59_1)
              refine lv_iconst (v := 0) hx hb dX16_is_66 (by decide) ?_
              exact b67 (0 : Int32) H locs ls (rg_w (show rg (0 : Int32) 0 0 from rg_l (by decide)) (by decide)) (lv_sub hl [0, 1, 3] rfl) hP hD hS
            · have t59_2 := FF.mk (i_eq c59_1)
              have r59_3 : rg r56_1 0 255 := rg_eqB t59_2 r53_3 hp56_4 (by decide)
              refine lv_iconst (v := 1) hx hb dX16_is_62 (by decide) ?_
              refine lv_goto (tgt := 67) hx hb dX16_is_63 (by decide) ?_
              exact b67 (1 : Int32) H locs ls (rg_w (show rg (1 : Int32) 1 1 from rg_l (by decide)) (by decide)) (lv_sub hl [0, 1, 3] rfl) hP hD hS
    exact b31 _ j28_s0 (0 : Int32) H locs ls r28_1001 (rg_w (show rg (0 : Int32) 0 0 from rg_l (by decide)) (by decide)) (show j28_s0.toInt = 1 → x_mm_5.toInt ≠ 0 ∧ x_mm_7.toInt - x_mm_6.toInt = ((sn : Nat) : Int) by have q0 := h_x_mm_5.1; have q1 := r28_1001.2; have q2 := FF.out hi28_1002; omega) (Nat.lt_succ_self _) (lv_sub hl [2, 3, 1, 0] rfl) hP hD hS
  have b27 : ∀  (H : Heap) (locs : List Loc) (ls : Array Slot), lv_has ls 4 [(0, .ref mm), (1, .ref (ct (100 + si)))] → va_P D vwCl [(mm, .inr (16, fs_mm)), (utape, .inl (ct 1, 2000, .inl g_utape))] H → va_D A [(mm, .inr (16, fs_mm)), (utape, .inl (ct 1, 2000, .inl g_utape))] → va_S A s.heap H locs → W p l e ({ frames := 5, cells := 0, slots := 0, locals := 105 }) s m [.ref mm, .ref (ct (100 + si))].toArray below meth c H locs 0 0 Q (F0 m 27 ls []) := by
    intro  H locs ls  hl hP hD hS
    refine lv_iconst (v := 0) hx hb dX16_is_27 (by decide) ?_
    exact b28 (0 : Int32) H locs ls (rg_w (show rg (0 : Int32) 0 0 from rg_l (by decide)) (by decide)) (show (0 : Int32).toInt = 1 → x_mm_5.toInt ≠ 0 ∧ x_mm_7.toInt - x_mm_6.toInt = ((sn : Nat) : Int) by have q0 := (show (0 : Int32).toInt = 0 from by decide); omega) (lv_sub hl [0, 1] rfl) hP hD hS
  refine lv_if_eq (tgt := 27) hx hb dX16_is_4 (by decide) (fun c4_1 => ?_) (fun c4_1 => ?_)
  · have t4_2 := FF.mk (i_eq c4_1)
    have r4_3 : rg x_mm_5 0 0 := rg_eqA t4_2 h_x_mm_5 (show rg (0 : Int32) 0 0 from rg_l (by decide)) (by decide)
    exact b27  H locs ls  (lv_sub hl [0, 1] rfl) hP hD hS
  · have t4_2 := FF.mk (i_ne c4_1)
    have r4_3 : rg x_mm_5 1 2 := rg_neAl t4_2 h_x_mm_5 (show rg (0 : Int32) 0 0 from rg_l (by decide)) (by decide)
    refine lv_aload_n hx hb dX16_is_7 rfl (lv_at hl 0 rfl) ?_
    refine va_get (D := D) (ci := 16) (v := .int x_mm_7) (C := RX16) (T := TX16) (N := 78) hx hb (htX16 hn) (fun _ h => h) hown hK hP 0 rfl rfl 7 (by decide) (hn.get mw_1546 rfl) (fun _ h9 => h9) hf_mm_7 dX16_is_8 ?_
    refine lv_aload_n hx hb dX16_is_11 rfl (lv_at hl 0 rfl) ?_
    refine va_get (D := D) (ci := 16) (v := .int x_mm_6) (C := RX16) (T := TX16) (N := 78) hx hb (htX16 hn) (fun _ h => h) hown hK hP 0 rfl rfl 6 (by decide) (hn.get mw_1545 rfl) (fun _ h9 => h9) hf_mm_6 dX16_is_12 ?_
    refine lv_isub hx hb dX16_is_15 ?_
    refine lv_topi (fun z15_1 ez15_1 => ?_)
    have r15_2 : rg z15_1 (-2000) 2001 := rg_sub ez15_1 h_x_mm_7 h_x_mm_6 (by decide)
    refine lv_aload_n hx hb dX16_is_16 rfl (lv_at hl 1 rfl) ?_
    refine go_i (k1 := 0) (n1 := 0) (wr := [(mm, .inr (16, fs_mm)), (utape, .inl (ct 1, 2000, .inl g_utape))]) [] [0, 1] (rn_VS (As := []) (rest := [.int z15_1]) (c_JS_length l D ct si sn hsi _) (cb_of (n := 0) hn mw_529 mw_14 mw_1963 mhJS_length ⟨(Nat.le_of_ble_eq_true rfl), (Nat.le_of_ble_eq_true rfl)⟩) hx hb hml hown hn hK hSK hZ hS mw_527 mw_528 (hZ.2.2.2.2.2 si hsi.1).1 rfl rfl hl.1 (Nat.le_of_ble_eq_true rfl) dX16_is_17 ⟨(Nat.le_of_ble_eq_true rfl), (Nat.le_of_ble_eq_true rfl)⟩) hP hD hS hA rfl rfl (by decide) (by decide) (by decide) (Nat.le_of_ble_eq_true rfl) (Nat.le_of_ble_eq_true rfl) (fun r17_1 u17_2 H locs hp17_3 hP hD hS => ?_)
    obtain ⟨hp17_4, hp17_5⟩ := hp17_3
    have hp17_4 : rg r17_1 1 9 := hp17_4
    replace hp17_5 : FF (r17_1.toInt = ((sn : Nat) : Int)) := hp17_5
    have hP : va_P D vwCl [(mm, .inr (16, fs_mm)), (utape, .inl (ct 1, 2000, .inl g_utape))] _ := hP
    have hD : va_D A [(mm, .inr (16, fs_mm)), (utape, .inl (ct 1, 2000, .inl g_utape))] := hD
    refine lv_icmp_ne (tgt := 27) hx hb dX16_is_20 (by decide) (fun c20_1 => ?_) (fun c20_1 => ?_)
    · have t20_2 := FF.mk (i_ne c20_1)
      exact b27  H locs ls  (lv_sub hl [0, 1] rfl) hP hD hS
    · have t20_2 := FF.mk (i_eq c20_1)
      have r20_3 : rg z15_1 1 9 := rg_eqA t20_2 r15_2 hp17_4 (by decide)
      refine lv_iconst (v := 1) hx hb dX16_is_23 (by decide) ?_
      refine lv_goto (tgt := 28) hx hb dX16_is_24 (by decide) ?_
      exact b28 (1 : Int32) H locs ls (rg_w (show rg (1 : Int32) 1 1 from rg_l (by decide)) (by decide)) (show (1 : Int32).toInt = 1 → x_mm_5.toInt ≠ 0 ∧ x_mm_7.toInt - x_mm_6.toInt = ((sn : Nat) : Int) by have q0 := r4_3.1; have q1 := (eq_sub ez15_1 h_x_mm_7 h_x_mm_6 (by decide)); have q2 := FF.out hp17_5; have q3 := FF.out t20_2; have q4 := (show (1 : Int32).toInt = 1 from by decide); omega) (lv_sub hl [0, 1] rfl) hP hD hS
set_option maxHeartbeats 2000000 in
theorem c_X16_want (l : Launch) (hst : l.stackTraces = false) (D : va_G) (ct : Nat → ClassId) (mm : Nat) (si : Nat) (sn : Nat) (fs_mm : List Value) (utape : Nat) (x_mm_5 : Int32) (x_mm_6 : Int32) (x_mm_7 : Int32) (x_mm_8 : Int32) (g_utape : Nat → Int32) (hsi : si < 63 ∧ sLen.getD si 0 = sn) (hlen_mm : fs_mm.length = 78) (hf_mm_0 : fs_mm[0]? = some (.ref utape)) (h_x_mm_5 : rg x_mm_5 0 2) (hf_mm_5 : fs_mm[5]? = some (.int x_mm_5)) (h_x_mm_6 : rg x_mm_6 0 2000) (hf_mm_6 : fs_mm[6]? = some (.int x_mm_6)) (h_x_mm_7 : rg x_mm_7 0 2001) (hf_mm_7 : fs_mm[7]? = some (.int x_mm_7)) (h_x_mm_8 : rg x_mm_8 0 2000) (hf_mm_8 : fs_mm[8]? = some (.int x_mm_8)) (h_g_utape : Rg g_utape 2000 0 255) (hq0 : x_mm_7.toInt ≤ 2000) (hq1 : x_mm_7.toInt ≤ x_mm_8.toInt) (hq2 : x_mm_6.toInt ≤ x_mm_8.toInt) (hq3 : x_mm_5.toInt ≠ 0 → x_mm_6.toInt + 1 ≤ x_mm_7.toInt) : KT (V := Unit) (S := List Value × Int32 × Int32 × Int32) (SX := List Value × Int32) l yX16_want cX16_want 2 none 9 187 D ct [.ref mm, .ref (ct (100 + si))] [(mm, .inr (16, fs_mm)), (utape, .inl (ct 1, 2000, .inl g_utape))] 1 7 (fun _ : Unit => none) (fun (_ : Unit) (u : List Value × Int32 × Int32 × Int32) => match u with | (fs2_mm, y_mm_5, y_mm_6, y_mm_7) => SB fs_mm fs2_mm [5, 6, 7] ∧ rg y_mm_5 0 2 ∧ fs2_mm[5]? = some (.int y_mm_5) ∧ rg y_mm_6 0 2000 ∧ fs2_mm[6]? = some (.int y_mm_6) ∧ rg y_mm_7 0 2002 ∧ fs2_mm[7]? = some (.int y_mm_7) ∧ (y_mm_7.toInt ≤ x_mm_8.toInt) ∧ (y_mm_6.toInt ≤ x_mm_8.toInt) ∧ (y_mm_5.toInt ≠ 0 → y_mm_6.toInt + 1 ≤ y_mm_7.toInt) ∧ (x_mm_7.toInt ≤ y_mm_6.toInt) ∧ (x_mm_5.toInt ≠ 0 ∧ x_mm_7.toInt - x_mm_6.toInt = ((sn : Nat) : Int))) (fun (u : List Value × Int32 × Int32 × Int32) => match u with | (fs2_mm, y_mm_5, y_mm_6, y_mm_7) => [(mm, .inr (16, fs2_mm)), (utape, .inl (ct 1, 2000, .inl g_utape))] ++ []) (fun _ => 0) (fun _ => 0) 15 RX15 peW (fun (u : List Value × Int32) => match u with | (fs2_mm, y_mm_6) => SB fs_mm fs2_mm [5, 6, 7] ∧ rg y_mm_6 0 2000 ∧ fs2_mm[6]? = some (.int y_mm_6) ∧ fs2_mm[7]? = some (.int x_mm_7)) (fun (u : List Value × Int32) => match u with | (fs2_mm, y_mm_6) => [(mm, .inr (16, fs2_mm)), (utape, .inl (ct 1, 2000, .inl g_utape))]) := by
  refine KT_of (by decide) (Nat.le_of_ble_eq_true rfl) (fun p e s m below meth c A Q C0 htab hA H locs hS hP hD hQ ls hl => ?_)
  obtain ⟨hx, hb, hr, hown, hin, hml, hlocks, hn, hK, hZ, hSK⟩ := C0
  have hl : lv_has ls 2 [(0, .ref mm), (1, .ref (ct (100 + si)))] := hl
  replace hq0 := FF.mk hq0
  replace hq1 := FF.mk hq1
  replace hq2 := FF.mk hq2
  replace hq3 := FF.mk hq3
  refine lv_aload_n hx hb dX16_want_0 rfl (lv_at hl 0 rfl) ?_
  refine lv_aload_n hx hb dX16_want_1 rfl (lv_at hl 0 rfl) ?_
  refine lv_aload_n hx hb dX16_want_2 rfl (lv_at hl 1 rfl) ?_
  refine go_i (k1 := 0) (n1 := 0) (wr := []) [0, 1] [] (rn_V (As := [.ref (ct (100 + si))]) (rest := [.ref mm]) (c_X16_is l D ct mm si sn fs_mm utape x_mm_5 x_mm_6 x_mm_7 g_utape hsi hlen_mm hf_mm_0 h_x_mm_5 hf_mm_5 h_x_mm_6 hf_mm_6 h_x_mm_7 hf_mm_7 h_g_utape (show x_mm_7.toInt ≤ 2000 by have q0 := FF.out hq0; omega) (show x_mm_5.toInt ≠ 0 → x_mm_6.toInt + 1 ≤ x_mm_7.toInt by have q0 := h_x_mm_5.1; have q1 := FF.out hq3; omega) _) (cb_of (n := 1) hn mw_1962 mw_13 mw_1959 mhX16_is ⟨(Nat.le_of_ble_eq_true rfl), (Nat.le_of_ble_eq_true rfl)⟩) hx hb hml hown hn hK hSK hZ hS mw_1961 mw_s186 (ci := 16) (q0 := 0) rfl rfl rfl rfl hl.1 (Nat.le_of_ble_eq_true rfl) dX16_want_3 ⟨(Nat.le_of_ble_eq_true rfl), (Nat.le_of_ble_eq_true rfl)⟩) hP hD hS hA rfl rfl (by decide) (by decide) (by decide) (Nat.le_of_ble_eq_true rfl) (Nat.le_of_ble_eq_true rfl) (fun r3_1 u3_2 H locs hp3_3 hP hD hS => ?_)
  obtain ⟨hp3_4, hp3_5⟩ := hp3_3
  have hp3_4 : rg r3_1 0 1 := hp3_4
  replace hp3_5 : FF (r3_1.toInt = 1 → x_mm_5.toInt ≠ 0 ∧ x_mm_7.toInt - x_mm_6.toInt = ((sn : Nat) : Int)) := hp3_5
  have hP : va_P D vwCl [(mm, .inr (16, fs_mm)), (utape, .inl (ct 1, 2000, .inl g_utape))] _ := hP
  have hD : va_D A [(mm, .inr (16, fs_mm)), (utape, .inl (ct 1, 2000, .inl g_utape))] := hD
  refine gt_q (pl := []) (wr := [(utape, .inl (ct 1, 2000, .inl g_utape))]) [0] [1] (rt_V (As := [.int r3_1]) (rest := []) (c_X16_must l hst D ct mm r3_1 fs_mm x_mm_6 hp3_4 hlen_mm h_x_mm_6 hf_mm_6 _) (cb_of (n := 1) hn mw_1927 mw_13 mw_1924 mhX16_must ⟨(Nat.le_of_ble_eq_true rfl), (Nat.le_of_ble_eq_true rfl)⟩) hx hb hml hown hn hK hSK hZ hS mw_1926 mw_s182 (ci := 16) (q0 := 0) rfl rfl rfl rfl hl.1 (Nat.le_of_ble_eq_true rfl) dX16_want_6 ⟨(Nat.le_of_ble_eq_true rfl), (Nat.le_of_ble_eq_true rfl)⟩) (by rw [List.append_nil]; exact hP) (by rw [List.append_nil]; exact hD) hS hA rfl rfl (by decide) (by decide) (by decide) (fun xq6_4 ux6_5 xfs6_6 H locs hpx6_7 hpexfs6_6 hP hD hS => ?_) (fun r6_1 u6_2 H locs hp6_3 hP hD hS => ?_)
  · have hP : va_P D vwCl [(utape, .inl (ct 1, 2000, .inl g_utape)), (mm, .inr (16, fs_mm)), (xq6_4, .inr (15, xfs6_6))] _ := hP
    have hD : va_D A [(utape, .inl (ct 1, 2000, .inl g_utape)), (mm, .inr (16, fs_mm)), (xq6_4, .inr (15, xfs6_6))] := hD
    refine vx_widen (k := 1) (n := 7) (Nat.le_of_ble_eq_true rfl) (Nat.le_of_ble_eq_true rfl) ?_
    exact xo hQ htab hlocks hK rfl hP hD hS (fs_mm, x_mm_6) (fs := xfs6_6) ⟨(SB.rf _ _), h_x_mm_6, hf_mm_6, hf_mm_7⟩ hpexfs6_6 [1, 0, 2] (by decide) rfl (kq := 2) rfl (Nat.le_of_ble_eq_true rfl) (Nat.le_of_ble_eq_true rfl)
  have hp6_308 := hp6_3
  replace hp6_308 : FF (r3_1.toInt = 1) := hp6_308
  rw [List.append_nil] at hP hD
  have hP : va_P D vwCl [(utape, .inl (ct 1, 2000, .inl g_utape)), (mm, .inr (16, fs_mm))] _ := hP
  have hD : va_D A [(utape, .inl (ct 1, 2000, .inl g_utape)), (mm, .inr (16, fs_mm))] := hD
  refine W.widen (k := 0) (n := 0) (Nat.le_of_ble_eq_true rfl) (Nat.le_of_ble_eq_true rfl) (W.eq (g2 := F0 m 9 ls []) rfl ?_)
  refine lv_aload_n hx hb dX16_want_9 rfl (lv_at hl 0 rfl) ?_
  refine gt_q (pl := []) (wr := []) [1, 0] [] (rt_V (As := []) (rest := []) (c_X16_next l hst D ct mm fs_mm utape x_mm_7 x_mm_8 g_utape hlen_mm hf_mm_0 h_x_mm_7 hf_mm_7 h_x_mm_8 hf_mm_8 h_g_utape (show x_mm_7.toInt ≤ x_mm_8.toInt by have q0 := FF.out hq1; omega) _) (cb_of (n := 0) hn mw_1912 mw_13 mw_1909 mhX16_next ⟨(Nat.le_of_ble_eq_true rfl), (Nat.le_of_ble_eq_true rfl)⟩) hx hb hml hown hn hK hSK hZ hS mw_1911 mw_s179 (ci := 16) (q0 := 0) rfl rfl rfl rfl hl.1 (Nat.le_of_ble_eq_true rfl) dX16_want_10 ⟨(Nat.le_of_ble_eq_true rfl), (Nat.le_of_ble_eq_true rfl)⟩) (by rw [List.append_nil]; exact hP) (by rw [List.append_nil]; exact hD) hS hA rfl rfl (by decide) (by decide) (by decide) (fun xq10_4 ux10_5 xfs10_6 H locs hpx10_7 hpexfs10_6 hP hD hS => ?_) (fun r10_1 u10_2 H locs hp10_3 hP hD hS => ?_)
  · obtain ⟨fs2_mm10_8, y_mm_610_9⟩ := ux10_5
    obtain ⟨hp10_10, hp10_11, hp10_12, hp10_13⟩ := hpx10_7
    have hs10_14 : SB fs_mm fs2_mm10_8 [5, 6, 7] := SB.trans (SB.rf _ _) hp10_10 (by decide)
    have hp10_11 : rg y_mm_610_9 0 2000 := hp10_11
    have hP : va_P D vwCl [(mm, .inr (16, fs2_mm10_8)), (utape, .inl (ct 1, 2000, .inl g_utape)), (xq10_4, .inr (15, xfs10_6))] _ := hP
    have hD : va_D A [(mm, .inr (16, fs2_mm10_8)), (utape, .inl (ct 1, 2000, .inl g_utape)), (xq10_4, .inr (15, xfs10_6))] := hD
    refine vx_widen (k := 1) (n := 7) (Nat.le_of_ble_eq_true rfl) (Nat.le_of_ble_eq_true rfl) ?_
    exact xo hQ htab hlocks hK rfl hP hD hS (fs2_mm10_8, y_mm_610_9) (fs := xfs10_6) ⟨hs10_14, hp10_11, hp10_12, hp10_13⟩ hpexfs10_6 [0, 1, 2] (by decide) rfl (kq := 2) rfl (Nat.le_of_ble_eq_true rfl) (Nat.le_of_ble_eq_true rfl)
  obtain ⟨fs2_mm10_308, y_mm_510_309, y_mm_610_310, y_mm_710_311⟩ := u10_2
  obtain ⟨hp10_312, hp10_313, hp10_314, hp10_315, hp10_316, hp10_317, hp10_318, hp10_319, hp10_320, hp10_321, hp10_322⟩ := hp10_3
  have hs10_323 : SB fs_mm fs2_mm10_308 [5, 6, 7] := SB.trans (SB.rf _ _) hp10_312 (by decide)
  have hp10_313 : rg y_mm_510_309 0 2 := hp10_313
  have hp10_315 : rg y_mm_610_310 0 2000 := hp10_315
  have hp10_317 : rg y_mm_710_311 0 2002 := hp10_317
  replace hp10_319 : FF (y_mm_710_311.toInt ≤ x_mm_8.toInt) := hp10_319
  replace hp10_320 : FF (y_mm_610_310.toInt ≤ x_mm_8.toInt) := hp10_320
  replace hp10_321 : FF (y_mm_510_309.toInt ≠ 0 → y_mm_610_310.toInt + 1 ≤ y_mm_710_311.toInt) := hp10_321
  replace hp10_322 : FF (x_mm_7.toInt ≤ y_mm_610_310.toInt) := hp10_322
  rw [List.append_nil] at hP hD
  have hP : va_P D vwCl [(mm, .inr (16, fs2_mm10_308)), (utape, .inl (ct 1, 2000, .inl g_utape))] _ := hP
  have hD : va_D A [(mm, .inr (16, fs2_mm10_308)), (utape, .inl (ct 1, 2000, .inl g_utape))] := hD
  refine W.widen (k := 0) (n := 0) (Nat.le_of_ble_eq_true rfl) (Nat.le_of_ble_eq_true rfl) (W.eq (g2 := F0 m 13 ls []) rfl ?_)
  exact et_v (SX := List Value × Int32) (pl1 := fun _ => []) hQ hx hb hr hlocks dX16_want_13 (fs2_mm10_308, y_mm_510_309, y_mm_610_310, y_mm_710_311) ⟨hs10_323, hp10_313, hp10_314, hp10_315, hp10_316, hp10_317, hp10_318, (show y_mm_710_311.toInt ≤ x_mm_8.toInt by have q0 := FF.out hp10_319; omega), (show y_mm_610_310.toInt ≤ x_mm_8.toInt by have q0 := FF.out hp10_320; omega), (show y_mm_510_309.toInt ≠ 0 → y_mm_610_310.toInt + 1 ≤ y_mm_710_311.toInt by have q0 := hp10_313.1; have q1 := FF.out hp10_321; omega), (show x_mm_7.toInt ≤ y_mm_610_310.toInt by have q0 := FF.out hp10_322; omega), (show x_mm_5.toInt ≠ 0 ∧ x_mm_7.toInt - x_mm_6.toInt = ((sn : Nat) : Int) by have q0 := h_x_mm_5.1; have q1 := hp3_4.2; have q2 := FF.out hp3_5; have q3 := FF.out hp6_308; omega)⟩ (by rw [List.append_nil]; exact hP) (by rw [List.append_nil]; exact hD) hS [0, 1] (by decide) rfl (Nat.le_of_ble_eq_true rfl) (Nat.le_of_ble_eq_true rfl) (Nat.le_of_ble_eq_true rfl) (Nat.le_of_ble_eq_true rfl)
set_option maxHeartbeats 2000000 in
theorem c_X16_number (l : Launch) (D : va_G) (ct : Nat → ClassId) (mm : Nat) (fs_mm : List Value) (utape : Nat) (x_mm_5 : Int32) (x_mm_6 : Int32) (x_mm_7 : Int32) (x_mm_8 : Int32) (g_utape : Nat → Int32) (hlen_mm : fs_mm.length = 78) (hf_mm_0 : fs_mm[0]? = some (.ref utape)) (h_x_mm_5 : rg x_mm_5 0 2) (hf_mm_5 : fs_mm[5]? = some (.int x_mm_5)) (h_x_mm_6 : rg x_mm_6 0 2000) (hf_mm_6 : fs_mm[6]? = some (.int x_mm_6)) (h_x_mm_7 : rg x_mm_7 0 2001) (hf_mm_7 : fs_mm[7]? = some (.int x_mm_7)) (h_x_mm_8 : rg x_mm_8 0 2000) (hf_mm_8 : fs_mm[8]? = some (.int x_mm_8)) (h_g_utape : Rg g_utape 2000 0 255) (hq0 : x_mm_7.toInt ≤ 2000) (hq1 : x_mm_7.toInt ≤ x_mm_8.toInt) (hq2 : x_mm_6.toInt ≤ x_mm_8.toInt) (hq3 : x_mm_5.toInt ≠ 0 → x_mm_6.toInt + 1 ≤ x_mm_7.toInt) : KL (S := Unit) l yX16_number cX16_number 8 (some .long) 2 41 D ct [.ref mm] [(mm, .inr (16, fs_mm)), (utape, .inl (ct 1, 2000, .inl g_utape))] 0 0 (fun (r : Int64) (_ : Unit) => rl r (-1) 4294967295 ∧ (0 ≤ r.toInt → x_mm_5.toInt ≠ 0)) (fun (_ : Unit) => [(mm, .inr (16, fs_mm)), (utape, .inl (ct 1, 2000, .inl g_utape))]) := by
  refine KLq_of (by decide) (Nat.le_of_ble_eq_true rfl) (fun p e s m below meth c A Q C0 hA H locs hS hP hD hQ ls hl => ?_)
  obtain ⟨hx, hb, hr, hown, hin, hml, hlocks, hn, hK, hZ, hSK⟩ := C0
  have hl : lv_has ls 8 [(0, .ref mm)] := hl
  replace hq0 := FF.mk hq0
  replace hq1 := FF.mk hq1
  replace hq2 := FF.mk hq2
  replace hq3 := FF.mk hq3
  refine lv_aload_n hx hb dX16_number_0 rfl (lv_at hl 0 rfl) ?_
  refine va_get (D := D) (ci := 16) (v := .int x_mm_5) (C := RX16) (T := TX16) (N := 78) hx hb (htX16 hn) (fun _ h => h) hown hK hP 0 rfl rfl 5 (by decide) (hn.get mw_1544 rfl) (fun _ h9 => h9) hf_mm_5 dX16_number_1 ?_
  refine lv_iconst (v := 1) hx hb dX16_number_4 (by decide) ?_
  refine lv_icmp_eq (tgt := 12) hx hb dX16_number_5 (by decide) (fun c5_1 => ?_) (fun c5_1 => ?_)
  · have t5_2 := FF.mk (i_eq c5_1)
    have r5_3 : rg x_mm_5 1 1 := rg_eqA t5_2 h_x_mm_5 (show rg (1 : Int32) 1 1 from rg_l (by decide)) (by decide)
    refine lv_aload_n hx hb dX16_number_12 rfl (lv_at hl 0 rfl) ?_
    refine va_get (D := D) (ci := 16) (v := .int x_mm_7) (C := RX16) (T := TX16) (N := 78) hx hb (htX16 hn) (fun _ h => h) hown hK hP 0 rfl rfl 7 (by decide) (hn.get mw_1546 rfl) (fun _ h9 => h9) hf_mm_7 dX16_number_13 ?_
    refine lv_aload_n hx hb dX16_number_16 rfl (lv_at hl 0 rfl) ?_
    refine va_get (D := D) (ci := 16) (v := .int x_mm_6) (C := RX16) (T := TX16) (N := 78) hx hb (htX16 hn) (fun _ h => h) hown hK hP 0 rfl rfl 6 (by decide) (hn.get mw_1545 rfl) (fun _ h9 => h9) hf_mm_6 dX16_number_17 ?_
    refine lv_isub hx hb dX16_number_20 ?_
    refine lv_topi (fun z20_1 ez20_1 => ?_)
    have r20_2 : rg z20_1 (-2000) 2001 := rg_sub ez20_1 h_x_mm_7 h_x_mm_6 (by decide)
    refine lv_iconst (v := 2) hx hb dX16_number_21 (by decide) ?_
    have b58 : ∀ (j58_s0 : Int32) (H : Heap) (locs : List Loc) (ls : Array Slot), (rg j58_s0 0 1) → lv_has ls 8 [(0, .ref mm)] → va_P D vwCl [(mm, .inr (16, fs_mm)), (utape, .inl (ct 1, 2000, .inl g_utape))] H → va_D A [(mm, .inr (16, fs_mm)), (utape, .inl (ct 1, 2000, .inl g_utape))] → va_S A s.heap H locs → W p l e ({ frames := 2, cells := 0, slots := 0, locals := 41 }) s m [.ref mm].toArray below meth c H locs 0 0 Q (F0 m 58 ls [.int j58_s0]) := by
      intro j58_s0 H locs ls r58_1001 hl hP hD hS
      refine lv_istore_n (lv' := [(1, .int j58_s0), (0, .ref mm)]) hx hb dX16_number_58 rfl hl (by decide) rfl (fun ls hl => ?_)
      refine lv_iload_n hx hb dX16_number_59 rfl (lv_at hl 0 rfl) ?_
      have b76 : ∀ (j76_s0 : Int32) (H : Heap) (locs : List Loc) (ls : Array Slot), (rg j76_s0 0 2002) → (FF (x_mm_6.toInt ≤ j76_s0.toInt ∧ j76_s0.toInt ≤ x_mm_6.toInt + 2)) → lv_has ls 8 [(0, .ref mm), (1, .int j58_s0)] → va_P D vwCl [(mm, .inr (16, fs_mm)), (utape, .inl (ct 1, 2000, .inl g_utape))] H → va_D A [(mm, .inr (16, fs_mm)), (utape, .inl (ct 1, 2000, .inl g_utape))] → va_S A s.heap H locs → W p l e ({ frames := 2, cells := 0, slots := 0, locals := 41 }) s m [.ref mm].toArray below meth c H locs 0 0 Q (F0 m 76 ls [.int j76_s0]) := by
        intro j76_s0 H locs ls r76_1001 ho76_1002 hl hP hD hS
        refine lv_istore_n (lv' := [(2, .int j76_s0), (0, .ref mm), (1, .int j58_s0)]) hx hb dX16_number_76 rfl hl (by decide) rfl (fun ls hl => ?_)
        refine lv_iload_n hx hb dX16_number_77 rfl (lv_at hl 2 rfl) ?_
        have b96 : ∀  (H : Heap) (locs : List Loc) (ls : Array Slot), lv_has ls 8 [(0, .ref mm), (1, .int j58_s0), (2, .int j76_s0)] → va_P D vwCl [(mm, .inr (16, fs_mm)), (utape, .inl (ct 1, 2000, .inl g_utape))] H → va_D A [(mm, .inr (16, fs_mm)), (utape, .inl (ct 1, 2000, .inl g_utape))] → va_S A s.heap H locs → W p l e ({ frames := 2, cells := 0, slots := 0, locals := 41 }) s m [.ref mm].toArray below meth c H locs 0 0 Q (F0 m 96 ls []) := by
          intro  H locs ls  hl hP hD hS
          refine lv_lconst (v := 0) hx hb dX16_number_96 (by decide) ?_
          refine lv_lstore_n (lv' := [(3, .long 0), (0, .ref mm), (1, .int j58_s0), (2, .int j76_s0)]) hx hb dX16_number_97 rfl hl (by decide) rfl (fun ls hl => ?_)
          refine lv_iload_n hx hb dX16_number_98 rfl (lv_at hl 3 rfl) ?_
          refine lv_istore (lv' := [(5, .int j76_s0), (3, .long 0), (0, .ref mm), (1, .int j58_s0), (2, .int j76_s0)]) hx hb dX16_number_99 hl (by decide) rfl (fun ls hl => ?_)
          have b101 : ∀ (n101 : Nat) (j101_l3 : Int64) (j101_l5 : Int32) (H : Heap) (locs : List Loc) (ls : Array Slot), (rl j101_l3 0 4294967296) → (rg j101_l5 0 2001) → (FF (x_mm_5.toInt ≠ 0)) → ((2147483647 : Int) - j101_l5.toInt).toNat < n101 → lv_has ls 8 [(0, .ref mm), (1, .int j58_s0), (3, .long j101_l3), (5, .int j101_l5)] → va_P D vwCl [(mm, .inr (16, fs_mm)), (utape, .inl (ct 1, 2000, .inl g_utape))] H → va_D A [(mm, .inr (16, fs_mm)), (utape, .inl (ct 1, 2000, .inl g_utape))] → va_S A s.heap H locs → W p l e ({ frames := 2, cells := 0, slots := 0, locals := 41 }) s m [.ref mm].toArray below meth c H locs 0 0 Q (F0 m 101 ls []) := by
            intro n101
            induction n101 with
            | zero => intros; rename_i hms _ _ _ _; exact absurd hms (Nat.not_lt_zero _)
            | succ n101 ih101 =>
              intro j101_l3 j101_l5 H locs ls r101_1001 r101_1002 hi101_1003 hms101 hl hP hD hS
              refine lv_iload hx hb dX16_number_101 (lv_at hl 3 rfl) ?_
              refine lv_aload_n hx hb dX16_number_103 rfl (lv_at hl 0 rfl) ?_
              refine va_get (D := D) (ci := 16) (v := .int x_mm_7) (C := RX16) (T := TX16) (N := 78) hx hb (htX16 hn) (fun _ h => h) hown hK hP 0 rfl rfl 7 (by decide) (hn.get mw_1546 rfl) (fun _ h9 => h9) hf_mm_7 dX16_number_104 ?_
              refine lv_icmp_ge (tgt := 208) hx hb dX16_number_107 (by decide) (fun c107_1 => ?_) (fun c107_1 => ?_)
              · have t107_2 := FF.mk (i_le c107_1)
                refine lv_lload_n hx hb dX16_number_208 rfl (lv_at hl 2 rfl) ?_
                refine lv_ldc2 (v := 4294967295) hx hb hown (hn.get mw_1820 rfl) dX16_number_209 ?_
                refine W.lcmp hx hb dX16_number_212 ?_
                refine lv_topi (fun z212_1 ez212_1 => ?_)
                refine lv_if_le (tgt := 222) hx hb dX16_number_213 (by decide) (fun c213_1 => ?_) (fun c213_1 => ?_)
                · have t213_2 := FF.mk (l_le ez212_1 c213_1)
                  have r213_3 : rl j101_l3 0 4294967295 := rl_leA t213_2 r101_1001 (show rl (4294967295 : Int64) 4294967295 4294967295 from rl_l (by decide)) (by decide)
                  refine lv_lload_n hx hb dX16_number_222 rfl (lv_at hl 2 rfl) ?_
                  exact endq_l hQ hx hb hr hlocks dX16_number_223 () ⟨(rl_w r213_3 (by decide)), (show 0 ≤ j101_l3.toInt → x_mm_5.toInt ≠ 0 by have q0 := FF.out t5_2; have q1 := (show (1 : Int32).toInt = 1 from by decide); omega)⟩ hP hD hS [0, 1] rfl (by decide) rfl (Nat.le_of_ble_eq_true rfl) (Nat.le_of_ble_eq_true rfl)
                · have t213_2 := FF.mk (l_nle ez212_1 c213_1)
                  have r213_3 : rl j101_l3 4294967296 4294967296 := rl_ltB t213_2 (show rl (4294967295 : Int64) 4294967295 4294967295 from rl_l (by decide)) r101_1001 (by decide)
                  refine lv_ldc2 (v := (-1)) hx hb hown (hn.get mw_1798 rfl) dX16_number_216 ?_
                  refine lv_goto (tgt := 223) hx hb dX16_number_219 (by decide) ?_
                  exact endq_l hQ hx hb hr hlocks dX16_number_223 () ⟨(rl_w (show rl ((-1) : Int64) (-1) (-1) from rl_l (by decide)) (by decide)), (show 0 ≤ (-1 : Int64).toInt → x_mm_5.toInt ≠ 0 by have q0 := (show (-1 : Int64).toInt = -1 from by decide); omega)⟩ hP hD hS [0, 1] rfl (by decide) rfl (Nat.le_of_ble_eq_true rfl) (Nat.le_of_ble_eq_true rfl)
              · have t107_2 := FF.mk (i_nle c107_1)
                have r107_3 : rg j101_l5 0 2000 := rg_ltA t107_2 r101_1002 h_x_mm_7 (by decide)
                have r107_4 : rg x_mm_7 1 2001 := rg_ltB t107_2 r101_1002 h_x_mm_7 (by decide)
                refine lv_aload_n hx hb dX16_number_110 rfl (lv_at hl 0 rfl) ?_
                refine va_get (D := D) (ci := 16) (v := .ref utape) (C := RX16) (T := TX16) (N := 78) hx hb (htX16 hn) (fun _ h => h) hown hK hP 0 rfl rfl 0 (by decide) (hn.get mw_1539 rfl) (fun _ h9 => h9) hf_mm_0 dX16_number_111 ?_
                refine lv_iload hx hb dX16_number_114 (lv_at hl 3 rfl) ?_
                have hi116_1 : vp_in j101_l5 2000 := (in_of (show 0 ≤ j101_l5.toInt ∧ j101_l5.toInt < 2000 by have q0 := r107_3.1; have q1 := FF.out hq0; have q2 := FF.out t107_2; omega))
                refine va_iald hx hb hK hP 1 1 rfl rfl hi116_1 dX16_number_116 ?_
                refine lv_topi (fun z116_2 ez116_2 => ?_)
                have r116_3 : rg z116_2 0 255 := Rg_at h_g_utape hi116_1 ez116_2
                refine lv_istore (lv' := [(6, .int z116_2), (0, .ref mm), (1, .int j58_s0), (3, .long j101_l3), (5, .int j101_l5)]) hx hb dX16_number_117 hl (by decide) rfl (fun ls hl => ?_)
                refine lv_iload hx hb dX16_number_119 (lv_at hl 0 rfl) ?_
                refine go_i (k1 := 0) (n1 := 0) (wr := [(mm, .inr (16, fs_mm)), (utape, .inl (ct 1, 2000, .inl g_utape))]) [] [0, 1] (rn_S (As := [.int z116_2]) (rest := []) (c_X16_isDigit l D ct z116_2  _) (cb_of (n := 1) hn mw_1923 mw_13 mw_1921 mhX16_isDigit ⟨(Nat.le_of_ble_eq_true rfl), (Nat.le_of_ble_eq_true rfl)⟩) hx hb hml hown hn hK hSK hZ hS mw_1922 rfl hl.1 (Nat.le_of_ble_eq_true rfl) dX16_number_121 ⟨(Nat.le_of_ble_eq_true rfl), (Nat.le_of_ble_eq_true rfl)⟩) hP hD hS hA rfl rfl (by decide) (by decide) (by decide) (Nat.le_of_ble_eq_true rfl) (Nat.le_of_ble_eq_true rfl) (fun r121_1 u121_2 H locs hp121_3 hP hD hS => ?_)
                have hp121_4 := hp121_3
                have hp121_4 : rg r121_1 0 1 := hp121_4
                have hP : va_P D vwCl [(mm, .inr (16, fs_mm)), (utape, .inl (ct 1, 2000, .inl g_utape))] _ := hP
                have hD : va_D A [(mm, .inr (16, fs_mm)), (utape, .inl (ct 1, 2000, .inl g_utape))] := hD
                have b165 : ∀ (j165_s0 : Int32) (H : Heap) (locs : List Loc) (ls : Array Slot), (rg j165_s0 (-48) 207) → lv_has ls 8 [(0, .ref mm), (1, .int j58_s0), (3, .long j101_l3), (5, .int j101_l5)] → va_P D vwCl [(mm, .inr (16, fs_mm)), (utape, .inl (ct 1, 2000, .inl g_utape))] H → va_D A [(mm, .inr (16, fs_mm)), (utape, .inl (ct 1, 2000, .inl g_utape))] → va_S A s.heap H locs → W p l e ({ frames := 2, cells := 0, slots := 0, locals := 41 }) s m [.ref mm].toArray below meth c H locs 0 0 Q (F0 m 165 ls [.int j165_s0]) := by
                  intro j165_s0 H locs ls r165_1001 hl hP hD hS
                  refine lv_istore (lv' := [(7, .int j165_s0), (0, .ref mm), (1, .int j58_s0), (3, .long j101_l3), (5, .int j101_l5)]) hx hb dX16_number_165 hl (by decide) rfl (fun ls hl => ?_)
                  refine lv_iload hx hb dX16_number_167 (lv_at hl 0 rfl) ?_
                  refine lv_if_ge (tgt := 176) hx hb dX16_number_169 (by decide) (fun c169_1 => ?_) (fun c169_1 => ?_)
                  · have t169_2 := FF.mk (i_le c169_1)
                    have r169_3 : rg j165_s0 0 207 := rg_leB t169_2 (show rg (0 : Int32) 0 0 from rg_l (by decide)) r165_1001 (by decide)
                    refine lv_ldc2 (v := 4294967296) hx hb hown (hn.get mw_2082 rfl) dX16_number_176 ?_
                    refine lv_lload_n hx hb dX16_number_179 rfl (lv_at hl 3 rfl) ?_
                    refine lv_iload_n hx hb dX16_number_180 rfl (lv_at hl 2 rfl) ?_
                    have b193 : ∀ (j193_s0 : Int64) (H : Heap) (locs : List Loc) (ls : Array Slot), (rl j193_s0 10 16) → lv_has ls 8 [(0, .ref mm), (1, .int j58_s0), (5, .int j101_l5), (7, .int j165_s0)] → va_P D vwCl [(mm, .inr (16, fs_mm)), (utape, .inl (ct 1, 2000, .inl g_utape))] H → va_D A [(mm, .inr (16, fs_mm)), (utape, .inl (ct 1, 2000, .inl g_utape))] → va_S A s.heap H locs → W p l e ({ frames := 2, cells := 0, slots := 0, locals := 41 }) s m [.ref mm].toArray below meth c H locs 0 0 Q (F0 m 193 ls [.long j193_s0, .long j101_l3, .long 4294967296]) := by
                      intro j193_s0 H locs ls r193_1001 hl hP hD hS
                      refine lv_lmul hx hb dX16_number_193 ?_
                      refine lv_topl (fun z193_1 ez193_1 => ?_)
                      have r193_2 : rl z193_1 0 68719476736 := rgL_mul ez193_1 r101_1001 r193_1001 (by decide)
                      refine lv_iload hx hb dX16_number_194 (lv_at hl 3 rfl) ?_
                      refine lv_i2l hx hb dX16_number_196 rfl ?_
                      refine lv_topl (fun z196_1 ez196_1 => ?_)
                      have r196_2 : rl z196_1 0 207 := rl_i2l ez196_1 r169_3
                      refine lv_ladd hx hb dX16_number_197 ?_
                      refine lv_topl (fun z197_1 ez197_1 => ?_)
                      have r197_2 : rl z197_1 0 68719476943 := rgL_add ez197_1 r193_2 r196_2 (by decide)
                      refine va_mmin_long hx hb (hml.trans hl.1.symm) hown (hn.get mw_2085 rfl) (hn.get mw_2086 rfl) (hn.get mw_24 rfl) (hn.get mw_2087 rfl) (Nat.le_of_ble_eq_true rfl) (Nat.le_of_ble_eq_true rfl) (Nat.le_of_ble_eq_true rfl) (Nat.le_of_ble_eq_true rfl) dX16_number_198 ?_
                      refine lv_topl (fun z198_1 ez198_1 => ?_)
                      have hm198_2 := FF.mk (mn_f ez198_1)
                      have r198_3 : rl z198_1 0 4294967296 := (rl_of (show 0 ≤ z198_1.toInt ∧ z198_1.toInt ≤ 4294967296 by have q0 := (eqL_add ez197_1 r193_2 r196_2 (by decide)); have q1 := (eq_i2l ez196_1); have q2 := r193_2.1; have q3 := FF.out t169_2; have q4 := FF.out hm198_2; have q5 := (show (0 : Int32).toInt = 0 from by decide); have q6 := (show (4294967296 : Int64).toInt = 4294967296 from by decide); omega))
                      refine lv_lstore_n (lv' := [(3, .long z198_1), (0, .ref mm), (1, .int j58_s0), (5, .int j101_l5), (7, .int j165_s0)]) hx hb dX16_number_201 rfl hl (by decide) rfl (fun ls hl => ?_)
                      obtain ⟨x202_1, ex202_1⟩ : ∃ z : Int32, z = j101_l5 + 1 := ⟨_, rfl⟩
                      have r202_2 : rg x202_1 1 2001 := rg_add ex202_1 r107_3 (show rg (1 : Int32) 1 1 from rg_l (by decide)) (by decide)
                      refine lv_iinc (v := x202_1) (lv' := [(5, .int x202_1), (3, .long z198_1), (0, .ref mm), (1, .int j58_s0), (7, .int j165_s0)]) hx hb dX16_number_202 hl (k := 3) rfl (by rw [ex202_1]; rfl) (by decide) rfl (fun ls hl => ?_)
                      refine lv_goto (tgt := 101) hx hb dX16_number_205 (by decide) ?_
                      exact ih101 z198_1 x202_1 H locs ls r198_3 (rg_w r202_2 (by decide)) (show x_mm_5.toInt ≠ 0 by have q0 := r5_3.1; omega) (show ((2147483647 : Int) - x202_1.toInt).toNat < n101 by have q0 := r107_3.2; have q1 := (eq_add ex202_1 r107_3 (show rg (1 : Int32) 1 1 from rg_l (by decide)) (by decide)); have q2 := (show (1 : Int32).toInt = 1 from by decide); have q3 := hms101; omega) (lv_sub hl [2, 3, 1, 0] rfl) hP hD hS
                    refine lv_if_eq (tgt := 190) hx hb dX16_number_181 (by decide) (fun c181_1 => ?_) (fun c181_1 => ?_)
                    · have t181_2 := FF.mk (i_eq c181_1)
                      have r181_3 : rg j58_s0 0 0 := rg_eqA t181_2 r58_1001 (show rg (0 : Int32) 0 0 from rg_l (by decide)) (by decide)
                      refine lv_ldc2 (v := 10) hx hb hown (hn.get mw_2084 rfl) dX16_number_190 ?_
                      exact b193 (10 : Int64) H locs ls (rl_w (show rl (10 : Int64) 10 10 from rl_l (by decide)) (by decide)) (lv_sub hl [1, 2, 4, 0] rfl) hP hD hS
                    · have t181_2 := FF.mk (i_ne c181_1)
                      have r181_3 : rg j58_s0 1 1 := rg_neAl t181_2 r58_1001 (show rg (0 : Int32) 0 0 from rg_l (by decide)) (by decide)
                      refine lv_ldc2 (v := 16) hx hb hown (hn.get mw_2083 rfl) dX16_number_184 ?_
                      refine lv_goto (tgt := 193) hx hb dX16_number_187 (by decide) ?_
                      exact b193 (16 : Int64) H locs ls (rl_w (show rl (16 : Int64) 16 16 from rl_l (by decide)) (by decide)) (lv_sub hl [1, 2, 4, 0] rfl) hP hD hS
                  · have t169_2 := FF.mk (i_nle c169_1)
                    have r169_3 : rg j165_s0 (-48) (-1) := rg_ltA t169_2 r165_1001 (show rg (0 : Int32) 0 0 from rg_l (by decide)) (by decide)
                    refine lv_ldc2 (v := (-1)) hx hb hown (hn.get mw_1798 rfl) dX16_number_172 ?_
                    exact endq_l hQ hx hb hr hlocks dX16_number_175 () ⟨(rl_w (show rl ((-1) : Int64) (-1) (-1) from rl_l (by decide)) (by decide)), (show 0 ≤ (-1 : Int64).toInt → x_mm_5.toInt ≠ 0 by have q0 := (show (-1 : Int64).toInt = -1 from by decide); omega)⟩ hP hD hS [0, 1] rfl (by decide) rfl (Nat.le_of_ble_eq_true rfl) (Nat.le_of_ble_eq_true rfl)
                refine lv_if_eq (tgt := 135) hx hb dX16_number_124 (by decide) (fun c124_1 => ?_) (fun c124_1 => ?_)
                · have t124_2 := FF.mk (i_eq c124_1)
                  have r124_3 : rg r121_1 0 0 := rg_eqA t124_2 hp121_4 (show rg (0 : Int32) 0 0 from rg_l (by decide)) (by decide)
                  refine lv_iload_n hx hb dX16_number_135 rfl (lv_at hl 2 rfl) ?_
                  have b164 : ∀  (H : Heap) (locs : List Loc) (ls : Array Slot), lv_has ls 8 [(0, .ref mm), (1, .int j58_s0), (3, .long j101_l3), (5, .int j101_l5)] → va_P D vwCl [(mm, .inr (16, fs_mm)), (utape, .inl (ct 1, 2000, .inl g_utape))] H → va_D A [(mm, .inr (16, fs_mm)), (utape, .inl (ct 1, 2000, .inl g_utape))] → va_S A s.heap H locs → W p l e ({ frames := 2, cells := 0, slots := 0, locals := 41 }) s m [.ref mm].toArray below meth c H locs 0 0 Q (F0 m 164 ls []) := by
                    intro  H locs ls  hl hP hD hS
                    refine lv_iconst (v := (-1)) hx hb dX16_number_164 (by decide) ?_
                    exact b165 ((-1) : Int32) H locs ls (rg_w (show rg ((-1) : Int32) (-1) (-1) from rg_l (by decide)) (by decide)) (lv_sub hl [0, 1, 2, 3] rfl) hP hD hS
                  refine lv_if_eq (tgt := 164) hx hb dX16_number_136 (by decide) (fun c136_1 => ?_) (fun c136_1 => ?_)
                  · have t136_2 := FF.mk (i_eq c136_1)
                    have r136_3 : rg j58_s0 0 0 := rg_eqA t136_2 r58_1001 (show rg (0 : Int32) 0 0 from rg_l (by decide)) (by decide)
                    exact b164  H locs ls  (lv_sub hl [1, 2, 3, 4] rfl) hP hD hS
                  · have t136_2 := FF.mk (i_ne c136_1)
                    have r136_3 : rg j58_s0 1 1 := rg_neAl t136_2 r58_1001 (show rg (0 : Int32) 0 0 from rg_l (by decide)) (by decide)
                    refine lv_iload hx hb dX16_number_139 (lv_at hl 0 rfl) ?_
                    refine lv_bipush (v := 97) hx hb dX16_number_141 (by decide) ?_
                    refine lv_icmp_lt (tgt := 164) hx hb dX16_number_143 (by decide) (fun c143_1 => ?_) (fun c143_1 => ?_)
                    · have t143_2 := FF.mk (i_lt c143_1)
                      have r143_3 : rg z116_2 0 96 := rg_ltA t143_2 r116_3 (show rg (97 : Int32) 97 97 from rg_l (by decide)) (by decide)
                      exact b164  H locs ls  (lv_sub hl [1, 2, 3, 4] rfl) hP hD hS
                    · have t143_2 := FF.mk (i_nlt c143_1)
                      have r143_3 : rg z116_2 97 255 := rg_leB t143_2 (show rg (97 : Int32) 97 97 from rg_l (by decide)) r116_3 (by decide)
                      refine lv_iload hx hb dX16_number_146 (lv_at hl 0 rfl) ?_
                      refine lv_bipush (v := 102) hx hb dX16_number_148 (by decide) ?_
                      refine lv_icmp_gt (tgt := 164) hx hb dX16_number_150 (by decide) (fun c150_1 => ?_) (fun c150_1 => ?_)
                      · have t150_2 := FF.mk (i_lt c150_1)
                        have r150_3 : rg z116_2 103 255 := rg_ltB t150_2 (show rg (102 : Int32) 102 102 from rg_l (by decide)) r143_3 (by decide)
                        exact b164  H locs ls  (lv_sub hl [1, 2, 3, 4] rfl) hP hD hS
                      · have t150_2 := FF.mk (i_nlt c150_1)
                        have r150_3 : rg z116_2 97 102 := rg_leA t150_2 r143_3 (show rg (102 : Int32) 102 102 from rg_l (by decide)) (by decide)
                        refine lv_iload hx hb dX16_number_153 (lv_at hl 0 rfl) ?_
                        refine lv_bipush (v := 97) hx hb dX16_number_155 (by decide) ?_
                        refine lv_isub hx hb dX16_number_157 ?_
                        refine lv_topi (fun z157_1 ez157_1 => ?_)
                        have r157_2 : rg z157_1 0 5 := rg_sub ez157_1 r150_3 (show rg (97 : Int32) 97 97 from rg_l (by decide)) (by decide)
                        refine lv_bipush (v := 10) hx hb dX16_number_158 (by decide) ?_
                        refine lv_iadd hx hb dX16_number_160 ?_
                        refine lv_topi (fun z160_1 ez160_1 => ?_)
                        have r160_2 : rg z160_1 10 15 := rg_add ez160_1 r157_2 (show rg (10 : Int32) 10 10 from rg_l (by decide)) (by decide)
                        refine lv_goto (tgt := 165) hx hb dX16_number_161 (by decide) ?_
                        exact b165 z160_1 H locs ls (rg_w r160_2 (by decide)) (lv_sub hl [1, 2, 3, 4] rfl) hP hD hS
                · have t124_2 := FF.mk (i_ne c124_1)
                  have r124_3 : rg r121_1 1 1 := rg_neAl t124_2 hp121_4 (show rg (0 : Int32) 0 0 from rg_l (by decide)) (by decide)
                  refine lv_iload hx hb dX16_number_127 (lv_at hl 0 rfl) ?_
                  refine lv_bipush (v := 48) hx hb dX16_number_129 (by decide) ?_
                  refine lv_isub hx hb dX16_number_131 ?_
                  refine lv_topi (fun z131_1 ez131_1 => ?_)
                  have r131_2 : rg z131_1 (-48) 207 := rg_sub ez131_1 r116_3 (show rg (48 : Int32) 48 48 from rg_l (by decide)) (by decide)
                  refine lv_goto (tgt := 165) hx hb dX16_number_132 (by decide) ?_
                  exact b165 z131_1 H locs ls r131_2 (lv_sub hl [1, 2, 3, 4] rfl) hP hD hS
          exact b101 _ (0 : Int64) j76_s0 H locs ls (rl_w (show rl (0 : Int64) 0 0 from rl_l (by decide)) (by decide)) (rg_of (show 0 ≤ j76_s0.toInt ∧ j76_s0.toInt ≤ 2001 by have q0 := r76_1001.1; have q1 := r5_3.1; have q2 := FF.out hq0; have q3 := FF.out hq3; have q4 := FF.out ho76_1002; omega)) (show x_mm_5.toInt ≠ 0 by have q0 := r5_3.1; omega) (Nat.lt_succ_self _) (lv_sub hl [2, 3, 1, 0] rfl) hP hD hS
        refine lv_if_eq (tgt := 96) hx hb dX16_number_78 (by decide) (fun c78_1 => ?_) (fun c78_1 => ?_)
        · have t78_2 := FF.mk (i_eq c78_1)
          have r78_3 : rg j58_s0 0 0 := rg_eqA t78_2 r58_1001 (show rg (0 : Int32) 0 0 from rg_l (by decide)) (by decide)
          exact b96  H locs ls  (lv_sub hl [1, 2, 0] rfl) hP hD hS
        · have t78_2 := FF.mk (i_ne c78_1)
          have r78_3 : rg j58_s0 1 1 := rg_neAl t78_2 r58_1001 (show rg (0 : Int32) 0 0 from rg_l (by decide)) (by decide)
          refine lv_aload_n hx hb dX16_number_81 rfl (lv_at hl 1 rfl) ?_
          refine va_get (D := D) (ci := 16) (v := .int x_mm_7) (C := RX16) (T := TX16) (N := 78) hx hb (htX16 hn) (fun _ h => h) hown hK hP 0 rfl rfl 7 (by decide) (hn.get mw_1546 rfl) (fun _ h9 => h9) hf_mm_7 dX16_number_82 ?_
          refine lv_iload_n hx hb dX16_number_85 rfl (lv_at hl 0 rfl) ?_
          refine lv_isub hx hb dX16_number_86 ?_
          refine lv_topi (fun z86_1 ez86_1 => ?_)
          have r86_2 : rg z86_1 (-2002) 2001 := rg_sub ez86_1 h_x_mm_7 r76_1001 (by decide)
          refine lv_bipush (v := 8) hx hb dX16_number_87 (by decide) ?_
          refine lv_icmp_le (tgt := 96) hx hb dX16_number_89 (by decide) (fun c89_1 => ?_) (fun c89_1 => ?_)
          · have t89_2 := FF.mk (i_le c89_1)
            have r89_3 : rg z86_1 (-2002) 8 := rg_leA t89_2 r86_2 (show rg (8 : Int32) 8 8 from rg_l (by decide)) (by decide)
            exact b96  H locs ls  (lv_sub hl [1, 2, 0] rfl) hP hD hS
          · have t89_2 := FF.mk (i_nle c89_1)
            have r89_3 : rg z86_1 9 2001 := rg_ltB t89_2 (show rg (8 : Int32) 8 8 from rg_l (by decide)) r86_2 (by decide)
            refine lv_ldc2 (v := (-1)) hx hb hown (hn.get mw_1798 rfl) dX16_number_92 ?_
            exact endq_l hQ hx hb hr hlocks dX16_number_95 () ⟨(rl_w (show rl ((-1) : Int64) (-1) (-1) from rl_l (by decide)) (by decide)), (show 0 ≤ (-1 : Int64).toInt → x_mm_5.toInt ≠ 0 by have q0 := (show (-1 : Int64).toInt = -1 from by decide); omega)⟩ hP hD hS [0, 1] rfl (by decide) rfl (Nat.le_of_ble_eq_true rfl) (Nat.le_of_ble_eq_true rfl)
      refine lv_if_eq (tgt := 72) hx hb dX16_number_60 (by decide) (fun c60_1 => ?_) (fun c60_1 => ?_)
      · have t60_2 := FF.mk (i_eq c60_1)
        have r60_3 : rg j58_s0 0 0 := rg_eqA t60_2 r58_1001 (show rg (0 : Int32) 0 0 from rg_l (by decide)) (by decide)
        refine lv_aload_n hx hb dX16_number_72 rfl (lv_at hl 1 rfl) ?_
        refine va_get (D := D) (ci := 16) (v := .int x_mm_6) (C := RX16) (T := TX16) (N := 78) hx hb (htX16 hn) (fun _ h => h) hown hK hP 0 rfl rfl 6 (by decide) (hn.get mw_1545 rfl) (fun _ h9 => h9) hf_mm_6 dX16_number_73 ?_
        exact b76 x_mm_6 H locs ls (rg_w h_x_mm_6 (by decide)) (show x_mm_6.toInt ≤ x_mm_6.toInt ∧ x_mm_6.toInt ≤ x_mm_6.toInt + 2 by omega) (lv_sub hl [1, 0] rfl) hP hD hS
      · have t60_2 := FF.mk (i_ne c60_1)
        have r60_3 : rg j58_s0 1 1 := rg_neAl t60_2 r58_1001 (show rg (0 : Int32) 0 0 from rg_l (by decide)) (by decide)
        refine lv_aload_n hx hb dX16_number_63 rfl (lv_at hl 1 rfl) ?_
        refine va_get (D := D) (ci := 16) (v := .int x_mm_6) (C := RX16) (T := TX16) (N := 78) hx hb (htX16 hn) (fun _ h => h) hown hK hP 0 rfl rfl 6 (by decide) (hn.get mw_1545 rfl) (fun _ h9 => h9) hf_mm_6 dX16_number_64 ?_
        refine lv_iconst (v := 2) hx hb dX16_number_67 (by decide) ?_
        refine lv_iadd hx hb dX16_number_68 ?_
        refine lv_topi (fun z68_1 ez68_1 => ?_)
        have r68_2 : rg z68_1 2 2002 := rg_add ez68_1 h_x_mm_6 (show rg (2 : Int32) 2 2 from rg_l (by decide)) (by decide)
        refine lv_goto (tgt := 76) hx hb dX16_number_69 (by decide) ?_
        exact b76 z68_1 H locs ls (rg_w r68_2 (by decide)) (show x_mm_6.toInt ≤ z68_1.toInt ∧ z68_1.toInt ≤ x_mm_6.toInt + 2 by have q0 := (eq_add ez68_1 h_x_mm_6 (show rg (2 : Int32) 2 2 from rg_l (by decide)) (by decide)); have q1 := (show (2 : Int32).toInt = 2 from by decide); omega) (lv_sub hl [1, 0] rfl) hP hD hS
    have b57 : ∀  (H : Heap) (locs : List Loc) (ls : Array Slot), lv_has ls 8 [(0, .ref mm)] → va_P D vwCl [(mm, .inr (16, fs_mm)), (utape, .inl (ct 1, 2000, .inl g_utape))] H → va_D A [(mm, .inr (16, fs_mm)), (utape, .inl (ct 1, 2000, .inl g_utape))] → va_S A s.heap H locs → W p l e ({ frames := 2, cells := 0, slots := 0, locals := 41 }) s m [.ref mm].toArray below meth c H locs 0 0 Q (F0 m 57 ls []) := by
      intro  H locs ls  hl hP hD hS
      refine lv_iconst (v := 0) hx hb dX16_number_57 (by decide) ?_
      exact b58 (0 : Int32) H locs ls (rg_w (show rg (0 : Int32) 0 0 from rg_l (by decide)) (by decide)) (lv_sub hl [0] rfl) hP hD hS
    refine lv_icmp_le (tgt := 57) hx hb dX16_number_22 (by decide) (fun c22_1 => ?_) (fun c22_1 => ?_)
    · have t22_2 := FF.mk (i_le c22_1)
      have r22_3 : rg z20_1 (-2000) 2 := rg_leA t22_2 r20_2 (show rg (2 : Int32) 2 2 from rg_l (by decide)) (by decide)
      exact b57  H locs ls  (lv_sub hl [0] rfl) hP hD hS
    · have t22_2 := FF.mk (i_nle c22_1)
      have r22_3 : rg z20_1 3 2001 := rg_ltB t22_2 (show rg (2 : Int32) 2 2 from rg_l (by decide)) r20_2 (by decide)
      refine lv_aload_n hx hb dX16_number_25 rfl (lv_at hl 0 rfl) ?_
      refine lv_aload_n hx hb dX16_number_26 rfl (lv_at hl 0 rfl) ?_
      refine va_get (D := D) (ci := 16) (v := .int x_mm_6) (C := RX16) (T := TX16) (N := 78) hx hb (htX16 hn) (fun _ h => h) hown hK hP 0 rfl rfl 6 (by decide) (hn.get mw_1545 rfl) (fun _ h9 => h9) hf_mm_6 dX16_number_27 ?_
      refine go_i (k1 := 0) (n1 := 0) (wr := []) [0, 1] [] (rn_V (As := [.int x_mm_6]) (rest := []) (c_X16_at_t l D ct mm x_mm_6 fs_mm utape x_mm_8 g_utape (rg_w h_x_mm_6 (by decide)) hlen_mm hf_mm_0 h_x_mm_8 hf_mm_8 h_g_utape _) (cb_of (n := 1) hn mw_1920 mw_13 mw_1917 mhX16_at ⟨(Nat.le_of_ble_eq_true rfl), (Nat.le_of_ble_eq_true rfl)⟩) hx hb hml hown hn hK hSK hZ hS mw_1919 mw_s181 (ci := 16) (q0 := 0) rfl rfl rfl rfl hl.1 (Nat.le_of_ble_eq_true rfl) dX16_number_30 ⟨(Nat.le_of_ble_eq_true rfl), (Nat.le_of_ble_eq_true rfl)⟩) hP hD hS hA rfl rfl (by decide) (by decide) (by decide) (Nat.le_of_ble_eq_true rfl) (Nat.le_of_ble_eq_true rfl) (fun r30_1 u30_2 H locs hp30_3 hP hD hS => ?_)
      obtain ⟨hp30_4, hp30_5, hp30_6⟩ := hp30_3
      have hp30_4 : rg r30_1 0 255 := hp30_4
      replace hp30_5 : FF (x_mm_6.toInt < x_mm_8.toInt → r30_1.toInt = (g_utape x_mm_6.toNatClampNeg).toInt) := hp30_5
      replace hp30_6 : FF (x_mm_8.toInt ≤ x_mm_6.toInt → r30_1.toInt = 0) := hp30_6
      have hP : va_P D vwCl [(mm, .inr (16, fs_mm)), (utape, .inl (ct 1, 2000, .inl g_utape))] _ := hP
      have hD : va_D A [(mm, .inr (16, fs_mm)), (utape, .inl (ct 1, 2000, .inl g_utape))] := hD
      refine lv_bipush (v := 48) hx hb dX16_number_33 (by decide) ?_
      refine lv_icmp_ne (tgt := 57) hx hb dX16_number_35 (by decide) (fun c35_1 => ?_) (fun c35_1 => ?_)
      · have t35_2 := FF.mk (i_ne c35_1)
        exact b57  H locs ls  (lv_sub hl [0] rfl) hP hD hS
      · have t35_2 := FF.mk (i_eq c35_1)
        have r35_3 : rg r30_1 48 48 := rg_eqA t35_2 hp30_4 (show rg (48 : Int32) 48 48 from rg_l (by decide)) (by decide)
        refine lv_aload_n hx hb dX16_number_38 rfl (lv_at hl 0 rfl) ?_
        refine lv_aload_n hx hb dX16_number_39 rfl (lv_at hl 0 rfl) ?_
        refine va_get (D := D) (ci := 16) (v := .int x_mm_6) (C := RX16) (T := TX16) (N := 78) hx hb (htX16 hn) (fun _ h => h) hown hK hP 0 rfl rfl 6 (by decide) (hn.get mw_1545 rfl) (fun _ h9 => h9) hf_mm_6 dX16_number_40 ?_
        refine lv_iconst (v := 1) hx hb dX16_number_43 (by decide) ?_
        refine lv_iadd hx hb dX16_number_44 ?_
        refine lv_topi (fun z44_1 ez44_1 => ?_)
        have r44_2 : rg z44_1 1 2001 := rg_add ez44_1 h_x_mm_6 (show rg (1 : Int32) 1 1 from rg_l (by decide)) (by decide)
        refine go_i (k1 := 0) (n1 := 0) (wr := []) [0, 1] [] (rn_V (As := [.int z44_1]) (rest := []) (c_X16_at_t l D ct mm z44_1 fs_mm utape x_mm_8 g_utape (rg_w r44_2 (by decide)) hlen_mm hf_mm_0 h_x_mm_8 hf_mm_8 h_g_utape _) (cb_of (n := 1) hn mw_1920 mw_13 mw_1917 mhX16_at ⟨(Nat.le_of_ble_eq_true rfl), (Nat.le_of_ble_eq_true rfl)⟩) hx hb hml hown hn hK hSK hZ hS mw_1919 mw_s181 (ci := 16) (q0 := 0) rfl rfl rfl rfl hl.1 (Nat.le_of_ble_eq_true rfl) dX16_number_45 ⟨(Nat.le_of_ble_eq_true rfl), (Nat.le_of_ble_eq_true rfl)⟩) hP hD hS hA rfl rfl (by decide) (by decide) (by decide) (Nat.le_of_ble_eq_true rfl) (Nat.le_of_ble_eq_true rfl) (fun r45_1 u45_2 H locs hp45_3 hP hD hS => ?_)
        obtain ⟨hp45_4, hp45_5, hp45_6⟩ := hp45_3
        have hp45_4 : rg r45_1 0 255 := hp45_4
        replace hp45_5 : FF (z44_1.toInt < x_mm_8.toInt → r45_1.toInt = (g_utape z44_1.toNatClampNeg).toInt) := hp45_5
        replace hp45_6 : FF (x_mm_8.toInt ≤ z44_1.toInt → r45_1.toInt = 0) := hp45_6
        have hP : va_P D vwCl [(mm, .inr (16, fs_mm)), (utape, .inl (ct 1, 2000, .inl g_utape))] _ := hP
        have hD : va_D A [(mm, .inr (16, fs_mm)), (utape, .inl (ct 1, 2000, .inl g_utape))] := hD
        refine lv_bipush (v := 120) hx hb dX16_number_48 (by decide) ?_
        refine lv_icmp_ne (tgt := 57) hx hb dX16_number_50 (by decide) (fun c50_1 => ?_) (fun c50_1 => ?_)
        · have t50_2 := FF.mk (i_ne c50_1)
          exact b57  H locs ls  (lv_sub hl [0] rfl) hP hD hS
        · have t50_2 := FF.mk (i_eq c50_1)
          have r50_3 : rg r45_1 120 120 := rg_eqA t50_2 hp45_4 (show rg (120 : Int32) 120 120 from rg_l (by decide)) (by decide)
          refine lv_iconst (v := 1) hx hb dX16_number_53 (by decide) ?_
          refine lv_goto (tgt := 58) hx hb dX16_number_54 (by decide) ?_
          exact b58 (1 : Int32) H locs ls (rg_w (show rg (1 : Int32) 1 1 from rg_l (by decide)) (by decide)) (lv_sub hl [0] rfl) hP hD hS
  · have t5_2 := FF.mk (i_ne c5_1)
    refine lv_ldc2 (v := (-1)) hx hb hown (hn.get mw_1798 rfl) dX16_number_8 ?_
    exact endq_l hQ hx hb hr hlocks dX16_number_11 () ⟨(rl_w (show rl ((-1) : Int64) (-1) (-1) from rl_l (by decide)) (by decide)), (show 0 ≤ (-1 : Int64).toInt → x_mm_5.toInt ≠ 0 by have q0 := (show (-1 : Int64).toInt = -1 from by decide); omega)⟩ hP hD hS [0, 1] rfl (by decide) rfl (Nat.le_of_ble_eq_true rfl) (Nat.le_of_ble_eq_true rfl)
set_option maxHeartbeats 2000000 in
theorem c_X16_wantNumber (l : Launch) (hst : l.stackTraces = false) (D : va_G) (ct : Nat → ClassId) (mm : Nat) (v0 : Int64) (v1 : Int64) (fs_mm : List Value) (utape : Nat) (x_mm_5 : Int32) (x_mm_6 : Int32) (x_mm_7 : Int32) (x_mm_8 : Int32) (g_utape : Nat → Int32) (h_v0 : rl v0 0 4294967296) (h_v1 : rl v1 0 4294967296) (hlen_mm : fs_mm.length = 78) (hf_mm_0 : fs_mm[0]? = some (.ref utape)) (h_x_mm_5 : rg x_mm_5 0 2) (hf_mm_5 : fs_mm[5]? = some (.int x_mm_5)) (h_x_mm_6 : rg x_mm_6 0 2000) (hf_mm_6 : fs_mm[6]? = some (.int x_mm_6)) (h_x_mm_7 : rg x_mm_7 0 2001) (hf_mm_7 : fs_mm[7]? = some (.int x_mm_7)) (h_x_mm_8 : rg x_mm_8 0 2000) (hf_mm_8 : fs_mm[8]? = some (.int x_mm_8)) (h_g_utape : Rg g_utape 2000 0 255) (hq0 : x_mm_7.toInt ≤ 2000) (hq1 : x_mm_7.toInt ≤ x_mm_8.toInt) (hq2 : x_mm_6.toInt ≤ x_mm_8.toInt) (hq3 : x_mm_5.toInt ≠ 0 → x_mm_6.toInt + 1 ≤ x_mm_7.toInt) : KT (V := Int64) (S := List Value × Int32 × Int32 × Int32) (SX := List Value × Int32) l yX16_wantNumber cX16_wantNumber 7 (some .long) 9 187 D ct [.ref mm, .long v0, .long v1] [(mm, .inr (16, fs_mm)), (utape, .inl (ct 1, 2000, .inl g_utape))] 1 7 (fun r : Int64 => some (.long r)) (fun (r : Int64) (u : List Value × Int32 × Int32 × Int32) => match u with | (fs2_mm, y_mm_5, y_mm_6, y_mm_7) => rl r (-1) 4294967295 ∧ SB fs_mm fs2_mm [5, 6, 7] ∧ rg y_mm_5 0 2 ∧ fs2_mm[5]? = some (.int y_mm_5) ∧ rg y_mm_6 0 2000 ∧ fs2_mm[6]? = some (.int y_mm_6) ∧ rg y_mm_7 0 2002 ∧ fs2_mm[7]? = some (.int y_mm_7) ∧ (y_mm_7.toInt ≤ x_mm_8.toInt) ∧ (y_mm_6.toInt ≤ x_mm_8.toInt) ∧ (y_mm_5.toInt ≠ 0 → y_mm_6.toInt + 1 ≤ y_mm_7.toInt) ∧ (x_mm_7.toInt ≤ y_mm_6.toInt) ∧ (v0.toInt ≤ r.toInt ∧ r.toInt ≤ v1.toInt) ∧ (x_mm_5.toInt ≠ 0)) (fun (u : List Value × Int32 × Int32 × Int32) => match u with | (fs2_mm, y_mm_5, y_mm_6, y_mm_7) => [(mm, .inr (16, fs2_mm)), (utape, .inl (ct 1, 2000, .inl g_utape))] ++ []) (fun _ => 0) (fun _ => 0) 15 RX15 peW (fun (u : List Value × Int32) => match u with | (fs2_mm, y_mm_6) => SB fs_mm fs2_mm [5, 6, 7] ∧ rg y_mm_6 0 2000 ∧ fs2_mm[6]? = some (.int y_mm_6) ∧ fs2_mm[7]? = some (.int x_mm_7)) (fun (u : List Value × Int32) => match u with | (fs2_mm, y_mm_6) => [(mm, .inr (16, fs2_mm)), (utape, .inl (ct 1, 2000, .inl g_utape))]) := by
  refine KT_of (by decide) (Nat.le_of_ble_eq_true rfl) (fun p e s m below meth c A Q C0 htab hA H locs hS hP hD hQ ls hl => ?_)
  obtain ⟨hx, hb, hr, hown, hin, hml, hlocks, hn, hK, hZ, hSK⟩ := C0
  have hl : lv_has ls 7 [(0, .ref mm), (1, .long v0), (3, .long v1)] := hl
  replace hq0 := FF.mk hq0
  replace hq1 := FF.mk hq1
  replace hq2 := FF.mk hq2
  replace hq3 := FF.mk hq3
  refine lv_aload_n hx hb dX16_wantNumber_0 rfl (lv_at hl 0 rfl) ?_
  refine go_l (k1 := 0) (n1 := 0) (wr := []) [0, 1] [] (rn_V (As := []) (rest := []) (c_X16_number l D ct mm fs_mm utape x_mm_5 x_mm_6 x_mm_7 x_mm_8 g_utape hlen_mm hf_mm_0 h_x_mm_5 hf_mm_5 h_x_mm_6 hf_mm_6 h_x_mm_7 hf_mm_7 h_x_mm_8 hf_mm_8 h_g_utape (show x_mm_7.toInt ≤ 2000 by have q0 := FF.out hq0; omega) (show x_mm_7.toInt ≤ x_mm_8.toInt by have q0 := FF.out hq1; omega) (show x_mm_6.toInt ≤ x_mm_8.toInt by have q0 := FF.out hq2; omega) (show x_mm_5.toInt ≠ 0 → x_mm_6.toInt + 1 ≤ x_mm_7.toInt by have q0 := h_x_mm_5.1; have q1 := FF.out hq3; omega) _) (cb_of (n := 0) hn mw_2081 mw_13 mw_2078 mhX16_number ⟨(Nat.le_of_ble_eq_true rfl), (Nat.le_of_ble_eq_true rfl)⟩) hx hb hml hown hn hK hSK hZ hS mw_2080 mw_s197 (ci := 16) (q0 := 0) rfl rfl rfl rfl hl.1 (Nat.le_of_ble_eq_true rfl) dX16_wantNumber_1 ⟨(Nat.le_of_ble_eq_true rfl), (Nat.le_of_ble_eq_true rfl)⟩) hP hD hS hA rfl rfl (by decide) (by decide) (by decide) (Nat.le_of_ble_eq_true rfl) (Nat.le_of_ble_eq_true rfl) (fun r1_1 u1_2 H locs hp1_3 hP hD hS => ?_)
  obtain ⟨hp1_4, hp1_5⟩ := hp1_3
  have hp1_4 : rl r1_1 (-1) 4294967295 := hp1_4
  replace hp1_5 : FF (0 ≤ r1_1.toInt → x_mm_5.toInt ≠ 0) := hp1_5
  have hP : va_P D vwCl [(mm, .inr (16, fs_mm)), (utape, .inl (ct 1, 2000, .inl g_utape))] _ := hP
  have hD : va_D A [(mm, .inr (16, fs_mm)), (utape, .inl (ct 1, 2000, .inl g_utape))] := hD
  refine lv_lstore (lv' := [(5, .long r1_1), (0, .ref mm), (1, .long v0), (3, .long v1)]) hx hb dX16_wantNumber_4 hl (by decide) rfl (fun ls hl => ?_)
  refine lv_aload_n hx hb dX16_wantNumber_6 rfl (lv_at hl 1 rfl) ?_
  refine lv_lload hx hb dX16_wantNumber_7 (lv_at hl 0 rfl) ?_
  refine lv_lload_n hx hb dX16_wantNumber_9 rfl (lv_at hl 2 rfl) ?_
  refine W.lcmp hx hb dX16_wantNumber_10 ?_
  refine lv_topi (fun z10_1 ez10_1 => ?_)
  have b26 : ∀ (j26_s0 : Int32) (H : Heap) (locs : List Loc) (ls : Array Slot), (rg j26_s0 0 1) → (FF (j26_s0.toInt = 1 → v0.toInt ≤ r1_1.toInt ∧ r1_1.toInt ≤ v1.toInt)) → lv_has ls 7 [(0, .ref mm), (5, .long r1_1)] → va_P D vwCl [(mm, .inr (16, fs_mm)), (utape, .inl (ct 1, 2000, .inl g_utape))] H → va_D A [(mm, .inr (16, fs_mm)), (utape, .inl (ct 1, 2000, .inl g_utape))] → va_S A s.heap H locs → W p l e ({ frames := 9, cells := 1, slots := 7, locals := 187 }) s m [.ref mm, .long v0, .long v1].toArray below meth c H locs 0 0 Q (F0 m 26 ls [.int j26_s0, .ref mm]) := by
    intro j26_s0 H locs ls r26_1001 hi26_1002 hl hP hD hS
    refine gt_q (pl := []) (wr := [(utape, .inl (ct 1, 2000, .inl g_utape))]) [0] [1] (rt_V (As := [.int j26_s0]) (rest := []) (c_X16_must l hst D ct mm j26_s0 fs_mm x_mm_6 r26_1001 hlen_mm h_x_mm_6 hf_mm_6 _) (cb_of (n := 1) hn mw_1927 mw_13 mw_1924 mhX16_must ⟨(Nat.le_of_ble_eq_true rfl), (Nat.le_of_ble_eq_true rfl)⟩) hx hb hml hown hn hK hSK hZ hS mw_1926 mw_s182 (ci := 16) (q0 := 0) rfl rfl rfl rfl hl.1 (Nat.le_of_ble_eq_true rfl) dX16_wantNumber_26 ⟨(Nat.le_of_ble_eq_true rfl), (Nat.le_of_ble_eq_true rfl)⟩) (by rw [List.append_nil]; exact hP) (by rw [List.append_nil]; exact hD) hS hA rfl rfl (by decide) (by decide) (by decide) (fun xq26_4 ux26_5 xfs26_6 H locs hpx26_7 hpexfs26_6 hP hD hS => ?_) (fun r26_1 u26_2 H locs hp26_3 hP hD hS => ?_)
    · have hP : va_P D vwCl [(utape, .inl (ct 1, 2000, .inl g_utape)), (mm, .inr (16, fs_mm)), (xq26_4, .inr (15, xfs26_6))] _ := hP
      have hD : va_D A [(utape, .inl (ct 1, 2000, .inl g_utape)), (mm, .inr (16, fs_mm)), (xq26_4, .inr (15, xfs26_6))] := hD
      refine vx_widen (k := 1) (n := 7) (Nat.le_of_ble_eq_true rfl) (Nat.le_of_ble_eq_true rfl) ?_
      exact xo hQ htab hlocks hK rfl hP hD hS (fs_mm, x_mm_6) (fs := xfs26_6) ⟨(SB.rf _ _), h_x_mm_6, hf_mm_6, hf_mm_7⟩ hpexfs26_6 [1, 0, 2] (by decide) rfl (kq := 2) rfl (Nat.le_of_ble_eq_true rfl) (Nat.le_of_ble_eq_true rfl)
    have hp26_308 := hp26_3
    replace hp26_308 : FF (j26_s0.toInt = 1) := hp26_308
    rw [List.append_nil] at hP hD
    have hP : va_P D vwCl [(utape, .inl (ct 1, 2000, .inl g_utape)), (mm, .inr (16, fs_mm))] _ := hP
    have hD : va_D A [(utape, .inl (ct 1, 2000, .inl g_utape)), (mm, .inr (16, fs_mm))] := hD
    refine W.widen (k := 0) (n := 0) (Nat.le_of_ble_eq_true rfl) (Nat.le_of_ble_eq_true rfl) (W.eq (g2 := F0 m 29 ls []) rfl ?_)
    refine lv_aload_n hx hb dX16_wantNumber_29 rfl (lv_at hl 0 rfl) ?_
    refine gt_q (pl := []) (wr := []) [1, 0] [] (rt_V (As := []) (rest := []) (c_X16_next l hst D ct mm fs_mm utape x_mm_7 x_mm_8 g_utape hlen_mm hf_mm_0 h_x_mm_7 hf_mm_7 h_x_mm_8 hf_mm_8 h_g_utape (show x_mm_7.toInt ≤ x_mm_8.toInt by have q0 := FF.out hq1; omega) _) (cb_of (n := 0) hn mw_1912 mw_13 mw_1909 mhX16_next ⟨(Nat.le_of_ble_eq_true rfl), (Nat.le_of_ble_eq_true rfl)⟩) hx hb hml hown hn hK hSK hZ hS mw_1911 mw_s179 (ci := 16) (q0 := 0) rfl rfl rfl rfl hl.1 (Nat.le_of_ble_eq_true rfl) dX16_wantNumber_30 ⟨(Nat.le_of_ble_eq_true rfl), (Nat.le_of_ble_eq_true rfl)⟩) (by rw [List.append_nil]; exact hP) (by rw [List.append_nil]; exact hD) hS hA rfl rfl (by decide) (by decide) (by decide) (fun xq30_4 ux30_5 xfs30_6 H locs hpx30_7 hpexfs30_6 hP hD hS => ?_) (fun r30_1 u30_2 H locs hp30_3 hP hD hS => ?_)
    · obtain ⟨fs2_mm30_8, y_mm_630_9⟩ := ux30_5
      obtain ⟨hp30_10, hp30_11, hp30_12, hp30_13⟩ := hpx30_7
      have hs30_14 : SB fs_mm fs2_mm30_8 [5, 6, 7] := SB.trans (SB.rf _ _) hp30_10 (by decide)
      have hp30_11 : rg y_mm_630_9 0 2000 := hp30_11
      have hP : va_P D vwCl [(mm, .inr (16, fs2_mm30_8)), (utape, .inl (ct 1, 2000, .inl g_utape)), (xq30_4, .inr (15, xfs30_6))] _ := hP
      have hD : va_D A [(mm, .inr (16, fs2_mm30_8)), (utape, .inl (ct 1, 2000, .inl g_utape)), (xq30_4, .inr (15, xfs30_6))] := hD
      refine vx_widen (k := 1) (n := 7) (Nat.le_of_ble_eq_true rfl) (Nat.le_of_ble_eq_true rfl) ?_
      exact xo hQ htab hlocks hK rfl hP hD hS (fs2_mm30_8, y_mm_630_9) (fs := xfs30_6) ⟨hs30_14, hp30_11, hp30_12, hp30_13⟩ hpexfs30_6 [0, 1, 2] (by decide) rfl (kq := 2) rfl (Nat.le_of_ble_eq_true rfl) (Nat.le_of_ble_eq_true rfl)
    obtain ⟨fs2_mm30_308, y_mm_530_309, y_mm_630_310, y_mm_730_311⟩ := u30_2
    obtain ⟨hp30_312, hp30_313, hp30_314, hp30_315, hp30_316, hp30_317, hp30_318, hp30_319, hp30_320, hp30_321, hp30_322⟩ := hp30_3
    have hs30_323 : SB fs_mm fs2_mm30_308 [5, 6, 7] := SB.trans (SB.rf _ _) hp30_312 (by decide)
    have hp30_313 : rg y_mm_530_309 0 2 := hp30_313
    have hp30_315 : rg y_mm_630_310 0 2000 := hp30_315
    have hp30_317 : rg y_mm_730_311 0 2002 := hp30_317
    replace hp30_319 : FF (y_mm_730_311.toInt ≤ x_mm_8.toInt) := hp30_319
    replace hp30_320 : FF (y_mm_630_310.toInt ≤ x_mm_8.toInt) := hp30_320
    replace hp30_321 : FF (y_mm_530_309.toInt ≠ 0 → y_mm_630_310.toInt + 1 ≤ y_mm_730_311.toInt) := hp30_321
    replace hp30_322 : FF (x_mm_7.toInt ≤ y_mm_630_310.toInt) := hp30_322
    rw [List.append_nil] at hP hD
    have hP : va_P D vwCl [(mm, .inr (16, fs2_mm30_308)), (utape, .inl (ct 1, 2000, .inl g_utape))] _ := hP
    have hD : va_D A [(mm, .inr (16, fs2_mm30_308)), (utape, .inl (ct 1, 2000, .inl g_utape))] := hD
    refine W.widen (k := 0) (n := 0) (Nat.le_of_ble_eq_true rfl) (Nat.le_of_ble_eq_true rfl) (W.eq (g2 := F0 m 33 ls []) rfl ?_)
    refine lv_lload hx hb dX16_wantNumber_33 (lv_at hl 1 rfl) ?_
    exact et_l (SX := List Value × Int32) (pl1 := fun _ => []) hQ hx hb hr hlocks dX16_wantNumber_35 (fs2_mm30_308, y_mm_530_309, y_mm_630_310, y_mm_730_311) ⟨hp1_4, hs30_323, hp30_313, hp30_314, hp30_315, hp30_316, hp30_317, hp30_318, (show y_mm_730_311.toInt ≤ x_mm_8.toInt by have q0 := FF.out hp30_319; omega), (show y_mm_630_310.toInt ≤ x_mm_8.toInt by have q0 := FF.out hp30_320; omega), (show y_mm_530_309.toInt ≠ 0 → y_mm_630_310.toInt + 1 ≤ y_mm_730_311.toInt by have q0 := hp30_313.1; have q1 := FF.out hp30_321; omega), (show x_mm_7.toInt ≤ y_mm_630_310.toInt by have q0 := FF.out hp30_322; omega), (show v0.toInt ≤ r1_1.toInt ∧ r1_1.toInt ≤ v1.toInt by have q0 := FF.out hi26_1002; have q1 := FF.out hp26_308; omega), (show x_mm_5.toInt ≠ 0 by have q0 := h_v0.1; have q1 := FF.out hp1_5; have q2 := FF.out hi26_1002; have q3 := FF.out hp26_308; omega)⟩ (by rw [List.append_nil]; exact hP) (by rw [List.append_nil]; exact hD) hS [0, 1] (by decide) rfl (Nat.le_of_ble_eq_true rfl) (Nat.le_of_ble_eq_true rfl) (Nat.le_of_ble_eq_true rfl) (Nat.le_of_ble_eq_true rfl)
  have b25 : ∀  (H : Heap) (locs : List Loc) (ls : Array Slot), lv_has ls 7 [(0, .ref mm), (5, .long r1_1)] → va_P D vwCl [(mm, .inr (16, fs_mm)), (utape, .inl (ct 1, 2000, .inl g_utape))] H → va_D A [(mm, .inr (16, fs_mm)), (utape, .inl (ct 1, 2000, .inl g_utape))] → va_S A s.heap H locs → W p l e ({ frames := 9, cells := 1, slots := 7, locals := 187 }) s m [.ref mm, .long v0, .long v1].toArray below meth c H locs 0 0 Q (F0 m 25 ls [.ref mm]) := by
    intro  H locs ls  hl hP hD hS
    refine lv_iconst (v := 0) hx hb dX16_wantNumber_25 (by decide) ?_
    exact b26 (0 : Int32) H locs ls (rg_w (show rg (0 : Int32) 0 0 from rg_l (by decide)) (by decide)) (show (0 : Int32).toInt = 1 → v0.toInt ≤ r1_1.toInt ∧ r1_1.toInt ≤ v1.toInt by have q0 := (show (0 : Int32).toInt = 0 from by decide); omega) (lv_sub hl [0, 1] rfl) hP hD hS
  refine lv_if_lt (tgt := 25) hx hb dX16_wantNumber_11 (by decide) (fun c11_1 => ?_) (fun c11_1 => ?_)
  · have t11_2 := FF.mk (l_lt ez10_1 c11_1)
    exact b25  H locs ls  (lv_sub hl [1, 0] rfl) hP hD hS
  · have t11_2 := FF.mk (l_nlt ez10_1 c11_1)
    have r11_3 : rl v0 0 4294967295 := rl_leA t11_2 h_v0 hp1_4 (by decide)
    have r11_4 : rl r1_1 0 4294967295 := rl_leB t11_2 h_v0 hp1_4 (by decide)
    refine lv_lload hx hb dX16_wantNumber_14 (lv_at hl 0 rfl) ?_
    refine lv_lload_n hx hb dX16_wantNumber_16 rfl (lv_at hl 3 rfl) ?_
    refine W.lcmp hx hb dX16_wantNumber_17 ?_
    refine lv_topi (fun z17_1 ez17_1 => ?_)
    refine lv_if_gt (tgt := 25) hx hb dX16_wantNumber_18 (by decide) (fun c18_1 => ?_) (fun c18_1 => ?_)
    · have t18_2 := FF.mk (l_gt ez17_1 c18_1)
      have r18_3 : rl v1 0 4294967294 := rl_ltA t18_2 h_v1 r11_4 (by decide)
      have r18_4 : rl r1_1 1 4294967295 := rl_ltB t18_2 h_v1 r11_4 (by decide)
      exact b25  H locs ls  (lv_sub hl [1, 0] rfl) hP hD hS
    · have t18_2 := FF.mk (l_ngt ez17_1 c18_1)
      refine lv_iconst (v := 1) hx hb dX16_wantNumber_21 (by decide) ?_
      refine lv_goto (tgt := 26) hx hb dX16_wantNumber_22 (by decide) ?_
      exact b26 (1 : Int32) H locs ls (rg_w (show rg (1 : Int32) 1 1 from rg_l (by decide)) (by decide)) (show (1 : Int32).toInt = 1 → v0.toInt ≤ r1_1.toInt ∧ r1_1.toInt ≤ v1.toInt by have q0 := FF.out t11_2; have q1 := FF.out t18_2; have q2 := (show (1 : Int32).toInt = 1 from by decide); omega) (lv_sub hl [1, 0] rfl) hP hD hS
set_option maxHeartbeats 2000000 in
theorem c_X16_wantAddress (l : Launch) (hst : l.stackTraces = false) (D : va_G) (ct : Nat → ClassId) (mm : Nat) (fs_mm : List Value) (utape : Nat) (x_mm_5 : Int32) (x_mm_6 : Int32) (x_mm_7 : Int32) (x_mm_8 : Int32) (g_utape : Nat → Int32) (hlen_mm : fs_mm.length = 78) (hf_mm_0 : fs_mm[0]? = some (.ref utape)) (h_x_mm_5 : rg x_mm_5 0 2) (hf_mm_5 : fs_mm[5]? = some (.int x_mm_5)) (h_x_mm_6 : rg x_mm_6 0 2000) (hf_mm_6 : fs_mm[6]? = some (.int x_mm_6)) (h_x_mm_7 : rg x_mm_7 0 2001) (hf_mm_7 : fs_mm[7]? = some (.int x_mm_7)) (h_x_mm_8 : rg x_mm_8 0 2000) (hf_mm_8 : fs_mm[8]? = some (.int x_mm_8)) (h_g_utape : Rg g_utape 2000 0 255) (hq0 : x_mm_7.toInt ≤ 2000) (hq1 : x_mm_7.toInt ≤ x_mm_8.toInt) (hq2 : x_mm_6.toInt ≤ x_mm_8.toInt) (hq3 : x_mm_5.toInt ≠ 0 → x_mm_6.toInt + 1 ≤ x_mm_7.toInt) : KT (V := Int64) (S := List Value × Int32 × Int32 × Int32) (SX := List Value × Int32) l yX16_wantAddress cX16_wantAddress 9 (some .long) 9 187 D ct [.ref mm] [(mm, .inr (16, fs_mm)), (utape, .inl (ct 1, 2000, .inl g_utape))] 1 7 (fun r : Int64 => some (.long r)) (fun (r : Int64) (u : List Value × Int32 × Int32 × Int32) => match u with | (fs2_mm, y_mm_5, y_mm_6, y_mm_7) => SB fs_mm fs2_mm [5, 6, 7] ∧ rg y_mm_5 0 2 ∧ fs2_mm[5]? = some (.int y_mm_5) ∧ rg y_mm_6 0 2000 ∧ fs2_mm[6]? = some (.int y_mm_6) ∧ rg y_mm_7 0 2002 ∧ fs2_mm[7]? = some (.int y_mm_7) ∧ (y_mm_7.toInt ≤ x_mm_8.toInt) ∧ (y_mm_6.toInt ≤ x_mm_8.toInt) ∧ (y_mm_5.toInt ≠ 0 → y_mm_6.toInt + 1 ≤ y_mm_7.toInt) ∧ (x_mm_7.toInt ≤ y_mm_6.toInt) ∧ (x_mm_6.toInt + 7 ≤ x_mm_7.toInt) ∧ (x_mm_5.toInt ≠ 0)) (fun (u : List Value × Int32 × Int32 × Int32) => match u with | (fs2_mm, y_mm_5, y_mm_6, y_mm_7) => [(mm, .inr (16, fs2_mm)), (utape, .inl (ct 1, 2000, .inl g_utape))] ++ []) (fun _ => 0) (fun _ => 0) 15 RX15 peW (fun (u : List Value × Int32) => match u with | (fs2_mm, y_mm_6) => SB fs_mm fs2_mm [5, 6, 7] ∧ rg y_mm_6 0 2000 ∧ fs2_mm[6]? = some (.int y_mm_6) ∧ fs2_mm[7]? = some (.int x_mm_7)) (fun (u : List Value × Int32) => match u with | (fs2_mm, y_mm_6) => [(mm, .inr (16, fs2_mm)), (utape, .inl (ct 1, 2000, .inl g_utape))]) := by
  refine KT_of (by decide) (Nat.le_of_ble_eq_true rfl) (fun p e s m below meth c A Q C0 htab hA H locs hS hP hD hQ ls hl => ?_)
  obtain ⟨hx, hb, hr, hown, hin, hml, hlocks, hn, hK, hZ, hSK⟩ := C0
  have hl : lv_has ls 9 [(0, .ref mm)] := hl
  replace hq0 := FF.mk hq0
  replace hq1 := FF.mk hq1
  replace hq2 := FF.mk hq2
  replace hq3 := FF.mk hq3
  refine lv_aload_n hx hb dX16_wantAddress_0 rfl (lv_at hl 0 rfl) ?_
  refine lv_aload_n hx hb dX16_wantAddress_1 rfl (lv_at hl 0 rfl) ?_
  refine va_get (D := D) (ci := 16) (v := .int x_mm_5) (C := RX16) (T := TX16) (N := 78) hx hb (htX16 hn) (fun _ h => h) hown hK hP 0 rfl rfl 5 (by decide) (hn.get mw_1544 rfl) (fun _ h9 => h9) hf_mm_5 dX16_wantAddress_2 ?_
  refine lv_iconst (v := 1) hx hb dX16_wantAddress_5 (by decide) ?_
  have b14 : ∀ (j14_s0 : Int32) (H : Heap) (locs : List Loc) (ls : Array Slot), (rg j14_s0 0 1) → (FF (j14_s0.toInt = 1 → x_mm_5.toInt ≠ 0)) → lv_has ls 9 [(0, .ref mm)] → va_P D vwCl [(mm, .inr (16, fs_mm)), (utape, .inl (ct 1, 2000, .inl g_utape))] H → va_D A [(mm, .inr (16, fs_mm)), (utape, .inl (ct 1, 2000, .inl g_utape))] → va_S A s.heap H locs → W p l e ({ frames := 9, cells := 1, slots := 7, locals := 187 }) s m [.ref mm].toArray below meth c H locs 0 0 Q (F0 m 14 ls [.int j14_s0, .ref mm]) := by
    intro j14_s0 H locs ls r14_1001 hi14_1002 hl hP hD hS
    refine gt_q (pl := []) (wr := [(utape, .inl (ct 1, 2000, .inl g_utape))]) [0] [1] (rt_V (As := [.int j14_s0]) (rest := []) (c_X16_must l hst D ct mm j14_s0 fs_mm x_mm_6 r14_1001 hlen_mm h_x_mm_6 hf_mm_6 _) (cb_of (n := 1) hn mw_1927 mw_13 mw_1924 mhX16_must ⟨(Nat.le_of_ble_eq_true rfl), (Nat.le_of_ble_eq_true rfl)⟩) hx hb hml hown hn hK hSK hZ hS mw_1926 mw_s182 (ci := 16) (q0 := 0) rfl rfl rfl rfl hl.1 (Nat.le_of_ble_eq_true rfl) dX16_wantAddress_14 ⟨(Nat.le_of_ble_eq_true rfl), (Nat.le_of_ble_eq_true rfl)⟩) (by rw [List.append_nil]; exact hP) (by rw [List.append_nil]; exact hD) hS hA rfl rfl (by decide) (by decide) (by decide) (fun xq14_4 ux14_5 xfs14_6 H locs hpx14_7 hpexfs14_6 hP hD hS => ?_) (fun r14_1 u14_2 H locs hp14_3 hP hD hS => ?_)
    · have hP : va_P D vwCl [(utape, .inl (ct 1, 2000, .inl g_utape)), (mm, .inr (16, fs_mm)), (xq14_4, .inr (15, xfs14_6))] _ := hP
      have hD : va_D A [(utape, .inl (ct 1, 2000, .inl g_utape)), (mm, .inr (16, fs_mm)), (xq14_4, .inr (15, xfs14_6))] := hD
      refine vx_widen (k := 1) (n := 7) (Nat.le_of_ble_eq_true rfl) (Nat.le_of_ble_eq_true rfl) ?_
      exact xo hQ htab hlocks hK rfl hP hD hS (fs_mm, x_mm_6) (fs := xfs14_6) ⟨(SB.rf _ _), h_x_mm_6, hf_mm_6, hf_mm_7⟩ hpexfs14_6 [1, 0, 2] (by decide) rfl (kq := 2) rfl (Nat.le_of_ble_eq_true rfl) (Nat.le_of_ble_eq_true rfl)
    have hp14_308 := hp14_3
    replace hp14_308 : FF (j14_s0.toInt = 1) := hp14_308
    rw [List.append_nil] at hP hD
    have hP : va_P D vwCl [(utape, .inl (ct 1, 2000, .inl g_utape)), (mm, .inr (16, fs_mm))] _ := hP
    have hD : va_D A [(utape, .inl (ct 1, 2000, .inl g_utape)), (mm, .inr (16, fs_mm))] := hD
    refine W.widen (k := 0) (n := 0) (Nat.le_of_ble_eq_true rfl) (Nat.le_of_ble_eq_true rfl) (W.eq (g2 := F0 m 17 ls []) rfl ?_)
    refine lv_lconst (v := 0) hx hb dX16_wantAddress_17 (by decide) ?_
    refine lv_lstore_n (lv' := [(1, .long 0), (0, .ref mm)]) hx hb dX16_wantAddress_18 rfl hl (by decide) rfl (fun ls hl => ?_)
    refine lv_iconst (v := 0) hx hb dX16_wantAddress_19 (by decide) ?_
    refine lv_istore_n (lv' := [(3, .int 0), (1, .long 0), (0, .ref mm)]) hx hb dX16_wantAddress_20 rfl hl (by decide) rfl (fun ls hl => ?_)
    refine lv_aload_n hx hb dX16_wantAddress_21 rfl (lv_at hl 2 rfl) ?_
    refine va_get (D := D) (ci := 16) (v := .int x_mm_6) (C := RX16) (T := TX16) (N := 78) hx hb (htX16 hn) (fun _ h => h) hown hK hP 1 rfl rfl 6 (by decide) (hn.get mw_1545 rfl) (fun _ h9 => h9) hf_mm_6 dX16_wantAddress_22 ?_
    refine lv_istore (lv' := [(4, .int x_mm_6), (3, .int 0), (1, .long 0), (0, .ref mm)]) hx hb dX16_wantAddress_25 hl (by decide) rfl (fun ls hl => ?_)
    refine lv_iconst (v := 1) hx hb dX16_wantAddress_27 (by decide) ?_
    refine lv_istore (lv' := [(5, .int 1), (4, .int x_mm_6), (3, .int 0), (1, .long 0), (0, .ref mm)]) hx hb dX16_wantAddress_28 hl (by decide) rfl (fun ls hl => ?_)
    have b30 : ∀ (n30 : Nat) (j30_l1 : Int64) (j30_l3 : Int32) (j30_l4 : Int32) (j30_l5 : Int32) (H : Heap) (locs : List Loc) (ls : Array Slot), (rg j30_l3 0 2001) → (rg j30_l4 0 2001) → (rg j30_l5 0 1) → (FF (j30_l3.toInt ≤ j30_l4.toInt)) → (FF (j30_l4.toInt ≤ x_mm_7.toInt + 1)) → (FF (j30_l5.toInt = 1 → x_mm_6.toInt + 2 * j30_l3.toInt ≤ j30_l4.toInt)) → ((2147483647 : Int) - j30_l3.toInt).toNat < n30 → lv_has ls 9 [(0, .ref mm), (1, .long j30_l1), (3, .int j30_l3), (4, .int j30_l4), (5, .int j30_l5)] → va_P D vwCl [(utape, .inl (ct 1, 2000, .inl g_utape)), (mm, .inr (16, fs_mm))] H → va_D A [(utape, .inl (ct 1, 2000, .inl g_utape)), (mm, .inr (16, fs_mm))] → va_S A s.heap H locs → W p l e ({ frames := 9, cells := 1, slots := 7, locals := 187 }) s m [.ref mm].toArray below meth c H locs 0 0 Q (F0 m 30 ls []) := by
      intro n30
      induction n30 with
      | zero => intros; rename_i hms _ _ _ _; exact absurd hms (Nat.not_lt_zero _)
      | succ n30 ih30 =>
        intro j30_l1 j30_l3 j30_l4 j30_l5 H locs ls r30_1001 r30_1002 r30_1003 hi30_1004 hi30_1005 hi30_1006 hms30 hl hP hD hS
        refine lv_iload hx hb dX16_wantAddress_30 (lv_at hl 4 rfl) ?_
        have b184 : ∀  (H : Heap) (locs : List Loc) (ls : Array Slot), lv_has ls 9 [(0, .ref mm), (1, .long j30_l1), (3, .int j30_l3), (5, .int j30_l5)] → va_P D vwCl [(utape, .inl (ct 1, 2000, .inl g_utape)), (mm, .inr (16, fs_mm))] H → va_D A [(utape, .inl (ct 1, 2000, .inl g_utape)), (mm, .inr (16, fs_mm))] → va_S A s.heap H locs → W p l e ({ frames := 9, cells := 1, slots := 7, locals := 187 }) s m [.ref mm].toArray below meth c H locs 0 0 Q (F0 m 184 ls []) := by
          intro  H locs ls  hl hP hD hS
          refine lv_aload_n hx hb dX16_wantAddress_184 rfl (lv_at hl 0 rfl) ?_
          refine lv_iload hx hb dX16_wantAddress_185 (lv_at hl 3 rfl) ?_
          have b216 : ∀ (j216_s0 : Int32) (H : Heap) (locs : List Loc) (ls : Array Slot), (rg j216_s0 0 1) → (FF (j216_s0.toInt = 1 → x_mm_6.toInt + 7 ≤ x_mm_7.toInt)) → lv_has ls 9 [(0, .ref mm), (1, .long j30_l1)] → va_P D vwCl [(utape, .inl (ct 1, 2000, .inl g_utape)), (mm, .inr (16, fs_mm))] H → va_D A [(utape, .inl (ct 1, 2000, .inl g_utape)), (mm, .inr (16, fs_mm))] → va_S A s.heap H locs → W p l e ({ frames := 9, cells := 1, slots := 7, locals := 187 }) s m [.ref mm].toArray below meth c H locs 0 0 Q (F0 m 216 ls [.int j216_s0, .ref mm]) := by
            intro j216_s0 H locs ls r216_1001 hi216_1002 hl hP hD hS
            refine gt_q (pl := []) (wr := [(utape, .inl (ct 1, 2000, .inl g_utape))]) [1] [0] (rt_V (As := [.int j216_s0]) (rest := []) (c_X16_must l hst D ct mm j216_s0 fs_mm x_mm_6 r216_1001 hlen_mm h_x_mm_6 hf_mm_6 _) (cb_of (n := 1) hn mw_1927 mw_13 mw_1924 mhX16_must ⟨(Nat.le_of_ble_eq_true rfl), (Nat.le_of_ble_eq_true rfl)⟩) hx hb hml hown hn hK hSK hZ hS mw_1926 mw_s182 (ci := 16) (q0 := 0) rfl rfl rfl rfl hl.1 (Nat.le_of_ble_eq_true rfl) dX16_wantAddress_216 ⟨(Nat.le_of_ble_eq_true rfl), (Nat.le_of_ble_eq_true rfl)⟩) (by rw [List.append_nil]; exact hP) (by rw [List.append_nil]; exact hD) hS hA rfl rfl (by decide) (by decide) (by decide) (fun xq216_4 ux216_5 xfs216_6 H locs hpx216_7 hpexfs216_6 hP hD hS => ?_) (fun r216_1 u216_2 H locs hp216_3 hP hD hS => ?_)
            · have hP : va_P D vwCl [(utape, .inl (ct 1, 2000, .inl g_utape)), (mm, .inr (16, fs_mm)), (xq216_4, .inr (15, xfs216_6))] _ := hP
              have hD : va_D A [(utape, .inl (ct 1, 2000, .inl g_utape)), (mm, .inr (16, fs_mm)), (xq216_4, .inr (15, xfs216_6))] := hD
              refine vx_widen (k := 1) (n := 7) (Nat.le_of_ble_eq_true rfl) (Nat.le_of_ble_eq_true rfl) ?_
              exact xo hQ htab hlocks hK rfl hP hD hS (fs_mm, x_mm_6) (fs := xfs216_6) ⟨(SB.rf _ _), h_x_mm_6, hf_mm_6, hf_mm_7⟩ hpexfs216_6 [1, 0, 2] (by decide) rfl (kq := 2) rfl (Nat.le_of_ble_eq_true rfl) (Nat.le_of_ble_eq_true rfl)
            have hp216_308 := hp216_3
            replace hp216_308 : FF (j216_s0.toInt = 1) := hp216_308
            rw [List.append_nil] at hP hD
            have hP : va_P D vwCl [(utape, .inl (ct 1, 2000, .inl g_utape)), (mm, .inr (16, fs_mm))] _ := hP
            have hD : va_D A [(utape, .inl (ct 1, 2000, .inl g_utape)), (mm, .inr (16, fs_mm))] := hD
            refine W.widen (k := 0) (n := 0) (Nat.le_of_ble_eq_true rfl) (Nat.le_of_ble_eq_true rfl) (W.eq (g2 := F0 m 219 ls []) rfl ?_)
            refine lv_aload_n hx hb dX16_wantAddress_219 rfl (lv_at hl 0 rfl) ?_
            refine gt_q (pl := []) (wr := []) [1, 0] [] (rt_V (As := []) (rest := []) (c_X16_next l hst D ct mm fs_mm utape x_mm_7 x_mm_8 g_utape hlen_mm hf_mm_0 h_x_mm_7 hf_mm_7 h_x_mm_8 hf_mm_8 h_g_utape (show x_mm_7.toInt ≤ x_mm_8.toInt by have q0 := FF.out hq1; omega) _) (cb_of (n := 0) hn mw_1912 mw_13 mw_1909 mhX16_next ⟨(Nat.le_of_ble_eq_true rfl), (Nat.le_of_ble_eq_true rfl)⟩) hx hb hml hown hn hK hSK hZ hS mw_1911 mw_s179 (ci := 16) (q0 := 0) rfl rfl rfl rfl hl.1 (Nat.le_of_ble_eq_true rfl) dX16_wantAddress_220 ⟨(Nat.le_of_ble_eq_true rfl), (Nat.le_of_ble_eq_true rfl)⟩) (by rw [List.append_nil]; exact hP) (by rw [List.append_nil]; exact hD) hS hA rfl rfl (by decide) (by decide) (by decide) (fun xq220_4 ux220_5 xfs220_6 H locs hpx220_7 hpexfs220_6 hP hD hS => ?_) (fun r220_1 u220_2 H locs hp220_3 hP hD hS => ?_)
            · obtain ⟨fs2_mm220_8, y_mm_6220_9⟩ := ux220_5
              obtain ⟨hp220_10, hp220_11, hp220_12, hp220_13⟩ := hpx220_7
              have hs220_14 : SB fs_mm fs2_mm220_8 [5, 6, 7] := SB.trans (SB.rf _ _) hp220_10 (by decide)
              have hp220_11 : rg y_mm_6220_9 0 2000 := hp220_11
              have hP : va_P D vwCl [(mm, .inr (16, fs2_mm220_8)), (utape, .inl (ct 1, 2000, .inl g_utape)), (xq220_4, .inr (15, xfs220_6))] _ := hP
              have hD : va_D A [(mm, .inr (16, fs2_mm220_8)), (utape, .inl (ct 1, 2000, .inl g_utape)), (xq220_4, .inr (15, xfs220_6))] := hD
              refine vx_widen (k := 1) (n := 7) (Nat.le_of_ble_eq_true rfl) (Nat.le_of_ble_eq_true rfl) ?_
              exact xo hQ htab hlocks hK rfl hP hD hS (fs2_mm220_8, y_mm_6220_9) (fs := xfs220_6) ⟨hs220_14, hp220_11, hp220_12, hp220_13⟩ hpexfs220_6 [0, 1, 2] (by decide) rfl (kq := 2) rfl (Nat.le_of_ble_eq_true rfl) (Nat.le_of_ble_eq_true rfl)
            obtain ⟨fs2_mm220_308, y_mm_5220_309, y_mm_6220_310, y_mm_7220_311⟩ := u220_2
            obtain ⟨hp220_312, hp220_313, hp220_314, hp220_315, hp220_316, hp220_317, hp220_318, hp220_319, hp220_320, hp220_321, hp220_322⟩ := hp220_3
            have hs220_323 : SB fs_mm fs2_mm220_308 [5, 6, 7] := SB.trans (SB.rf _ _) hp220_312 (by decide)
            have hp220_313 : rg y_mm_5220_309 0 2 := hp220_313
            have hp220_315 : rg y_mm_6220_310 0 2000 := hp220_315
            have hp220_317 : rg y_mm_7220_311 0 2002 := hp220_317
            replace hp220_319 : FF (y_mm_7220_311.toInt ≤ x_mm_8.toInt) := hp220_319
            replace hp220_320 : FF (y_mm_6220_310.toInt ≤ x_mm_8.toInt) := hp220_320
            replace hp220_321 : FF (y_mm_5220_309.toInt ≠ 0 → y_mm_6220_310.toInt + 1 ≤ y_mm_7220_311.toInt) := hp220_321
            replace hp220_322 : FF (x_mm_7.toInt ≤ y_mm_6220_310.toInt) := hp220_322
            rw [List.append_nil] at hP hD
            have hP : va_P D vwCl [(mm, .inr (16, fs2_mm220_308)), (utape, .inl (ct 1, 2000, .inl g_utape))] _ := hP
            have hD : va_D A [(mm, .inr (16, fs2_mm220_308)), (utape, .inl (ct 1, 2000, .inl g_utape))] := hD
            refine W.widen (k := 0) (n := 0) (Nat.le_of_ble_eq_true rfl) (Nat.le_of_ble_eq_true rfl) (W.eq (g2 := F0 m 223 ls []) rfl ?_)
            refine lv_lload_n hx hb dX16_wantAddress_223 rfl (lv_at hl 1 rfl) ?_
            exact et_l (SX := List Value × Int32) (pl1 := fun _ => []) hQ hx hb hr hlocks dX16_wantAddress_224 (fs2_mm220_308, y_mm_5220_309, y_mm_6220_310, y_mm_7220_311) ⟨hs220_323, hp220_313, hp220_314, hp220_315, hp220_316, hp220_317, hp220_318, (show y_mm_7220_311.toInt ≤ x_mm_8.toInt by have q0 := FF.out hp220_319; omega), (show y_mm_6220_310.toInt ≤ x_mm_8.toInt by have q0 := FF.out hp220_320; omega), (show y_mm_5220_309.toInt ≠ 0 → y_mm_6220_310.toInt + 1 ≤ y_mm_7220_311.toInt by have q0 := hp220_313.1; have q1 := FF.out hp220_321; omega), (show x_mm_7.toInt ≤ y_mm_6220_310.toInt by have q0 := FF.out hp220_322; omega), (show x_mm_6.toInt + 7 ≤ x_mm_7.toInt by have q0 := r216_1001.2; have q1 := FF.out hi216_1002; have q2 := FF.out hp216_308; omega), (show x_mm_5.toInt ≠ 0 by have q0 := h_x_mm_5.1; have q1 := r14_1001.2; have q2 := FF.out hi14_1002; have q3 := FF.out hp14_308; omega)⟩ (by rw [List.append_nil]; exact hP) (by rw [List.append_nil]; exact hD) hS [0, 1] (by decide) rfl (Nat.le_of_ble_eq_true rfl) (Nat.le_of_ble_eq_true rfl) (Nat.le_of_ble_eq_true rfl) (Nat.le_of_ble_eq_true rfl)
          have b215 : ∀  (H : Heap) (locs : List Loc) (ls : Array Slot), lv_has ls 9 [(0, .ref mm), (1, .long j30_l1)] → va_P D vwCl [(utape, .inl (ct 1, 2000, .inl g_utape)), (mm, .inr (16, fs_mm))] H → va_D A [(utape, .inl (ct 1, 2000, .inl g_utape)), (mm, .inr (16, fs_mm))] → va_S A s.heap H locs → W p l e ({ frames := 9, cells := 1, slots := 7, locals := 187 }) s m [.ref mm].toArray below meth c H locs 0 0 Q (F0 m 215 ls [.ref mm]) := by
            intro  H locs ls  hl hP hD hS
            refine lv_iconst (v := 0) hx hb dX16_wantAddress_215 (by decide) ?_
            exact b216 (0 : Int32) H locs ls (rg_w (show rg (0 : Int32) 0 0 from rg_l (by decide)) (by decide)) (show (0 : Int32).toInt = 1 → x_mm_6.toInt + 7 ≤ x_mm_7.toInt by have q0 := (show (0 : Int32).toInt = 0 from by decide); omega) (lv_sub hl [0, 1] rfl) hP hD hS
          refine lv_if_eq (tgt := 215) hx hb dX16_wantAddress_187 (by decide) (fun c187_1 => ?_) (fun c187_1 => ?_)
          · have t187_2 := FF.mk (i_eq c187_1)
            have r187_3 : rg j30_l5 0 0 := rg_eqA t187_2 r30_1003 (show rg (0 : Int32) 0 0 from rg_l (by decide)) (by decide)
            exact b215  H locs ls  (lv_sub hl [0, 1] rfl) hP hD hS
          · have t187_2 := FF.mk (i_ne c187_1)
            have r187_3 : rg j30_l5 1 1 := rg_neAl t187_2 r30_1003 (show rg (0 : Int32) 0 0 from rg_l (by decide)) (by decide)
            refine lv_iload_n hx hb dX16_wantAddress_190 rfl (lv_at hl 2 rfl) ?_
            refine lv_iconst (v := 4) hx hb dX16_wantAddress_191 (by decide) ?_
            refine lv_icmp_ne (tgt := 215) hx hb dX16_wantAddress_192 (by decide) (fun c192_1 => ?_) (fun c192_1 => ?_)
            · have t192_2 := FF.mk (i_ne c192_1)
              exact b215  H locs ls  (lv_sub hl [0, 1] rfl) hP hD hS
            · have t192_2 := FF.mk (i_eq c192_1)
              have r192_3 : rg j30_l3 4 4 := rg_eqA t192_2 r30_1001 (show rg (4 : Int32) 4 4 from rg_l (by decide)) (by decide)
              refine lv_aload_n hx hb dX16_wantAddress_195 rfl (lv_at hl 0 rfl) ?_
              refine va_get (D := D) (ci := 16) (v := .ref utape) (C := RX16) (T := TX16) (N := 78) hx hb (htX16 hn) (fun _ h => h) hown hK hP 1 rfl rfl 0 (by decide) (hn.get mw_1539 rfl) (fun _ h9 => h9) hf_mm_0 dX16_wantAddress_196 ?_
              refine lv_aload_n hx hb dX16_wantAddress_199 rfl (lv_at hl 0 rfl) ?_
              refine va_get (D := D) (ci := 16) (v := .int x_mm_7) (C := RX16) (T := TX16) (N := 78) hx hb (htX16 hn) (fun _ h => h) hown hK hP 1 rfl rfl 7 (by decide) (hn.get mw_1546 rfl) (fun _ h9 => h9) hf_mm_7 dX16_wantAddress_200 ?_
              refine lv_iconst (v := 1) hx hb dX16_wantAddress_203 (by decide) ?_
              refine lv_isub hx hb dX16_wantAddress_204 ?_
              refine lv_topi (fun z204_1 ez204_1 => ?_)
              have r204_2 : rg z204_1 (-1) 2000 := rg_sub ez204_1 h_x_mm_7 (show rg (1 : Int32) 1 1 from rg_l (by decide)) (by decide)
              have hi205_1 : vp_in z204_1 2000 := (in_of (show 0 ≤ z204_1.toInt ∧ z204_1.toInt < 2000 by have q0 := (eq_sub ez204_1 h_x_mm_7 (show rg (1 : Int32) 1 1 from rg_l (by decide)) (by decide)); have q1 := r192_3.1; have q2 := FF.out hq0; have q3 := FF.out hi30_1004; have q4 := FF.out hi30_1005; have q5 := (show (1 : Int32).toInt = 1 from by decide); omega))
              refine va_iald hx hb hK hP 0 1 rfl rfl hi205_1 dX16_wantAddress_205 ?_
              refine lv_topi (fun z205_2 ez205_2 => ?_)
              have r205_3 : rg z205_2 0 255 := Rg_at h_g_utape hi205_1 ez205_2
              refine lv_bipush (v := 46) hx hb dX16_wantAddress_206 (by decide) ?_
              refine lv_icmp_eq (tgt := 215) hx hb dX16_wantAddress_208 (by decide) (fun c208_1 => ?_) (fun c208_1 => ?_)
              · have t208_2 := FF.mk (i_eq c208_1)
                have r208_3 : rg z205_2 46 46 := rg_eqA t208_2 r205_3 (show rg (46 : Int32) 46 46 from rg_l (by decide)) (by decide)
                exact b215  H locs ls  (lv_sub hl [0, 1] rfl) hP hD hS
              · have t208_2 := FF.mk (i_ne c208_1)
                refine lv_iconst (v := 1) hx hb dX16_wantAddress_211 (by decide) ?_
                refine lv_goto (tgt := 216) hx hb dX16_wantAddress_212 (by decide) ?_
                exact b216 (1 : Int32) H locs ls (rg_w (show rg (1 : Int32) 1 1 from rg_l (by decide)) (by decide)) (show (1 : Int32).toInt = 1 → x_mm_6.toInt + 7 ≤ x_mm_7.toInt by have q0 := r192_3.1; have q1 := r187_3.1; have q2 := r187_3.2; have q3 := FF.out hi30_1005; have q4 := FF.out hi30_1006; have q5 := (show (1 : Int32).toInt = 1 from by decide); omega) (lv_sub hl [0, 1] rfl) hP hD hS
        refine lv_if_eq (tgt := 184) hx hb dX16_wantAddress_32 (by decide) (fun c32_1 => ?_) (fun c32_1 => ?_)
        · have t32_2 := FF.mk (i_eq c32_1)
          have r32_3 : rg j30_l5 0 0 := rg_eqA t32_2 r30_1003 (show rg (0 : Int32) 0 0 from rg_l (by decide)) (by decide)
          exact b184  H locs ls  (lv_sub hl [0, 1, 2, 4] rfl) hP hD hS
        · have t32_2 := FF.mk (i_ne c32_1)
          have r32_3 : rg j30_l5 1 1 := rg_neAl t32_2 r30_1003 (show rg (0 : Int32) 0 0 from rg_l (by decide)) (by decide)
          refine lv_iload hx hb dX16_wantAddress_35 (lv_at hl 3 rfl) ?_
          refine lv_aload_n hx hb dX16_wantAddress_37 rfl (lv_at hl 0 rfl) ?_
          refine va_get (D := D) (ci := 16) (v := .int x_mm_7) (C := RX16) (T := TX16) (N := 78) hx hb (htX16 hn) (fun _ h => h) hown hK hP 1 rfl rfl 7 (by decide) (hn.get mw_1546 rfl) (fun _ h9 => h9) hf_mm_7 dX16_wantAddress_38 ?_
          refine lv_icmp_ge (tgt := 184) hx hb dX16_wantAddress_41 (by decide) (fun c41_1 => ?_) (fun c41_1 => ?_)
          · have t41_2 := FF.mk (i_le c41_1)
            exact b184  H locs ls  (lv_sub hl [0, 1, 2, 4] rfl) hP hD hS
          · have t41_2 := FF.mk (i_nle c41_1)
            have r41_3 : rg j30_l4 0 2000 := rg_ltA t41_2 r30_1002 h_x_mm_7 (by decide)
            have r41_4 : rg x_mm_7 1 2001 := rg_ltB t41_2 r30_1002 h_x_mm_7 (by decide)
            refine lv_iconst (v := 0) hx hb dX16_wantAddress_44 (by decide) ?_
            refine lv_istore (lv' := [(6, .int 0), (0, .ref mm), (1, .long j30_l1), (3, .int j30_l3), (4, .int j30_l4), (5, .int j30_l5)]) hx hb dX16_wantAddress_45 hl (by decide) rfl (fun ls hl => ?_)
            refine lv_lconst (v := 0) hx hb dX16_wantAddress_47 (by decide) ?_
            refine lv_lstore (lv' := [(7, .long 0), (6, .int 0), (0, .ref mm), (1, .long j30_l1), (3, .int j30_l3), (4, .int j30_l4), (5, .int j30_l5)]) hx hb dX16_wantAddress_48 hl (by decide) rfl (fun ls hl => ?_)
            have b50 : ∀ (n50 : Nat) (j50_l4 : Int32) (j50_l6 : Int32) (j50_l7 : Int64) (H : Heap) (locs : List Loc) (ls : Array Slot), (rg j50_l4 0 2000) → (rg j50_l6 0 2000) → (rl j50_l7 (-9223372036854775808) 256) → (FF (j30_l4.toInt + j50_l6.toInt ≤ j50_l4.toInt)) → (FF (j50_l4.toInt ≤ x_mm_7.toInt)) → (FF (j50_l6.toInt ≤ j50_l4.toInt)) → ((2147483647 : Int) - j50_l4.toInt).toNat < n50 → lv_has ls 9 [(0, .ref mm), (1, .long j30_l1), (3, .int j30_l3), (4, .int j50_l4), (6, .int j50_l6), (7, .long j50_l7)] → va_P D vwCl [(utape, .inl (ct 1, 2000, .inl g_utape)), (mm, .inr (16, fs_mm))] H → va_D A [(utape, .inl (ct 1, 2000, .inl g_utape)), (mm, .inr (16, fs_mm))] → va_S A s.heap H locs → W p l e ({ frames := 9, cells := 1, slots := 7, locals := 187 }) s m [.ref mm].toArray below meth c H locs 0 0 Q (F0 m 50 ls []) := by
              intro n50
              induction n50 with
              | zero => intros; rename_i hms _ _ _ _; exact absurd hms (Nat.not_lt_zero _)
              | succ n50 ih50 =>
                intro j50_l4 j50_l6 j50_l7 H locs ls r50_1001 r50_1002 r50_1003 hi50_1004 hi50_1005 hi50_1006 hms50 hl hP hD hS
                refine lv_iload hx hb dX16_wantAddress_50 (lv_at hl 3 rfl) ?_
                refine lv_aload_n hx hb dX16_wantAddress_52 rfl (lv_at hl 0 rfl) ?_
                refine va_get (D := D) (ci := 16) (v := .int x_mm_7) (C := RX16) (T := TX16) (N := 78) hx hb (htX16 hn) (fun _ h => h) hown hK hP 1 rfl rfl 7 (by decide) (hn.get mw_1546 rfl) (fun _ h9 => h9) hf_mm_7 dX16_wantAddress_53 ?_
                have b108 : ∀  (H : Heap) (locs : List Loc) (ls : Array Slot), (FF (j30_l4.toInt + j50_l6.toInt ≤ j50_l4.toInt)) → lv_has ls 9 [(0, .ref mm), (1, .long j30_l1), (3, .int j30_l3), (4, .int j50_l4), (6, .int j50_l6), (7, .long j50_l7)] → va_P D vwCl [(utape, .inl (ct 1, 2000, .inl g_utape)), (mm, .inr (16, fs_mm))] H → va_D A [(utape, .inl (ct 1, 2000, .inl g_utape)), (mm, .inr (16, fs_mm))] → va_S A s.heap H locs → W p l e ({ frames := 9, cells := 1, slots := 7, locals := 187 }) s m [.ref mm].toArray below meth c H locs 0 0 Q (F0 m 108 ls []) := by
                  intro  H locs ls hi108_1001 hl hP hD hS
                  obtain ⟨x108_1, ex108_1⟩ : ∃ z : Int32, z = j30_l3 + 1 := ⟨_, rfl⟩
                  have r108_2 : rg x108_1 1 2002 := rg_add ex108_1 r30_1001 (show rg (1 : Int32) 1 1 from rg_l (by decide)) (by decide)
                  refine lv_iinc (v := x108_1) (lv' := [(3, .int x108_1), (0, .ref mm), (1, .long j30_l1), (4, .int j50_l4), (6, .int j50_l6), (7, .long j50_l7)]) hx hb dX16_wantAddress_108 hl (k := 2) rfl (by rw [ex108_1]; rfl) (by decide) rfl (fun ls hl => ?_)
                  refine lv_iload hx hb dX16_wantAddress_111 (lv_at hl 4 rfl) ?_
                  have b164 : ∀ (j164_s0 : Int32) (H : Heap) (locs : List Loc) (ls : Array Slot), (rg j164_s0 0 1) → (FF (j164_s0.toInt = 1 → 1 ≤ j50_l6.toInt)) → lv_has ls 9 [(0, .ref mm), (1, .long j30_l1), (3, .int x108_1), (4, .int j50_l4), (7, .long j50_l7)] → va_P D vwCl [(utape, .inl (ct 1, 2000, .inl g_utape)), (mm, .inr (16, fs_mm))] H → va_D A [(utape, .inl (ct 1, 2000, .inl g_utape)), (mm, .inr (16, fs_mm))] → va_S A s.heap H locs → W p l e ({ frames := 9, cells := 1, slots := 7, locals := 187 }) s m [.ref mm].toArray below meth c H locs 0 0 Q (F0 m 164 ls [.int j164_s0]) := by
                    intro j164_s0 H locs ls r164_1001 hi164_1002 hl hP hD hS
                    refine lv_istore (lv' := [(5, .int j164_s0), (0, .ref mm), (1, .long j30_l1), (3, .int x108_1), (4, .int j50_l4), (7, .long j50_l7)]) hx hb dX16_wantAddress_164 hl (by decide) rfl (fun ls hl => ?_)
                    refine lv_lload_n hx hb dX16_wantAddress_166 rfl (lv_at hl 2 rfl) ?_
                    refine lv_bipush (v := 8) hx hb dX16_wantAddress_167 (by decide) ?_
                    refine lv_lshl hx hb dX16_wantAddress_169 rfl ?_
                    refine lv_topl (fun z169_1 ez169_1 => ?_)
                    refine lv_lload hx hb dX16_wantAddress_170 (lv_at hl 5 rfl) ?_
                    refine lv_ldc2 (v := 255) hx hb hown (hn.get mw_2157 rfl) dX16_wantAddress_172 ?_
                    refine lv_land hx hb dX16_wantAddress_175 ?_
                    refine lv_topl (fun z175_1 ez175_1 => ?_)
                    have r175_2 : rl z175_1 0 255 := rgL_andr ez175_1 (show rl (255 : Int64) 255 255 from rl_l (by decide)) (by decide)
                    refine lv_lor hx hb dX16_wantAddress_176 ?_
                    refine lv_topl (fun z176_1 ez176_1 => ?_)
                    refine lv_lstore_n (lv' := [(1, .long z176_1), (5, .int j164_s0), (0, .ref mm), (3, .int x108_1), (4, .int j50_l4), (7, .long j50_l7)]) hx hb dX16_wantAddress_177 rfl hl (by decide) rfl (fun ls hl => ?_)
                    obtain ⟨x178_1, ex178_1⟩ : ∃ z : Int32, z = j50_l4 + 1 := ⟨_, rfl⟩
                    have r178_2 : rg x178_1 1 2001 := rg_add ex178_1 r50_1001 (show rg (1 : Int32) 1 1 from rg_l (by decide)) (by decide)
                    refine lv_iinc (v := x178_1) (lv' := [(4, .int x178_1), (1, .long z176_1), (5, .int j164_s0), (0, .ref mm), (3, .int x108_1), (7, .long j50_l7)]) hx hb dX16_wantAddress_178 hl (k := 4) rfl (by rw [ex178_1]; rfl) (by decide) rfl (fun ls hl => ?_)
                    refine lv_goto (tgt := 30) hx hb dX16_wantAddress_181 (by decide) ?_
                    exact ih30 z176_1 x108_1 x178_1 j164_s0 H locs ls (rg_of (show 0 ≤ x108_1.toInt ∧ x108_1.toInt ≤ 2001 by have q0 := r108_2.1; have q1 := (eq_add ex108_1 r30_1001 (show rg (1 : Int32) 1 1 from rg_l (by decide)) (by decide)); have q2 := FF.out hq0; have q3 := FF.out hi30_1004; have q4 := FF.out t41_2; have q5 := (show (1 : Int32).toInt = 1 from by decide); omega)) (rg_w r178_2 (by decide)) r164_1001 (show x108_1.toInt ≤ x178_1.toInt by have q0 := (eq_add ex178_1 r50_1001 (show rg (1 : Int32) 1 1 from rg_l (by decide)) (by decide)); have q1 := (eq_add ex108_1 r30_1001 (show rg (1 : Int32) 1 1 from rg_l (by decide)) (by decide)); have q2 := r50_1002.1; have q3 := FF.out hi30_1004; have q4 := FF.out hi50_1004; have q5 := (show (1 : Int32).toInt = 1 from by decide); omega) (show x178_1.toInt ≤ x_mm_7.toInt + 1 by have q0 := (eq_add ex178_1 r50_1001 (show rg (1 : Int32) 1 1 from rg_l (by decide)) (by decide)); have q1 := FF.out hi50_1005; have q2 := (show (1 : Int32).toInt = 1 from by decide); omega) (show j164_s0.toInt = 1 → x_mm_6.toInt + 2 * x108_1.toInt ≤ x178_1.toInt by have q0 := (eq_add ex178_1 r50_1001 (show rg (1 : Int32) 1 1 from rg_l (by decide)) (by decide)); have q1 := (eq_add ex108_1 r30_1001 (show rg (1 : Int32) 1 1 from rg_l (by decide)) (by decide)); have q2 := r164_1001.2; have q3 := r32_3.1; have q4 := r32_3.2; have q5 := FF.out hi30_1006; have q6 := FF.out hi50_1004; have q7 := FF.out hi164_1002; have q8 := (show (1 : Int32).toInt = 1 from by decide); omega) (show ((2147483647 : Int) - x108_1.toInt).toNat < n30 by have q0 := r30_1001.2; have q1 := (eq_add ex108_1 r30_1001 (show rg (1 : Int32) 1 1 from rg_l (by decide)) (by decide)); have q2 := (show (1 : Int32).toInt = 1 from by decide); have q3 := hms30; omega) (lv_sub hl [3, 1, 4, 0, 2] rfl) hP hD hS
                  have b163 : ∀  (H : Heap) (locs : List Loc) (ls : Array Slot), lv_has ls 9 [(0, .ref mm), (1, .long j30_l1), (3, .int x108_1), (4, .int j50_l4), (7, .long j50_l7)] → va_P D vwCl [(utape, .inl (ct 1, 2000, .inl g_utape)), (mm, .inr (16, fs_mm))] H → va_D A [(utape, .inl (ct 1, 2000, .inl g_utape)), (mm, .inr (16, fs_mm))] → va_S A s.heap H locs → W p l e ({ frames := 9, cells := 1, slots := 7, locals := 187 }) s m [.ref mm].toArray below meth c H locs 0 0 Q (F0 m 163 ls []) := by
                    intro  H locs ls  hl hP hD hS
                    refine lv_iconst (v := 0) hx hb dX16_wantAddress_163 (by decide) ?_
                    exact b164 (0 : Int32) H locs ls (rg_w (show rg (0 : Int32) 0 0 from rg_l (by decide)) (by decide)) (show (0 : Int32).toInt = 1 → 1 ≤ j50_l6.toInt by have q0 := (show (0 : Int32).toInt = 0 from by decide); omega) (lv_sub hl [0, 1, 2, 3, 4] rfl) hP hD hS
                  refine lv_if_le (tgt := 163) hx hb dX16_wantAddress_113 (by decide) (fun c113_1 => ?_) (fun c113_1 => ?_)
                  · have t113_2 := FF.mk (i_le c113_1)
                    have r113_3 : rg j50_l6 0 0 := rg_leA t113_2 r50_1002 (show rg (0 : Int32) 0 0 from rg_l (by decide)) (by decide)
                    exact b163  H locs ls  (lv_sub hl [1, 2, 0, 3, 5] rfl) hP hD hS
                  · have t113_2 := FF.mk (i_nle c113_1)
                    have r113_3 : rg j50_l6 1 2000 := rg_ltB t113_2 (show rg (0 : Int32) 0 0 from rg_l (by decide)) r50_1002 (by decide)
                    refine lv_lload hx hb dX16_wantAddress_116 (lv_at hl 5 rfl) ?_
                    refine lv_ldc2 (v := 256) hx hb hown (hn.get mw_2180 rfl) dX16_wantAddress_118 ?_
                    refine W.lcmp hx hb dX16_wantAddress_121 ?_
                    refine lv_topi (fun z121_1 ez121_1 => ?_)
                    refine lv_if_ge (tgt := 163) hx hb dX16_wantAddress_122 (by decide) (fun c122_1 => ?_) (fun c122_1 => ?_)
                    · have t122_2 := FF.mk (l_ge ez121_1 c122_1)
                      have r122_3 : rl j50_l7 256 256 := rl_leB t122_2 (show rl (256 : Int64) 256 256 from rl_l (by decide)) r50_1003 (by decide)
                      exact b163  H locs ls  (lv_sub hl [1, 2, 0, 3, 5] rfl) hP hD hS
                    · have t122_2 := FF.mk (l_nge ez121_1 c122_1)
                      have r122_3 : rl j50_l7 (-9223372036854775808) 255 := rl_ltA t122_2 r50_1003 (show rl (256 : Int64) 256 256 from rl_l (by decide)) (by decide)
                      refine lv_iload hx hb dX16_wantAddress_125 (lv_at hl 3 rfl) ?_
                      refine lv_aload_n hx hb dX16_wantAddress_127 rfl (lv_at hl 1 rfl) ?_
                      refine va_get (D := D) (ci := 16) (v := .int x_mm_7) (C := RX16) (T := TX16) (N := 78) hx hb (htX16 hn) (fun _ h => h) hown hK hP 1 rfl rfl 7 (by decide) (hn.get mw_1546 rfl) (fun _ h9 => h9) hf_mm_7 dX16_wantAddress_128 ?_
                      have b159 : ∀  (H : Heap) (locs : List Loc) (ls : Array Slot), lv_has ls 9 [(0, .ref mm), (1, .long j30_l1), (3, .int x108_1), (4, .int j50_l4), (7, .long j50_l7)] → va_P D vwCl [(utape, .inl (ct 1, 2000, .inl g_utape)), (mm, .inr (16, fs_mm))] H → va_D A [(utape, .inl (ct 1, 2000, .inl g_utape)), (mm, .inr (16, fs_mm))] → va_S A s.heap H locs → W p l e ({ frames := 9, cells := 1, slots := 7, locals := 187 }) s m [.ref mm].toArray below meth c H locs 0 0 Q (F0 m 159 ls []) := by
                        intro  H locs ls  hl hP hD hS
                        refine lv_iconst (v := 1) hx hb dX16_wantAddress_159 (by decide) ?_
                        refine lv_goto (tgt := 164) hx hb dX16_wantAddress_160 (by decide) ?_
                        exact b164 (1 : Int32) H locs ls (rg_w (show rg (1 : Int32) 1 1 from rg_l (by decide)) (by decide)) (show (1 : Int32).toInt = 1 → 1 ≤ j50_l6.toInt by have q0 := r113_3.1; have q1 := (show (1 : Int32).toInt = 1 from by decide); omega) (lv_sub hl [0, 1, 2, 3, 4] rfl) hP hD hS
                      refine lv_icmp_ne (tgt := 142) hx hb dX16_wantAddress_131 (by decide) (fun c131_1 => ?_) (fun c131_1 => ?_)
                      · have t131_2 := FF.mk (i_ne c131_1)
                        refine lv_aload_n hx hb dX16_wantAddress_142 rfl (lv_at hl 1 rfl) ?_
                        refine va_get (D := D) (ci := 16) (v := .ref utape) (C := RX16) (T := TX16) (N := 78) hx hb (htX16 hn) (fun _ h => h) hown hK hP 1 rfl rfl 0 (by decide) (hn.get mw_1539 rfl) (fun _ h9 => h9) hf_mm_0 dX16_wantAddress_143 ?_
                        refine lv_iload hx hb dX16_wantAddress_146 (lv_at hl 3 rfl) ?_
                        have hi148_1 : vp_in j50_l4 2000 := (in_of (show 0 ≤ j50_l4.toInt ∧ j50_l4.toInt < 2000 by have q0 := r113_3.1; have q1 := FF.out hq0; have q2 := FF.out hi50_1005; have q3 := FF.out hi50_1006; have q4 := FF.out t131_2; omega))
                        refine va_iald hx hb hK hP 0 1 rfl rfl hi148_1 dX16_wantAddress_148 ?_
                        refine lv_topi (fun z148_2 ez148_2 => ?_)
                        have r148_3 : rg z148_2 0 255 := Rg_at h_g_utape hi148_1 ez148_2
                        refine lv_bipush (v := 46) hx hb dX16_wantAddress_149 (by decide) ?_
                        refine lv_icmp_ne (tgt := 163) hx hb dX16_wantAddress_151 (by decide) (fun c151_1 => ?_) (fun c151_1 => ?_)
                        · have t151_2 := FF.mk (i_ne c151_1)
                          exact b163  H locs ls  (lv_sub hl [1, 2, 0, 3, 5] rfl) hP hD hS
                        · have t151_2 := FF.mk (i_eq c151_1)
                          have r151_3 : rg z148_2 46 46 := rg_eqA t151_2 r148_3 (show rg (46 : Int32) 46 46 from rg_l (by decide)) (by decide)
                          refine lv_iload_n hx hb dX16_wantAddress_154 rfl (lv_at hl 0 rfl) ?_
                          refine lv_iconst (v := 4) hx hb dX16_wantAddress_155 (by decide) ?_
                          refine lv_icmp_ge (tgt := 163) hx hb dX16_wantAddress_156 (by decide) (fun c156_1 => ?_) (fun c156_1 => ?_)
                          · have t156_2 := FF.mk (i_le c156_1)
                            have r156_3 : rg x108_1 4 2002 := rg_leB t156_2 (show rg (4 : Int32) 4 4 from rg_l (by decide)) r108_2 (by decide)
                            exact b163  H locs ls  (lv_sub hl [1, 2, 0, 3, 5] rfl) hP hD hS
                          · have t156_2 := FF.mk (i_nle c156_1)
                            have r156_3 : rg x108_1 1 3 := rg_ltA t156_2 r108_2 (show rg (4 : Int32) 4 4 from rg_l (by decide)) (by decide)
                            exact b159  H locs ls  (lv_sub hl [1, 2, 0, 3, 5] rfl) hP hD hS
                      · have t131_2 := FF.mk (i_eq c131_1)
                        have r131_3 : rg j50_l4 1 2000 := rg_eqA t131_2 r50_1001 r41_4 (by decide)
                        have r131_4 : rg x_mm_7 1 2000 := rg_eqB t131_2 r50_1001 r41_4 (by decide)
                        refine lv_iload_n hx hb dX16_wantAddress_134 rfl (lv_at hl 0 rfl) ?_
                        refine lv_iconst (v := 4) hx hb dX16_wantAddress_135 (by decide) ?_
                        refine lv_icmp_ne (tgt := 163) hx hb dX16_wantAddress_136 (by decide) (fun c136_1 => ?_) (fun c136_1 => ?_)
                        · have t136_2 := FF.mk (i_ne c136_1)
                          exact b163  H locs ls  (lv_sub hl [1, 2, 0, 3, 5] rfl) hP hD hS
                        · have t136_2 := FF.mk (i_eq c136_1)
                          have r136_3 : rg x108_1 4 4 := rg_eqA t136_2 r108_2 (show rg (4 : Int32) 4 4 from rg_l (by decide)) (by decide)
                          refine lv_goto (tgt := 159) hx hb dX16_wantAddress_139 (by decide) ?_
                          exact b159  H locs ls  (lv_sub hl [1, 2, 0, 3, 5] rfl) hP hD hS
                refine lv_icmp_ge (tgt := 108) hx hb dX16_wantAddress_56 (by decide) (fun c56_1 => ?_) (fun c56_1 => ?_)
                · have t56_2 := FF.mk (i_le c56_1)
                  have r56_3 : rg x_mm_7 1 2000 := rg_leA t56_2 r41_4 r50_1001 (by decide)
                  have r56_4 : rg j50_l4 1 2000 := rg_leB t56_2 r41_4 r50_1001 (by decide)
                  exact b108  H locs ls (show j30_l4.toInt + j50_l6.toInt ≤ j50_l4.toInt by have q0 := FF.out hi50_1004; omega) (lv_sub hl [0, 1, 2, 3, 4, 5] rfl) hP hD hS
                · have t56_2 := FF.mk (i_nle c56_1)
                  refine lv_aload_n hx hb dX16_wantAddress_59 rfl (lv_at hl 0 rfl) ?_
                  refine va_get (D := D) (ci := 16) (v := .ref utape) (C := RX16) (T := TX16) (N := 78) hx hb (htX16 hn) (fun _ h => h) hown hK hP 1 rfl rfl 0 (by decide) (hn.get mw_1539 rfl) (fun _ h9 => h9) hf_mm_0 dX16_wantAddress_60 ?_
                  refine lv_iload hx hb dX16_wantAddress_63 (lv_at hl 3 rfl) ?_
                  have hi65_1 : vp_in j50_l4 2000 := (in_of (show 0 ≤ j50_l4.toInt ∧ j50_l4.toInt < 2000 by have q0 := r50_1001.1; have q1 := FF.out hq0; have q2 := FF.out t56_2; omega))
                  refine va_iald hx hb hK hP 0 1 rfl rfl hi65_1 dX16_wantAddress_65 ?_
                  refine lv_topi (fun z65_2 ez65_2 => ?_)
                  have r65_3 : rg z65_2 0 255 := Rg_at h_g_utape hi65_1 ez65_2
                  refine go_i (k1 := 0) (n1 := 0) (wr := [(utape, .inl (ct 1, 2000, .inl g_utape)), (mm, .inr (16, fs_mm))]) [] [0, 1] (rn_S (As := [.int z65_2]) (rest := []) (c_X16_isDigit l D ct z65_2  _) (cb_of (n := 1) hn mw_1923 mw_13 mw_1921 mhX16_isDigit ⟨(Nat.le_of_ble_eq_true rfl), (Nat.le_of_ble_eq_true rfl)⟩) hx hb hml hown hn hK hSK hZ hS mw_1922 rfl hl.1 (Nat.le_of_ble_eq_true rfl) dX16_wantAddress_66 ⟨(Nat.le_of_ble_eq_true rfl), (Nat.le_of_ble_eq_true rfl)⟩) hP hD hS hA rfl rfl (by decide) (by decide) (by decide) (Nat.le_of_ble_eq_true rfl) (Nat.le_of_ble_eq_true rfl) (fun r66_1 u66_2 H locs hp66_3 hP hD hS => ?_)
                  have hp66_4 := hp66_3
                  have hp66_4 : rg r66_1 0 1 := hp66_4
                  have hP : va_P D vwCl [(utape, .inl (ct 1, 2000, .inl g_utape)), (mm, .inr (16, fs_mm))] _ := hP
                  have hD : va_D A [(utape, .inl (ct 1, 2000, .inl g_utape)), (mm, .inr (16, fs_mm))] := hD
                  refine lv_if_eq (tgt := 108) hx hb dX16_wantAddress_69 (by decide) (fun c69_1 => ?_) (fun c69_1 => ?_)
                  · have t69_2 := FF.mk (i_eq c69_1)
                    have r69_3 : rg r66_1 0 0 := rg_eqA t69_2 hp66_4 (show rg (0 : Int32) 0 0 from rg_l (by decide)) (by decide)
                    exact b108  H locs ls (show j30_l4.toInt + j50_l6.toInt ≤ j50_l4.toInt by have q0 := FF.out hi50_1004; omega) (lv_sub hl [0, 1, 2, 3, 4, 5] rfl) hP hD hS
                  · have t69_2 := FF.mk (i_ne c69_1)
                    have r69_3 : rg r66_1 1 1 := rg_neAl t69_2 hp66_4 (show rg (0 : Int32) 0 0 from rg_l (by decide)) (by decide)
                    refine lv_ldc2 (v := 256) hx hb hown (hn.get mw_2180 rfl) dX16_wantAddress_72 ?_
                    refine lv_ldc2 (v := 10) hx hb hown (hn.get mw_2084 rfl) dX16_wantAddress_75 ?_
                    refine lv_lload hx hb dX16_wantAddress_78 (lv_at hl 5 rfl) ?_
                    refine lv_lmul hx hb dX16_wantAddress_80 ?_
                    refine lv_topl (fun z80_1 ez80_1 => ?_)
                    refine lv_aload_n hx hb dX16_wantAddress_81 rfl (lv_at hl 0 rfl) ?_
                    refine va_get (D := D) (ci := 16) (v := .ref utape) (C := RX16) (T := TX16) (N := 78) hx hb (htX16 hn) (fun _ h => h) hown hK hP 1 rfl rfl 0 (by decide) (hn.get mw_1539 rfl) (fun _ h9 => h9) hf_mm_0 dX16_wantAddress_82 ?_
                    refine lv_iload hx hb dX16_wantAddress_85 (lv_at hl 3 rfl) ?_
                    have hi87_1 : vp_in j50_l4 2000 := (in_of (show 0 ≤ j50_l4.toInt ∧ j50_l4.toInt < 2000 by have q0 := r50_1001.1; have q1 := FF.out hq0; have q2 := FF.out t56_2; omega))
                    refine va_iald hx hb hK hP 0 1 rfl rfl hi87_1 dX16_wantAddress_87 ?_
                    refine lv_topi (fun z87_2 ez87_2 => ?_)
                    obtain rfl : z65_2 = z87_2 := ez65_2.trans ez87_2.symm
                    refine lv_i2l hx hb dX16_wantAddress_88 rfl ?_
                    refine lv_topl (fun z88_1 ez88_1 => ?_)
                    have r88_2 : rl z88_1 0 255 := rl_i2l ez88_1 r65_3
                    refine lv_ladd hx hb dX16_wantAddress_89 ?_
                    refine lv_topl (fun z89_1 ez89_1 => ?_)
                    refine lv_ldc2 (v := 48) hx hb hown (hn.get mw_2181 rfl) dX16_wantAddress_90 ?_
                    refine lv_lsub hx hb dX16_wantAddress_93 ?_
                    refine lv_topl (fun z93_1 ez93_1 => ?_)
                    refine va_mmin_long hx hb (hml.trans hl.1.symm) hown (hn.get mw_2085 rfl) (hn.get mw_2086 rfl) (hn.get mw_24 rfl) (hn.get mw_2087 rfl) (Nat.le_of_ble_eq_true rfl) (Nat.le_of_ble_eq_true rfl) (Nat.le_of_ble_eq_true rfl) (Nat.le_of_ble_eq_true rfl) dX16_wantAddress_94 ?_
                    refine lv_topl (fun z94_1 ez94_1 => ?_)
                    have hm94_2 := FF.mk (mn_f ez94_1)
                    have r94_3 : rl z94_1 (-9223372036854775808) 256 := (rl_of (show (-9223372036854775808) ≤ z94_1.toInt ∧ z94_1.toInt ≤ 256 by have q0 := (rl_any z94_1).1; have q1 := (rl_any z94_1).2; have q2 := (rl_any z93_1).1; have q3 := (rl_any z93_1).2; have q4 := (show rl (256 : Int64) 256 256 from rl_l (by decide)).1; have q5 := (show rl (256 : Int64) 256 256 from rl_l (by decide)).2; have q6 := FF.out hm94_2; have q7 := (show (256 : Int64).toInt = 256 from by decide); omega))
                    refine lv_lstore (lv' := [(7, .long z94_1), (0, .ref mm), (1, .long j30_l1), (3, .int j30_l3), (4, .int j50_l4), (6, .int j50_l6)]) hx hb dX16_wantAddress_97 hl (by decide) rfl (fun ls hl => ?_)
                    obtain ⟨x99_1, ex99_1⟩ : ∃ z : Int32, z = j50_l6 + 1 := ⟨_, rfl⟩
                    have r99_2 : rg x99_1 1 2001 := rg_add ex99_1 r50_1002 (show rg (1 : Int32) 1 1 from rg_l (by decide)) (by decide)
                    refine lv_iinc (v := x99_1) (lv' := [(6, .int x99_1), (7, .long z94_1), (0, .ref mm), (1, .long j30_l1), (3, .int j30_l3), (4, .int j50_l4)]) hx hb dX16_wantAddress_99 hl (k := 5) rfl (by rw [ex99_1]; rfl) (by decide) rfl (fun ls hl => ?_)
                    obtain ⟨x102_1, ex102_1⟩ : ∃ z : Int32, z = j50_l4 + 1 := ⟨_, rfl⟩
                    have r102_2 : rg x102_1 1 2001 := rg_add ex102_1 r50_1001 (show rg (1 : Int32) 1 1 from rg_l (by decide)) (by decide)
                    refine lv_iinc (v := x102_1) (lv' := [(4, .int x102_1), (6, .int x99_1), (7, .long z94_1), (0, .ref mm), (1, .long j30_l1), (3, .int j30_l3)]) hx hb dX16_wantAddress_102 hl (k := 5) rfl (by rw [ex102_1]; rfl) (by decide) rfl (fun ls hl => ?_)
                    refine lv_goto (tgt := 50) hx hb dX16_wantAddress_105 (by decide) ?_
                    exact ih50 x102_1 x99_1 z94_1 H locs ls (rg_of (show 0 ≤ x102_1.toInt ∧ x102_1.toInt ≤ 2000 by have q0 := r102_2.1; have q1 := (eq_add ex102_1 r50_1001 (show rg (1 : Int32) 1 1 from rg_l (by decide)) (by decide)); have q2 := FF.out hq0; have q3 := FF.out t56_2; have q4 := (show (1 : Int32).toInt = 1 from by decide); omega)) (rg_of (show 0 ≤ x99_1.toInt ∧ x99_1.toInt ≤ 2000 by have q0 := r99_2.1; have q1 := (eq_add ex99_1 r50_1002 (show rg (1 : Int32) 1 1 from rg_l (by decide)) (by decide)); have q2 := FF.out hq0; have q3 := FF.out hi50_1006; have q4 := FF.out t56_2; have q5 := (show (1 : Int32).toInt = 1 from by decide); omega)) r94_3 (show j30_l4.toInt + x99_1.toInt ≤ x102_1.toInt by have q0 := (eq_add ex99_1 r50_1002 (show rg (1 : Int32) 1 1 from rg_l (by decide)) (by decide)); have q1 := (eq_add ex102_1 r50_1001 (show rg (1 : Int32) 1 1 from rg_l (by decide)) (by decide)); have q2 := FF.out hi50_1004; have q3 := (show (1 : Int32).toInt = 1 from by decide); omega) (show x102_1.toInt ≤ x_mm_7.toInt by have q0 := (eq_add ex102_1 r50_1001 (show rg (1 : Int32) 1 1 from rg_l (by decide)) (by decide)); have q1 := FF.out t56_2; have q2 := (show (1 : Int32).toInt = 1 from by decide); omega) (show x99_1.toInt ≤ x102_1.toInt by have q0 := (eq_add ex102_1 r50_1001 (show rg (1 : Int32) 1 1 from rg_l (by decide)) (by decide)); have q1 := (eq_add ex99_1 r50_1002 (show rg (1 : Int32) 1 1 from rg_l (by decide)) (by decide)); have q2 := FF.out hi50_1006; have q3 := (show (1 : Int32).toInt = 1 from by decide); omega) (show ((2147483647 : Int) - x102_1.toInt).toNat < n50 by have q0 := r50_1001.2; have q1 := (eq_add ex102_1 r50_1001 (show rg (1 : Int32) 1 1 from rg_l (by decide)) (by decide)); have q2 := (show (1 : Int32).toInt = 1 from by decide); have q3 := hms50; omega) (lv_sub hl [3, 4, 5, 0, 1, 2] rfl) hP hD hS
            exact b50 _ j30_l4 (0 : Int32) (0 : Int64) H locs ls r41_3 (rg_w (show rg (0 : Int32) 0 0 from rg_l (by decide)) (by decide)) (rl_w (show rl (0 : Int64) 0 0 from rl_l (by decide)) (by decide)) (show j30_l4.toInt + (0 : Int32).toInt ≤ j30_l4.toInt by have q0 := (show (0 : Int32).toInt = 0 from by decide); omega) (show j30_l4.toInt ≤ x_mm_7.toInt by have q0 := FF.out t41_2; omega) (show (0 : Int32).toInt ≤ j30_l4.toInt by have q0 := r41_3.1; have q1 := (show (0 : Int32).toInt = 0 from by decide); omega) (Nat.lt_succ_self _) (lv_sub hl [2, 3, 4, 5, 1, 0] rfl) hP hD hS
    exact b30 _ (0 : Int64) (0 : Int32) x_mm_6 (1 : Int32) H locs ls (rg_w (show rg (0 : Int32) 0 0 from rg_l (by decide)) (by decide)) (rg_w h_x_mm_6 (by decide)) (rg_w (show rg (1 : Int32) 1 1 from rg_l (by decide)) (by decide)) (show (0 : Int32).toInt ≤ x_mm_6.toInt by have q0 := h_x_mm_6.1; have q1 := (show (0 : Int32).toInt = 0 from by decide); omega) (show x_mm_6.toInt ≤ x_mm_7.toInt + 1 by have q0 := h_x_mm_5.1; have q1 := r14_1001.2; have q2 := FF.out hq3; have q3 := FF.out hi14_1002; have q4 := FF.out hp14_308; omega) (show (1 : Int32).toInt = 1 → x_mm_6.toInt + 2 * (0 : Int32).toInt ≤ x_mm_6.toInt by have q0 := (show (0 : Int32).toInt = 0 from by decide); have q1 := (show (1 : Int32).toInt = 1 from by decide); omega) (Nat.lt_succ_self _) (lv_sub hl [4, 3, 2, 1, 0] rfl) hP hD hS
  refine lv_icmp_ne (tgt := 13) hx hb dX16_wantAddress_6 (by decide) (fun c6_1 => ?_) (fun c6_1 => ?_)
  · have t6_2 := FF.mk (i_ne c6_1)
    refine lv_iconst (v := 0) hx hb dX16_wantAddress_13 (by decide) ?_
    exact b14 (0 : Int32) H locs ls (rg_w (show rg (0 : Int32) 0 0 from rg_l (by decide)) (by decide)) (show (0 : Int32).toInt = 1 → x_mm_5.toInt ≠ 0 by have q0 := (show (0 : Int32).toInt = 0 from by decide); omega) (lv_sub hl [0] rfl) hP hD hS
  · have t6_2 := FF.mk (i_eq c6_1)
    have r6_3 : rg x_mm_5 1 1 := rg_eqA t6_2 h_x_mm_5 (show rg (1 : Int32) 1 1 from rg_l (by decide)) (by decide)
    refine lv_iconst (v := 1) hx hb dX16_wantAddress_9 (by decide) ?_
    refine lv_goto (tgt := 14) hx hb dX16_wantAddress_10 (by decide) ?_
    exact b14 (1 : Int32) H locs ls (rg_w (show rg (1 : Int32) 1 1 from rg_l (by decide)) (by decide)) (show (1 : Int32).toInt = 1 → x_mm_5.toInt ≠ 0 by have q0 := r6_3.1; have q1 := (show (1 : Int32).toInt = 1 from by decide); omega) (lv_sub hl [0] rfl) hP hD hS
set_option maxHeartbeats 2000000 in
theorem c_X16_opensFilter (l : Launch) (hst : l.stackTraces = false) (D : va_G) (ct : Nat → ClassId) (mm : Nat) (fs_mm : List Value) (utape : Nat) (x_mm_6 : Int32) (x_mm_7 : Int32) (x_mm_8 : Int32) (x_mm_9 : Int32) (g_utape : Nat → Int32) (hlen_mm : fs_mm.length = 78) (hf_mm_0 : fs_mm[0]? = some (.ref utape)) (h_x_mm_6 : rg x_mm_6 0 2000) (hf_mm_6 : fs_mm[6]? = some (.int x_mm_6)) (h_x_mm_7 : rg x_mm_7 0 2001) (hf_mm_7 : fs_mm[7]? = some (.int x_mm_7)) (h_x_mm_8 : rg x_mm_8 0 2000) (hf_mm_8 : fs_mm[8]? = some (.int x_mm_8)) (h_x_mm_9 : rg x_mm_9 0 20) (hf_mm_9 : fs_mm[9]? = some (.int x_mm_9)) (h_g_utape : Rg g_utape 2000 0 255) (hq0 : x_mm_7.toInt ≤ 2000) (hq1 : x_mm_7.toInt ≤ x_mm_8.toInt) (hq2 : x_mm_6.toInt ≤ x_mm_8.toInt) : KT (V := Unit) (S := List Value × Int32 × Int32 × Int32 × Int32) (SX := List Value × Int32 × Int32) l yX16_opensFilter cX16_opensFilter 1 none 9 187 D ct [.ref mm] [(mm, .inr (16, fs_mm)), (utape, .inl (ct 1, 2000, .inl g_utape))] 1 7 (fun _ : Unit => none) (fun (_ : Unit) (u : List Value × Int32 × Int32 × Int32 × Int32) => match u with | (fs2_mm, y_mm_5, y_mm_6, y_mm_7, y_mm_9) => SB fs_mm fs2_mm [5, 6, 7, 9] ∧ rg y_mm_5 0 2 ∧ fs2_mm[5]? = some (.int y_mm_5) ∧ rg y_mm_6 0 2000 ∧ fs2_mm[6]? = some (.int y_mm_6) ∧ rg y_mm_7 0 2002 ∧ fs2_mm[7]? = some (.int y_mm_7) ∧ rg y_mm_9 1 21 ∧ fs2_mm[9]? = some (.int y_mm_9) ∧ (y_mm_7.toInt ≤ x_mm_8.toInt) ∧ (y_mm_6.toInt ≤ x_mm_8.toInt) ∧ (y_mm_5.toInt ≠ 0 → y_mm_6.toInt + 1 ≤ y_mm_7.toInt) ∧ (x_mm_7.toInt ≤ y_mm_6.toInt) ∧ (y_mm_9.toInt = x_mm_9.toInt + 1)) (fun (u : List Value × Int32 × Int32 × Int32 × Int32) => match u with | (fs2_mm, y_mm_5, y_mm_6, y_mm_7, y_mm_9) => [(mm, .inr (16, fs2_mm)), (utape, .inl (ct 1, 2000, .inl g_utape))] ++ []) (fun _ => 0) (fun _ => 0) 15 RX15 peW (fun (u : List Value × Int32 × Int32) => match u with | (fs2_mm, y_mm_6, y_mm_9) => SB fs_mm fs2_mm [5, 6, 7, 9] ∧ rg y_mm_6 0 2000 ∧ fs2_mm[6]? = some (.int y_mm_6) ∧ fs2_mm[7]? = some (.int x_mm_7) ∧ rg y_mm_9 0 21 ∧ fs2_mm[9]? = some (.int y_mm_9)) (fun (u : List Value × Int32 × Int32) => match u with | (fs2_mm, y_mm_6, y_mm_9) => [(mm, .inr (16, fs2_mm)), (utape, .inl (ct 1, 2000, .inl g_utape))]) := by
  refine KT_of (by decide) (Nat.le_of_ble_eq_true rfl) (fun p e s m below meth c A Q C0 htab hA H locs hS hP hD hQ ls hl => ?_)
  obtain ⟨hx, hb, hr, hown, hin, hml, hlocks, hn, hK, hZ, hSK⟩ := C0
  have hl : lv_has ls 1 [(0, .ref mm)] := hl
  replace hq0 := FF.mk hq0
  replace hq1 := FF.mk hq1
  replace hq2 := FF.mk hq2
  refine lv_aload_n hx hb dX16_opensFilter_0 rfl (lv_at hl 0 rfl) ?_
  refine lv_aload_n hx hb dX16_opensFilter_1 rfl (lv_at hl 0 rfl) ?_
  refine va_get (D := D) (ci := 16) (v := .int x_mm_9) (C := RX16) (T := TX16) (N := 78) hx hb (htX16 hn) (fun _ h => h) hown hK hP 0 rfl rfl 9 (by decide) (hn.get mw_1548 rfl) (fun _ h9 => h9) hf_mm_9 dX16_opensFilter_2 ?_
  refine lv_bipush (v := 20) hx hb dX16_opensFilter_5 (by decide) ?_
  have b15 : ∀ (j15_s0 : Int32) (H : Heap) (locs : List Loc) (ls : Array Slot), (rg j15_s0 0 1) → lv_has ls 1 [(0, .ref mm)] → va_P D vwCl [(mm, .inr (16, fs_mm)), (utape, .inl (ct 1, 2000, .inl g_utape))] H → va_D A [(mm, .inr (16, fs_mm)), (utape, .inl (ct 1, 2000, .inl g_utape))] → va_S A s.heap H locs → W p l e ({ frames := 9, cells := 1, slots := 7, locals := 187 }) s m [.ref mm].toArray below meth c H locs 0 0 Q (F0 m 15 ls [.int j15_s0, .ref mm]) := by
    intro j15_s0 H locs ls r15_1001 hl hP hD hS
    refine gt_q (pl := []) (wr := [(utape, .inl (ct 1, 2000, .inl g_utape))]) [0] [1] (rt_V (As := [.int j15_s0]) (rest := []) (c_X16_must l hst D ct mm j15_s0 fs_mm x_mm_6 r15_1001 hlen_mm h_x_mm_6 hf_mm_6 _) (cb_of (n := 1) hn mw_1927 mw_13 mw_1924 mhX16_must ⟨(Nat.le_of_ble_eq_true rfl), (Nat.le_of_ble_eq_true rfl)⟩) hx hb hml hown hn hK hSK hZ hS mw_1926 mw_s182 (ci := 16) (q0 := 0) rfl rfl rfl rfl hl.1 (Nat.le_of_ble_eq_true rfl) dX16_opensFilter_15 ⟨(Nat.le_of_ble_eq_true rfl), (Nat.le_of_ble_eq_true rfl)⟩) (by rw [List.append_nil]; exact hP) (by rw [List.append_nil]; exact hD) hS hA rfl rfl (by decide) (by decide) (by decide) (fun xq15_4 ux15_5 xfs15_6 H locs hpx15_7 hpexfs15_6 hP hD hS => ?_) (fun r15_1 u15_2 H locs hp15_3 hP hD hS => ?_)
    · have hP : va_P D vwCl [(utape, .inl (ct 1, 2000, .inl g_utape)), (mm, .inr (16, fs_mm)), (xq15_4, .inr (15, xfs15_6))] _ := hP
      have hD : va_D A [(utape, .inl (ct 1, 2000, .inl g_utape)), (mm, .inr (16, fs_mm)), (xq15_4, .inr (15, xfs15_6))] := hD
      refine vx_widen (k := 1) (n := 7) (Nat.le_of_ble_eq_true rfl) (Nat.le_of_ble_eq_true rfl) ?_
      exact xo hQ htab hlocks hK rfl hP hD hS (fs_mm, x_mm_6, x_mm_9) (fs := xfs15_6) ⟨(SB.rf _ _), h_x_mm_6, hf_mm_6, hf_mm_7, (rg_w h_x_mm_9 (by decide)), hf_mm_9⟩ hpexfs15_6 [1, 0, 2] (by decide) rfl (kq := 2) rfl (Nat.le_of_ble_eq_true rfl) (Nat.le_of_ble_eq_true rfl)
    have hp15_308 := hp15_3
    replace hp15_308 : FF (j15_s0.toInt = 1) := hp15_308
    rw [List.append_nil] at hP hD
    have hP : va_P D vwCl [(utape, .inl (ct 1, 2000, .inl g_utape)), (mm, .inr (16, fs_mm))] _ := hP
    have hD : va_D A [(utape, .inl (ct 1, 2000, .inl g_utape)), (mm, .inr (16, fs_mm))] := hD
    refine W.widen (k := 0) (n := 0) (Nat.le_of_ble_eq_true rfl) (Nat.le_of_ble_eq_true rfl) (W.eq (g2 := F0 m 18 ls []) rfl ?_)
    refine lv_aload_n hx hb dX16_opensFilter_18 rfl (lv_at hl 0 rfl) ?_
    refine lv_dup hx hb dX16_opensFilter_19 rfl ?_
    refine va_get (D := D) (ci := 16) (v := .int x_mm_9) (C := RX16) (T := TX16) (N := 78) hx hb (htX16 hn) (fun _ h => h) hown hK hP 1 rfl rfl 9 (by decide) (hn.get mw_1548 rfl) (fun _ h9 => h9) hf_mm_9 dX16_opensFilter_20 ?_
    refine lv_iconst (v := 1) hx hb dX16_opensFilter_23 (by decide) ?_
    refine lv_iadd hx hb dX16_opensFilter_24 ?_
    refine lv_topi (fun z24_1 ez24_1 => ?_)
    have r24_2 : rg z24_1 1 21 := rg_add ez24_1 h_x_mm_9 (show rg (1 : Int32) 1 1 from rg_l (by decide)) (by decide)
    refine va_put (D := D) (ci := 16) (v := .int z24_1) (ty := .int) (C := RX16) (T := TX16) (N := 78) hx hb (htX16 hn) (fun _ h => h) tyX16 tyX16_ok nmX16 hown hK hP hD hS 1 rfl rfl 9 (by decide) (hn.get mw_1548 rfl) (fun _ h9 => h9) rfl (by decide +kernel) rfl rfl (by rw [hlen_mm]; decide) dX16_opensFilter_25 (fun H locs hP hD hS => ?_)
    have hP : va_P D vwCl [(utape, .inl (ct 1, 2000, .inl g_utape)), (mm, .inr (16, (fs_mm.set 9 (.int z24_1))))] _ := hP
    have hD : va_D A [(utape, .inl (ct 1, 2000, .inl g_utape)), (mm, .inr (16, (fs_mm.set 9 (.int z24_1))))] := hD
    obtain ⟨m25_1, em25_1⟩ : ∃ z, z = (fs_mm.set 9 (.int z24_1)) := ⟨_, rfl⟩
    rw [← em25_1] at hP hD
    have hsm25_1 : SB fs_mm m25_1 [5, 6, 7, 9] := by rw [em25_1]; exact SB.set (SB.rf _ _) (by decide)
    have hfm25_1_6 : m25_1[6]? = some (.int x_mm_6) := by rw [em25_1]; exact fs_ne (by decide) hf_mm_6
    have hfm25_1_7 : m25_1[7]? = some (.int x_mm_7) := by rw [em25_1]; exact fs_ne (by decide) hf_mm_7
    have hfm25_1_9 : m25_1[9]? = some (.int z24_1) := by rw [em25_1]; exact fs_eq (by rw [hlen_mm]; decide)
    have hP : va_P D vwCl [(utape, .inl (ct 1, 2000, .inl g_utape)), (mm, .inr (16, m25_1))] _ := hP
    have hD : va_D A [(utape, .inl (ct 1, 2000, .inl g_utape)), (mm, .inr (16, m25_1))] := hD
    refine lv_aload_n hx hb dX16_opensFilter_28 rfl (lv_at hl 0 rfl) ?_
    refine gt_q (pl := []) (wr := []) [1, 0] [] (rt_V (As := []) (rest := []) (c_X16_next l hst D ct mm m25_1 utape x_mm_7 x_mm_8 g_utape (hsm25_1.1.trans hlen_mm) (SB.get hsm25_1 (by decide) hf_mm_0) h_x_mm_7 hfm25_1_7 h_x_mm_8 (SB.get hsm25_1 (by decide) hf_mm_8) h_g_utape (show x_mm_7.toInt ≤ x_mm_8.toInt by have q0 := FF.out hq1; omega) _) (cb_of (n := 0) hn mw_1912 mw_13 mw_1909 mhX16_next ⟨(Nat.le_of_ble_eq_true rfl), (Nat.le_of_ble_eq_true rfl)⟩) hx hb hml hown hn hK hSK hZ hS mw_1911 mw_s179 (ci := 16) (q0 := 0) rfl rfl rfl rfl hl.1 (Nat.le_of_ble_eq_true rfl) dX16_opensFilter_29 ⟨(Nat.le_of_ble_eq_true rfl), (Nat.le_of_ble_eq_true rfl)⟩) (by rw [List.append_nil]; exact hP) (by rw [List.append_nil]; exact hD) hS hA rfl rfl (by decide) (by decide) (by decide) (fun xq29_4 ux29_5 xfs29_6 H locs hpx29_7 hpexfs29_6 hP hD hS => ?_) (fun r29_1 u29_2 H locs hp29_3 hP hD hS => ?_)
    · obtain ⟨fs2_mm29_8, y_mm_629_9⟩ := ux29_5
      obtain ⟨hp29_10, hp29_11, hp29_12, hp29_13⟩ := hpx29_7
      have hs29_14 : SB fs_mm fs2_mm29_8 [5, 6, 7, 9] := SB.trans hsm25_1 hp29_10 (by decide)
      have hf29_15 : fs2_mm29_8[9]? = some (.int z24_1) := SB.get hp29_10 (by decide) hfm25_1_9
      have hp29_11 : rg y_mm_629_9 0 2000 := hp29_11
      have hP : va_P D vwCl [(mm, .inr (16, fs2_mm29_8)), (utape, .inl (ct 1, 2000, .inl g_utape)), (xq29_4, .inr (15, xfs29_6))] _ := hP
      have hD : va_D A [(mm, .inr (16, fs2_mm29_8)), (utape, .inl (ct 1, 2000, .inl g_utape)), (xq29_4, .inr (15, xfs29_6))] := hD
      refine vx_widen (k := 1) (n := 7) (Nat.le_of_ble_eq_true rfl) (Nat.le_of_ble_eq_true rfl) ?_
      exact xo hQ htab hlocks hK rfl hP hD hS (fs2_mm29_8, y_mm_629_9, z24_1) (fs := xfs29_6) ⟨hs29_14, hp29_11, hp29_12, hp29_13, (rg_w r24_2 (by decide)), hf29_15⟩ hpexfs29_6 [0, 1, 2] (by decide) rfl (kq := 2) rfl (Nat.le_of_ble_eq_true rfl) (Nat.le_of_ble_eq_true rfl)
    obtain ⟨fs2_mm29_308, y_mm_529_309, y_mm_629_310, y_mm_729_311⟩ := u29_2
    obtain ⟨hp29_312, hp29_313, hp29_314, hp29_315, hp29_316, hp29_317, hp29_318, hp29_319, hp29_320, hp29_321, hp29_322⟩ := hp29_3
    have hs29_323 : SB fs_mm fs2_mm29_308 [5, 6, 7, 9] := SB.trans hsm25_1 hp29_312 (by decide)
    have hf29_324 : fs2_mm29_308[9]? = some (.int z24_1) := SB.get hp29_312 (by decide) hfm25_1_9
    have hp29_313 : rg y_mm_529_309 0 2 := hp29_313
    have hp29_315 : rg y_mm_629_310 0 2000 := hp29_315
    have hp29_317 : rg y_mm_729_311 0 2002 := hp29_317
    replace hp29_319 : FF (y_mm_729_311.toInt ≤ x_mm_8.toInt) := hp29_319
    replace hp29_320 : FF (y_mm_629_310.toInt ≤ x_mm_8.toInt) := hp29_320
    replace hp29_321 : FF (y_mm_529_309.toInt ≠ 0 → y_mm_629_310.toInt + 1 ≤ y_mm_729_311.toInt) := hp29_321
    replace hp29_322 : FF (x_mm_7.toInt ≤ y_mm_629_310.toInt) := hp29_322
    rw [List.append_nil] at hP hD
    have hP : va_P D vwCl [(mm, .inr (16, fs2_mm29_308)), (utape, .inl (ct 1, 2000, .inl g_utape))] _ := hP
    have hD : va_D A [(mm, .inr (16, fs2_mm29_308)), (utape, .inl (ct 1, 2000, .inl g_utape))] := hD
    refine W.widen (k := 0) (n := 0) (Nat.le_of_ble_eq_true rfl) (Nat.le_of_ble_eq_true rfl) (W.eq (g2 := F0 m 32 ls []) rfl ?_)
    exact et_v (SX := List Value × Int32 × Int32) (pl1 := fun _ => []) hQ hx hb hr hlocks dX16_opensFilter_32 (fs2_mm29_308, y_mm_529_309, y_mm_629_310, y_mm_729_311, z24_1) ⟨hs29_323, hp29_313, hp29_314, hp29_315, hp29_316, hp29_317, hp29_318, r24_2, hf29_324, (show y_mm_729_311.toInt ≤ x_mm_8.toInt by have q0 := FF.out hp29_319; omega), (show y_mm_629_310.toInt ≤ x_mm_8.toInt by have q0 := FF.out hp29_320; omega), (show y_mm_529_309.toInt ≠ 0 → y_mm_629_310.toInt + 1 ≤ y_mm_729_311.toInt by have q0 := hp29_313.1; have q1 := FF.out hp29_321; omega), (show x_mm_7.toInt ≤ y_mm_629_310.toInt by have q0 := FF.out hp29_322; omega), (show z24_1.toInt = x_mm_9.toInt + 1 by have q0 := (eq_add ez24_1 h_x_mm_9 (show rg (1 : Int32) 1 1 from rg_l (by decide)) (by decide)); have q1 := (show (1 : Int32).toInt = 1 from by decide); omega)⟩ (by rw [List.append_nil]; exact hP) (by rw [List.append_nil]; exact hD) hS [0, 1] (by decide) rfl (Nat.le_of_ble_eq_true rfl) (Nat.le_of_ble_eq_true rfl) (Nat.le_of_ble_eq_true rfl) (Nat.le_of_ble_eq_true rfl)
  refine lv_icmp_ge (tgt := 14) hx hb dX16_opensFilter_7 (by decide) (fun c7_1 => ?_) (fun c7_1 => ?_)
  · have t7_2 := FF.mk (i_le c7_1)
    have r7_3 : rg x_mm_9 20 20 := rg_leB t7_2 (show rg (20 : Int32) 20 20 from rg_l (by decide)) h_x_mm_9 (by decide)
    refine lv_iconst (v := 0) hx hb dX16_opensFilter_14 (by decide) ?_
    exact b15 (0 : Int32) H locs ls (rg_w (show rg (0 : Int32) 0 0 from rg_l (by decide)) (by decide)) (lv_sub hl [0] rfl) hP hD hS
  · have t7_2 := FF.mk (i_nle c7_1)
    have r7_3 : rg x_mm_9 0 19 := rg_ltA t7_2 h_x_mm_9 (show rg (20 : Int32) 20 20 from rg_l (by decide)) (by decide)
    refine lv_iconst (v := 1) hx hb dX16_opensFilter_10 (by decide) ?_
    refine lv_goto (tgt := 15) hx hb dX16_opensFilter_11 (by decide) ?_
    exact b15 (1 : Int32) H locs ls (rg_w (show rg (1 : Int32) 1 1 from rg_l (by decide)) (by decide)) (lv_sub hl [0] rfl) hP hD hS
set_option maxHeartbeats 2000000 in
theorem c_X16_opensSum (l : Launch) (hst : l.stackTraces = false) (D : va_G) (ct : Nat → ClassId) (mm : Nat) (fs_mm : List Value) (utape : Nat) (x_mm_6 : Int32) (x_mm_7 : Int32) (x_mm_8 : Int32) (x_mm_10 : Int32) (g_utape : Nat → Int32) (hlen_mm : fs_mm.length = 78) (hf_mm_0 : fs_mm[0]? = some (.ref utape)) (h_x_mm_6 : rg x_mm_6 0 2000) (hf_mm_6 : fs_mm[6]? = some (.int x_mm_6)) (h_x_mm_7 : rg x_mm_7 0 2001) (hf_mm_7 : fs_mm[7]? = some (.int x_mm_7)) (h_x_mm_8 : rg x_mm_8 0 2000) (hf_mm_8 : fs_mm[8]? = some (.int x_mm_8)) (h_x_mm_10 : rg x_mm_10 0 2) (hf_mm_10 : fs_mm[10]? = some (.int x_mm_10)) (h_g_utape : Rg g_utape 2000 0 255) (hq0 : x_mm_7.toInt ≤ 2000) (hq1 : x_mm_7.toInt ≤ x_mm_8.toInt) (hq2 : x_mm_6.toInt ≤ x_mm_8.toInt) : KT (V := Unit) (S := List Value × Int32 × Int32 × Int32 × Int32) (SX := List Value × Int32 × Int32) l yX16_opensSum cX16_opensSum 1 none 9 187 D ct [.ref mm] [(mm, .inr (16, fs_mm)), (utape, .inl (ct 1, 2000, .inl g_utape))] 1 7 (fun _ : Unit => none) (fun (_ : Unit) (u : List Value × Int32 × Int32 × Int32 × Int32) => match u with | (fs2_mm, y_mm_5, y_mm_6, y_mm_7, y_mm_10) => SB fs_mm fs2_mm [5, 6, 7, 10] ∧ rg y_mm_5 0 2 ∧ fs2_mm[5]? = some (.int y_mm_5) ∧ rg y_mm_6 0 2000 ∧ fs2_mm[6]? = some (.int y_mm_6) ∧ rg y_mm_7 0 2002 ∧ fs2_mm[7]? = some (.int y_mm_7) ∧ rg y_mm_10 1 3 ∧ fs2_mm[10]? = some (.int y_mm_10) ∧ (y_mm_7.toInt ≤ x_mm_8.toInt) ∧ (y_mm_6.toInt ≤ x_mm_8.toInt) ∧ (y_mm_5.toInt ≠ 0 → y_mm_6.toInt + 1 ≤ y_mm_7.toInt) ∧ (x_mm_7.toInt ≤ y_mm_6.toInt) ∧ (y_mm_10.toInt = x_mm_10.toInt + 1)) (fun (u : List Value × Int32 × Int32 × Int32 × Int32) => match u with | (fs2_mm, y_mm_5, y_mm_6, y_mm_7, y_mm_10) => [(mm, .inr (16, fs2_mm)), (utape, .inl (ct 1, 2000, .inl g_utape))] ++ []) (fun _ => 0) (fun _ => 0) 15 RX15 peW (fun (u : List Value × Int32 × Int32) => match u with | (fs2_mm, y_mm_6, y_mm_10) => SB fs_mm fs2_mm [5, 6, 7, 10] ∧ rg y_mm_6 0 2000 ∧ fs2_mm[6]? = some (.int y_mm_6) ∧ fs2_mm[7]? = some (.int x_mm_7) ∧ rg y_mm_10 0 3 ∧ fs2_mm[10]? = some (.int y_mm_10)) (fun (u : List Value × Int32 × Int32) => match u with | (fs2_mm, y_mm_6, y_mm_10) => [(mm, .inr (16, fs2_mm)), (utape, .inl (ct 1, 2000, .inl g_utape))]) := by
  refine KT_of (by decide) (Nat.le_of_ble_eq_true rfl) (fun p e s m below meth c A Q C0 htab hA H locs hS hP hD hQ ls hl => ?_)
  obtain ⟨hx, hb, hr, hown, hin, hml, hlocks, hn, hK, hZ, hSK⟩ := C0
  have hl : lv_has ls 1 [(0, .ref mm)] := hl
  replace hq0 := FF.mk hq0
  replace hq1 := FF.mk hq1
  replace hq2 := FF.mk hq2
  refine lv_aload_n hx hb dX16_opensSum_0 rfl (lv_at hl 0 rfl) ?_
  refine lv_aload_n hx hb dX16_opensSum_1 rfl (lv_at hl 0 rfl) ?_
  refine va_get (D := D) (ci := 16) (v := .int x_mm_10) (C := RX16) (T := TX16) (N := 78) hx hb (htX16 hn) (fun _ h => h) hown hK hP 0 rfl rfl 10 (by decide) (hn.get mw_1549 rfl) (fun _ h9 => h9) hf_mm_10 dX16_opensSum_2 ?_
  refine lv_iconst (v := 2) hx hb dX16_opensSum_5 (by decide) ?_
  have b14 : ∀ (j14_s0 : Int32) (H : Heap) (locs : List Loc) (ls : Array Slot), (rg j14_s0 0 1) → lv_has ls 1 [(0, .ref mm)] → va_P D vwCl [(mm, .inr (16, fs_mm)), (utape, .inl (ct 1, 2000, .inl g_utape))] H → va_D A [(mm, .inr (16, fs_mm)), (utape, .inl (ct 1, 2000, .inl g_utape))] → va_S A s.heap H locs → W p l e ({ frames := 9, cells := 1, slots := 7, locals := 187 }) s m [.ref mm].toArray below meth c H locs 0 0 Q (F0 m 14 ls [.int j14_s0, .ref mm]) := by
    intro j14_s0 H locs ls r14_1001 hl hP hD hS
    refine gt_q (pl := []) (wr := [(utape, .inl (ct 1, 2000, .inl g_utape))]) [0] [1] (rt_V (As := [.int j14_s0]) (rest := []) (c_X16_must l hst D ct mm j14_s0 fs_mm x_mm_6 r14_1001 hlen_mm h_x_mm_6 hf_mm_6 _) (cb_of (n := 1) hn mw_1927 mw_13 mw_1924 mhX16_must ⟨(Nat.le_of_ble_eq_true rfl), (Nat.le_of_ble_eq_true rfl)⟩) hx hb hml hown hn hK hSK hZ hS mw_1926 mw_s182 (ci := 16) (q0 := 0) rfl rfl rfl rfl hl.1 (Nat.le_of_ble_eq_true rfl) dX16_opensSum_14 ⟨(Nat.le_of_ble_eq_true rfl), (Nat.le_of_ble_eq_true rfl)⟩) (by rw [List.append_nil]; exact hP) (by rw [List.append_nil]; exact hD) hS hA rfl rfl (by decide) (by decide) (by decide) (fun xq14_4 ux14_5 xfs14_6 H locs hpx14_7 hpexfs14_6 hP hD hS => ?_) (fun r14_1 u14_2 H locs hp14_3 hP hD hS => ?_)
    · have hP : va_P D vwCl [(utape, .inl (ct 1, 2000, .inl g_utape)), (mm, .inr (16, fs_mm)), (xq14_4, .inr (15, xfs14_6))] _ := hP
      have hD : va_D A [(utape, .inl (ct 1, 2000, .inl g_utape)), (mm, .inr (16, fs_mm)), (xq14_4, .inr (15, xfs14_6))] := hD
      refine vx_widen (k := 1) (n := 7) (Nat.le_of_ble_eq_true rfl) (Nat.le_of_ble_eq_true rfl) ?_
      exact xo hQ htab hlocks hK rfl hP hD hS (fs_mm, x_mm_6, x_mm_10) (fs := xfs14_6) ⟨(SB.rf _ _), h_x_mm_6, hf_mm_6, hf_mm_7, (rg_w h_x_mm_10 (by decide)), hf_mm_10⟩ hpexfs14_6 [1, 0, 2] (by decide) rfl (kq := 2) rfl (Nat.le_of_ble_eq_true rfl) (Nat.le_of_ble_eq_true rfl)
    have hp14_308 := hp14_3
    replace hp14_308 : FF (j14_s0.toInt = 1) := hp14_308
    rw [List.append_nil] at hP hD
    have hP : va_P D vwCl [(utape, .inl (ct 1, 2000, .inl g_utape)), (mm, .inr (16, fs_mm))] _ := hP
    have hD : va_D A [(utape, .inl (ct 1, 2000, .inl g_utape)), (mm, .inr (16, fs_mm))] := hD
    refine W.widen (k := 0) (n := 0) (Nat.le_of_ble_eq_true rfl) (Nat.le_of_ble_eq_true rfl) (W.eq (g2 := F0 m 17 ls []) rfl ?_)
    refine lv_aload_n hx hb dX16_opensSum_17 rfl (lv_at hl 0 rfl) ?_
    refine lv_dup hx hb dX16_opensSum_18 rfl ?_
    refine va_get (D := D) (ci := 16) (v := .int x_mm_10) (C := RX16) (T := TX16) (N := 78) hx hb (htX16 hn) (fun _ h => h) hown hK hP 1 rfl rfl 10 (by decide) (hn.get mw_1549 rfl) (fun _ h9 => h9) hf_mm_10 dX16_opensSum_19 ?_
    refine lv_iconst (v := 1) hx hb dX16_opensSum_22 (by decide) ?_
    refine lv_iadd hx hb dX16_opensSum_23 ?_
    refine lv_topi (fun z23_1 ez23_1 => ?_)
    have r23_2 : rg z23_1 1 3 := rg_add ez23_1 h_x_mm_10 (show rg (1 : Int32) 1 1 from rg_l (by decide)) (by decide)
    refine va_put (D := D) (ci := 16) (v := .int z23_1) (ty := .int) (C := RX16) (T := TX16) (N := 78) hx hb (htX16 hn) (fun _ h => h) tyX16 tyX16_ok nmX16 hown hK hP hD hS 1 rfl rfl 10 (by decide) (hn.get mw_1549 rfl) (fun _ h9 => h9) rfl (by decide +kernel) rfl rfl (by rw [hlen_mm]; decide) dX16_opensSum_24 (fun H locs hP hD hS => ?_)
    have hP : va_P D vwCl [(utape, .inl (ct 1, 2000, .inl g_utape)), (mm, .inr (16, (fs_mm.set 10 (.int z23_1))))] _ := hP
    have hD : va_D A [(utape, .inl (ct 1, 2000, .inl g_utape)), (mm, .inr (16, (fs_mm.set 10 (.int z23_1))))] := hD
    obtain ⟨m24_1, em24_1⟩ : ∃ z, z = (fs_mm.set 10 (.int z23_1)) := ⟨_, rfl⟩
    rw [← em24_1] at hP hD
    have hsm24_1 : SB fs_mm m24_1 [5, 6, 7, 10] := by rw [em24_1]; exact SB.set (SB.rf _ _) (by decide)
    have hfm24_1_6 : m24_1[6]? = some (.int x_mm_6) := by rw [em24_1]; exact fs_ne (by decide) hf_mm_6
    have hfm24_1_7 : m24_1[7]? = some (.int x_mm_7) := by rw [em24_1]; exact fs_ne (by decide) hf_mm_7
    have hfm24_1_10 : m24_1[10]? = some (.int z23_1) := by rw [em24_1]; exact fs_eq (by rw [hlen_mm]; decide)
    have hP : va_P D vwCl [(utape, .inl (ct 1, 2000, .inl g_utape)), (mm, .inr (16, m24_1))] _ := hP
    have hD : va_D A [(utape, .inl (ct 1, 2000, .inl g_utape)), (mm, .inr (16, m24_1))] := hD
    refine lv_aload_n hx hb dX16_opensSum_27 rfl (lv_at hl 0 rfl) ?_
    refine gt_q (pl := []) (wr := []) [1, 0] [] (rt_V (As := []) (rest := []) (c_X16_next l hst D ct mm m24_1 utape x_mm_7 x_mm_8 g_utape (hsm24_1.1.trans hlen_mm) (SB.get hsm24_1 (by decide) hf_mm_0) h_x_mm_7 hfm24_1_7 h_x_mm_8 (SB.get hsm24_1 (by decide) hf_mm_8) h_g_utape (show x_mm_7.toInt ≤ x_mm_8.toInt by have q0 := FF.out hq1; omega) _) (cb_of (n := 0) hn mw_1912 mw_13 mw_1909 mhX16_next ⟨(Nat.le_of_ble_eq_true rfl), (Nat.le_of_ble_eq_true rfl)⟩) hx hb hml hown hn hK hSK hZ hS mw_1911 mw_s179 (ci := 16) (q0 := 0) rfl rfl rfl rfl hl.1 (Nat.le_of_ble_eq_true rfl) dX16_opensSum_28 ⟨(Nat.le_of_ble_eq_true rfl), (Nat.le_of_ble_eq_true rfl)⟩) (by rw [List.append_nil]; exact hP) (by rw [List.append_nil]; exact hD) hS hA rfl rfl (by decide) (by decide) (by decide) (fun xq28_4 ux28_5 xfs28_6 H locs hpx28_7 hpexfs28_6 hP hD hS => ?_) (fun r28_1 u28_2 H locs hp28_3 hP hD hS => ?_)
    · obtain ⟨fs2_mm28_8, y_mm_628_9⟩ := ux28_5
      obtain ⟨hp28_10, hp28_11, hp28_12, hp28_13⟩ := hpx28_7
      have hs28_14 : SB fs_mm fs2_mm28_8 [5, 6, 7, 10] := SB.trans hsm24_1 hp28_10 (by decide)
      have hf28_15 : fs2_mm28_8[10]? = some (.int z23_1) := SB.get hp28_10 (by decide) hfm24_1_10
      have hp28_11 : rg y_mm_628_9 0 2000 := hp28_11
      have hP : va_P D vwCl [(mm, .inr (16, fs2_mm28_8)), (utape, .inl (ct 1, 2000, .inl g_utape)), (xq28_4, .inr (15, xfs28_6))] _ := hP
      have hD : va_D A [(mm, .inr (16, fs2_mm28_8)), (utape, .inl (ct 1, 2000, .inl g_utape)), (xq28_4, .inr (15, xfs28_6))] := hD
      refine vx_widen (k := 1) (n := 7) (Nat.le_of_ble_eq_true rfl) (Nat.le_of_ble_eq_true rfl) ?_
      exact xo hQ htab hlocks hK rfl hP hD hS (fs2_mm28_8, y_mm_628_9, z23_1) (fs := xfs28_6) ⟨hs28_14, hp28_11, hp28_12, hp28_13, (rg_w r23_2 (by decide)), hf28_15⟩ hpexfs28_6 [0, 1, 2] (by decide) rfl (kq := 2) rfl (Nat.le_of_ble_eq_true rfl) (Nat.le_of_ble_eq_true rfl)
    obtain ⟨fs2_mm28_308, y_mm_528_309, y_mm_628_310, y_mm_728_311⟩ := u28_2
    obtain ⟨hp28_312, hp28_313, hp28_314, hp28_315, hp28_316, hp28_317, hp28_318, hp28_319, hp28_320, hp28_321, hp28_322⟩ := hp28_3
    have hs28_323 : SB fs_mm fs2_mm28_308 [5, 6, 7, 10] := SB.trans hsm24_1 hp28_312 (by decide)
    have hf28_324 : fs2_mm28_308[10]? = some (.int z23_1) := SB.get hp28_312 (by decide) hfm24_1_10
    have hp28_313 : rg y_mm_528_309 0 2 := hp28_313
    have hp28_315 : rg y_mm_628_310 0 2000 := hp28_315
    have hp28_317 : rg y_mm_728_311 0 2002 := hp28_317
    replace hp28_319 : FF (y_mm_728_311.toInt ≤ x_mm_8.toInt) := hp28_319
    replace hp28_320 : FF (y_mm_628_310.toInt ≤ x_mm_8.toInt) := hp28_320
    replace hp28_321 : FF (y_mm_528_309.toInt ≠ 0 → y_mm_628_310.toInt + 1 ≤ y_mm_728_311.toInt) := hp28_321
    replace hp28_322 : FF (x_mm_7.toInt ≤ y_mm_628_310.toInt) := hp28_322
    rw [List.append_nil] at hP hD
    have hP : va_P D vwCl [(mm, .inr (16, fs2_mm28_308)), (utape, .inl (ct 1, 2000, .inl g_utape))] _ := hP
    have hD : va_D A [(mm, .inr (16, fs2_mm28_308)), (utape, .inl (ct 1, 2000, .inl g_utape))] := hD
    refine W.widen (k := 0) (n := 0) (Nat.le_of_ble_eq_true rfl) (Nat.le_of_ble_eq_true rfl) (W.eq (g2 := F0 m 31 ls []) rfl ?_)
    exact et_v (SX := List Value × Int32 × Int32) (pl1 := fun _ => []) hQ hx hb hr hlocks dX16_opensSum_31 (fs2_mm28_308, y_mm_528_309, y_mm_628_310, y_mm_728_311, z23_1) ⟨hs28_323, hp28_313, hp28_314, hp28_315, hp28_316, hp28_317, hp28_318, r23_2, hf28_324, (show y_mm_728_311.toInt ≤ x_mm_8.toInt by have q0 := FF.out hp28_319; omega), (show y_mm_628_310.toInt ≤ x_mm_8.toInt by have q0 := FF.out hp28_320; omega), (show y_mm_528_309.toInt ≠ 0 → y_mm_628_310.toInt + 1 ≤ y_mm_728_311.toInt by have q0 := hp28_313.1; have q1 := FF.out hp28_321; omega), (show x_mm_7.toInt ≤ y_mm_628_310.toInt by have q0 := FF.out hp28_322; omega), (show z23_1.toInt = x_mm_10.toInt + 1 by have q0 := (eq_add ez23_1 h_x_mm_10 (show rg (1 : Int32) 1 1 from rg_l (by decide)) (by decide)); have q1 := (show (1 : Int32).toInt = 1 from by decide); omega)⟩ (by rw [List.append_nil]; exact hP) (by rw [List.append_nil]; exact hD) hS [0, 1] (by decide) rfl (Nat.le_of_ble_eq_true rfl) (Nat.le_of_ble_eq_true rfl) (Nat.le_of_ble_eq_true rfl) (Nat.le_of_ble_eq_true rfl)
  refine lv_icmp_ge (tgt := 13) hx hb dX16_opensSum_6 (by decide) (fun c6_1 => ?_) (fun c6_1 => ?_)
  · have t6_2 := FF.mk (i_le c6_1)
    have r6_3 : rg x_mm_10 2 2 := rg_leB t6_2 (show rg (2 : Int32) 2 2 from rg_l (by decide)) h_x_mm_10 (by decide)
    refine lv_iconst (v := 0) hx hb dX16_opensSum_13 (by decide) ?_
    exact b14 (0 : Int32) H locs ls (rg_w (show rg (0 : Int32) 0 0 from rg_l (by decide)) (by decide)) (lv_sub hl [0] rfl) hP hD hS
  · have t6_2 := FF.mk (i_nle c6_1)
    have r6_3 : rg x_mm_10 0 1 := rg_ltA t6_2 h_x_mm_10 (show rg (2 : Int32) 2 2 from rg_l (by decide)) (by decide)
    refine lv_iconst (v := 1) hx hb dX16_opensSum_9 (by decide) ?_
    refine lv_goto (tgt := 14) hx hb dX16_opensSum_10 (by decide) ?_
    exact b14 (1 : Int32) H locs ls (rg_w (show rg (1 : Int32) 1 1 from rg_l (by decide)) (by decide)) (lv_sub hl [0] rfl) hP hD hS
set_option maxHeartbeats 2000000 in
theorem c_X16_accessOf (l : Launch) (D : va_G) (ct : Nat → ClassId) (mm : Nat) (fs_mm : List Value) (utape : Nat) (x_mm_5 : Int32) (x_mm_6 : Int32) (x_mm_7 : Int32) (g_utape : Nat → Int32) (hlen_mm : fs_mm.length = 78) (hf_mm_0 : fs_mm[0]? = some (.ref utape)) (h_x_mm_5 : rg x_mm_5 0 2) (hf_mm_5 : fs_mm[5]? = some (.int x_mm_5)) (h_x_mm_6 : rg x_mm_6 0 2000) (hf_mm_6 : fs_mm[6]? = some (.int x_mm_6)) (h_x_mm_7 : rg x_mm_7 0 2001) (hf_mm_7 : fs_mm[7]? = some (.int x_mm_7)) (h_g_utape : Rg g_utape 2000 0 255) (hq0 : x_mm_7.toInt ≤ 2000) (hq3 : x_mm_5.toInt ≠ 0 → x_mm_6.toInt + 1 ≤ x_mm_7.toInt) : KI (S := Unit) l yX16_accessOf cX16_accessOf 1 (some .int) 6 128 D ct [.ref mm] [(mm, .inr (16, fs_mm)), (utape, .inl (ct 1, 2000, .inl g_utape))] 0 0 (fun (r : Int32) (_ : Unit) => rg r (-1) 6 ∧ (0 ≤ r.toInt → x_mm_5.toInt ≠ 0) ∧ (0 ≤ r.toInt → x_mm_6.toInt + 2 ≤ x_mm_7.toInt)) (fun (_ : Unit) => [(mm, .inr (16, fs_mm)), (utape, .inl (ct 1, 2000, .inl g_utape))]) := by
  refine KIq_of (by decide) (Nat.le_of_ble_eq_true rfl) (fun p e s m below meth c A Q C0 hA H locs hS hP hD hQ ls hl => ?_)
  obtain ⟨hx, hb, hr, hown, hin, hml, hlocks, hn, hK, hZ, hSK⟩ := C0
  have hl : lv_has ls 1 [(0, .ref mm)] := hl
  replace hq0 := FF.mk hq0
  replace hq3 := FF.mk hq3
  refine lv_aload_n hx hb dX16_accessOf_0 rfl (lv_at hl 0 rfl) ?_
  refine va_ldcwS (own := RX16) (tx := "ether") (index := 378) (q := (ct (100 + 23))) hx hb hown (hSK 23 (by decide)) dX16_accessOf_1 ?_
  refine go_i (k1 := 0) (n1 := 0) (wr := []) [0, 1] [] (rn_V (As := [.ref (ct (100 + 23))]) (rest := []) (c_X16_is l D ct mm 23 5 fs_mm utape x_mm_5 x_mm_6 x_mm_7 g_utape ⟨by decide, rfl⟩ hlen_mm hf_mm_0 h_x_mm_5 hf_mm_5 h_x_mm_6 hf_mm_6 h_x_mm_7 hf_mm_7 h_g_utape (show x_mm_7.toInt ≤ 2000 by have q0 := FF.out hq0; omega) (show x_mm_5.toInt ≠ 0 → x_mm_6.toInt + 1 ≤ x_mm_7.toInt by have q0 := h_x_mm_5.1; have q1 := FF.out hq3; omega) _) (cb_of (n := 1) hn mw_1962 mw_13 mw_1959 mhX16_is ⟨(Nat.le_of_ble_eq_true rfl), (Nat.le_of_ble_eq_true rfl)⟩) hx hb hml hown hn hK hSK hZ hS mw_1961 mw_s186 (ci := 16) (q0 := 0) rfl rfl rfl rfl hl.1 (Nat.le_of_ble_eq_true rfl) dX16_accessOf_4 ⟨(Nat.le_of_ble_eq_true rfl), (Nat.le_of_ble_eq_true rfl)⟩) hP hD hS hA rfl rfl (by decide) (by decide) (by decide) (Nat.le_of_ble_eq_true rfl) (Nat.le_of_ble_eq_true rfl) (fun r4_1 u4_2 H locs hp4_3 hP hD hS => ?_)
  obtain ⟨hp4_4, hp4_5⟩ := hp4_3
  have hp4_4 : rg r4_1 0 1 := hp4_4
  replace hp4_5 : FF (r4_1.toInt = 1 → x_mm_5.toInt ≠ 0 ∧ x_mm_7.toInt - x_mm_6.toInt = ((5 : Nat) : Int)) := hp4_5
  have hP : va_P D vwCl [(mm, .inr (16, fs_mm)), (utape, .inl (ct 1, 2000, .inl g_utape))] _ := hP
  have hD : va_D A [(mm, .inr (16, fs_mm)), (utape, .inl (ct 1, 2000, .inl g_utape))] := hD
  refine lv_if_eq (tgt := 14) hx hb dX16_accessOf_7 (by decide) (fun c7_1 => ?_) (fun c7_1 => ?_)
  · have t7_2 := FF.mk (i_eq c7_1)
    have r7_3 : rg r4_1 0 0 := rg_eqA t7_2 hp4_4 (show rg (0 : Int32) 0 0 from rg_l (by decide)) (by decide)
    refine lv_aload_n hx hb dX16_accessOf_14 rfl (lv_at hl 0 rfl) ?_
    refine va_ldcwS (own := RX16) (tx := "ip") (index := 379) (q := (ct (100 + 24))) hx hb hown (hSK 24 (by decide)) dX16_accessOf_15 ?_
    refine go_i (k1 := 0) (n1 := 0) (wr := []) [0, 1] [] (rn_V (As := [.ref (ct (100 + 24))]) (rest := []) (c_X16_is l D ct mm 24 2 fs_mm utape x_mm_5 x_mm_6 x_mm_7 g_utape ⟨by decide, rfl⟩ hlen_mm hf_mm_0 h_x_mm_5 hf_mm_5 h_x_mm_6 hf_mm_6 h_x_mm_7 hf_mm_7 h_g_utape (show x_mm_7.toInt ≤ 2000 by have q0 := FF.out hq0; omega) (show x_mm_5.toInt ≠ 0 → x_mm_6.toInt + 1 ≤ x_mm_7.toInt by have q0 := h_x_mm_5.1; have q1 := FF.out hq3; omega) _) (cb_of (n := 1) hn mw_1962 mw_13 mw_1959 mhX16_is ⟨(Nat.le_of_ble_eq_true rfl), (Nat.le_of_ble_eq_true rfl)⟩) hx hb hml hown hn hK hSK hZ hS mw_1961 mw_s186 (ci := 16) (q0 := 0) rfl rfl rfl rfl hl.1 (Nat.le_of_ble_eq_true rfl) dX16_accessOf_18 ⟨(Nat.le_of_ble_eq_true rfl), (Nat.le_of_ble_eq_true rfl)⟩) hP hD hS hA rfl rfl (by decide) (by decide) (by decide) (Nat.le_of_ble_eq_true rfl) (Nat.le_of_ble_eq_true rfl) (fun r18_1 u18_2 H locs hp18_3 hP hD hS => ?_)
    obtain ⟨hp18_4, hp18_5⟩ := hp18_3
    have hp18_4 : rg r18_1 0 1 := hp18_4
    replace hp18_5 : FF (r18_1.toInt = 1 → x_mm_5.toInt ≠ 0 ∧ x_mm_7.toInt - x_mm_6.toInt = ((2 : Nat) : Int)) := hp18_5
    have hP : va_P D vwCl [(mm, .inr (16, fs_mm)), (utape, .inl (ct 1, 2000, .inl g_utape))] _ := hP
    have hD : va_D A [(mm, .inr (16, fs_mm)), (utape, .inl (ct 1, 2000, .inl g_utape))] := hD
    refine lv_if_eq (tgt := 28) hx hb dX16_accessOf_21 (by decide) (fun c21_1 => ?_) (fun c21_1 => ?_)
    · have t21_2 := FF.mk (i_eq c21_1)
      have r21_3 : rg r18_1 0 0 := rg_eqA t21_2 hp18_4 (show rg (0 : Int32) 0 0 from rg_l (by decide)) (by decide)
      refine lv_aload_n hx hb dX16_accessOf_28 rfl (lv_at hl 0 rfl) ?_
      refine va_ldcwS (own := RX16) (tx := "ip6") (index := 381) (q := (ct (100 + 25))) hx hb hown (hSK 25 (by decide)) dX16_accessOf_29 ?_
      refine go_i (k1 := 0) (n1 := 0) (wr := []) [0, 1] [] (rn_V (As := [.ref (ct (100 + 25))]) (rest := []) (c_X16_is l D ct mm 25 3 fs_mm utape x_mm_5 x_mm_6 x_mm_7 g_utape ⟨by decide, rfl⟩ hlen_mm hf_mm_0 h_x_mm_5 hf_mm_5 h_x_mm_6 hf_mm_6 h_x_mm_7 hf_mm_7 h_g_utape (show x_mm_7.toInt ≤ 2000 by have q0 := FF.out hq0; omega) (show x_mm_5.toInt ≠ 0 → x_mm_6.toInt + 1 ≤ x_mm_7.toInt by have q0 := h_x_mm_5.1; have q1 := FF.out hq3; omega) _) (cb_of (n := 1) hn mw_1962 mw_13 mw_1959 mhX16_is ⟨(Nat.le_of_ble_eq_true rfl), (Nat.le_of_ble_eq_true rfl)⟩) hx hb hml hown hn hK hSK hZ hS mw_1961 mw_s186 (ci := 16) (q0 := 0) rfl rfl rfl rfl hl.1 (Nat.le_of_ble_eq_true rfl) dX16_accessOf_32 ⟨(Nat.le_of_ble_eq_true rfl), (Nat.le_of_ble_eq_true rfl)⟩) hP hD hS hA rfl rfl (by decide) (by decide) (by decide) (Nat.le_of_ble_eq_true rfl) (Nat.le_of_ble_eq_true rfl) (fun r32_1 u32_2 H locs hp32_3 hP hD hS => ?_)
      obtain ⟨hp32_4, hp32_5⟩ := hp32_3
      have hp32_4 : rg r32_1 0 1 := hp32_4
      replace hp32_5 : FF (r32_1.toInt = 1 → x_mm_5.toInt ≠ 0 ∧ x_mm_7.toInt - x_mm_6.toInt = ((3 : Nat) : Int)) := hp32_5
      have hP : va_P D vwCl [(mm, .inr (16, fs_mm)), (utape, .inl (ct 1, 2000, .inl g_utape))] _ := hP
      have hD : va_D A [(mm, .inr (16, fs_mm)), (utape, .inl (ct 1, 2000, .inl g_utape))] := hD
      refine lv_if_eq (tgt := 42) hx hb dX16_accessOf_35 (by decide) (fun c35_1 => ?_) (fun c35_1 => ?_)
      · have t35_2 := FF.mk (i_eq c35_1)
        have r35_3 : rg r32_1 0 0 := rg_eqA t35_2 hp32_4 (show rg (0 : Int32) 0 0 from rg_l (by decide)) (by decide)
        refine lv_aload_n hx hb dX16_accessOf_42 rfl (lv_at hl 0 rfl) ?_
        refine va_ldcwS (own := RX16) (tx := "arp") (index := 383) (q := (ct (100 + 26))) hx hb hown (hSK 26 (by decide)) dX16_accessOf_43 ?_
        refine go_i (k1 := 0) (n1 := 0) (wr := []) [0, 1] [] (rn_V (As := [.ref (ct (100 + 26))]) (rest := []) (c_X16_is l D ct mm 26 3 fs_mm utape x_mm_5 x_mm_6 x_mm_7 g_utape ⟨by decide, rfl⟩ hlen_mm hf_mm_0 h_x_mm_5 hf_mm_5 h_x_mm_6 hf_mm_6 h_x_mm_7 hf_mm_7 h_g_utape (show x_mm_7.toInt ≤ 2000 by have q0 := FF.out hq0; omega) (show x_mm_5.toInt ≠ 0 → x_mm_6.toInt + 1 ≤ x_mm_7.toInt by have q0 := h_x_mm_5.1; have q1 := FF.out hq3; omega) _) (cb_of (n := 1) hn mw_1962 mw_13 mw_1959 mhX16_is ⟨(Nat.le_of_ble_eq_true rfl), (Nat.le_of_ble_eq_true rfl)⟩) hx hb hml hown hn hK hSK hZ hS mw_1961 mw_s186 (ci := 16) (q0 := 0) rfl rfl rfl rfl hl.1 (Nat.le_of_ble_eq_true rfl) dX16_accessOf_46 ⟨(Nat.le_of_ble_eq_true rfl), (Nat.le_of_ble_eq_true rfl)⟩) hP hD hS hA rfl rfl (by decide) (by decide) (by decide) (Nat.le_of_ble_eq_true rfl) (Nat.le_of_ble_eq_true rfl) (fun r46_1 u46_2 H locs hp46_3 hP hD hS => ?_)
        obtain ⟨hp46_4, hp46_5⟩ := hp46_3
        have hp46_4 : rg r46_1 0 1 := hp46_4
        replace hp46_5 : FF (r46_1.toInt = 1 → x_mm_5.toInt ≠ 0 ∧ x_mm_7.toInt - x_mm_6.toInt = ((3 : Nat) : Int)) := hp46_5
        have hP : va_P D vwCl [(mm, .inr (16, fs_mm)), (utape, .inl (ct 1, 2000, .inl g_utape))] _ := hP
        have hD : va_D A [(mm, .inr (16, fs_mm)), (utape, .inl (ct 1, 2000, .inl g_utape))] := hD
        refine lv_if_eq (tgt := 56) hx hb dX16_accessOf_49 (by decide) (fun c49_1 => ?_) (fun c49_1 => ?_)
        · have t49_2 := FF.mk (i_eq c49_1)
          have r49_3 : rg r46_1 0 0 := rg_eqA t49_2 hp46_4 (show rg (0 : Int32) 0 0 from rg_l (by decide)) (by decide)
          refine lv_aload_n hx hb dX16_accessOf_56 rfl (lv_at hl 0 rfl) ?_
          refine va_ldcwS (own := RX16) (tx := "tcp") (index := 385) (q := (ct (100 + 27))) hx hb hown (hSK 27 (by decide)) dX16_accessOf_57 ?_
          refine go_i (k1 := 0) (n1 := 0) (wr := []) [0, 1] [] (rn_V (As := [.ref (ct (100 + 27))]) (rest := []) (c_X16_is l D ct mm 27 3 fs_mm utape x_mm_5 x_mm_6 x_mm_7 g_utape ⟨by decide, rfl⟩ hlen_mm hf_mm_0 h_x_mm_5 hf_mm_5 h_x_mm_6 hf_mm_6 h_x_mm_7 hf_mm_7 h_g_utape (show x_mm_7.toInt ≤ 2000 by have q0 := FF.out hq0; omega) (show x_mm_5.toInt ≠ 0 → x_mm_6.toInt + 1 ≤ x_mm_7.toInt by have q0 := h_x_mm_5.1; have q1 := FF.out hq3; omega) _) (cb_of (n := 1) hn mw_1962 mw_13 mw_1959 mhX16_is ⟨(Nat.le_of_ble_eq_true rfl), (Nat.le_of_ble_eq_true rfl)⟩) hx hb hml hown hn hK hSK hZ hS mw_1961 mw_s186 (ci := 16) (q0 := 0) rfl rfl rfl rfl hl.1 (Nat.le_of_ble_eq_true rfl) dX16_accessOf_60 ⟨(Nat.le_of_ble_eq_true rfl), (Nat.le_of_ble_eq_true rfl)⟩) hP hD hS hA rfl rfl (by decide) (by decide) (by decide) (Nat.le_of_ble_eq_true rfl) (Nat.le_of_ble_eq_true rfl) (fun r60_1 u60_2 H locs hp60_3 hP hD hS => ?_)
          obtain ⟨hp60_4, hp60_5⟩ := hp60_3
          have hp60_4 : rg r60_1 0 1 := hp60_4
          replace hp60_5 : FF (r60_1.toInt = 1 → x_mm_5.toInt ≠ 0 ∧ x_mm_7.toInt - x_mm_6.toInt = ((3 : Nat) : Int)) := hp60_5
          have hP : va_P D vwCl [(mm, .inr (16, fs_mm)), (utape, .inl (ct 1, 2000, .inl g_utape))] _ := hP
          have hD : va_D A [(mm, .inr (16, fs_mm)), (utape, .inl (ct 1, 2000, .inl g_utape))] := hD
          refine lv_if_eq (tgt := 70) hx hb dX16_accessOf_63 (by decide) (fun c63_1 => ?_) (fun c63_1 => ?_)
          · have t63_2 := FF.mk (i_eq c63_1)
            have r63_3 : rg r60_1 0 0 := rg_eqA t63_2 hp60_4 (show rg (0 : Int32) 0 0 from rg_l (by decide)) (by decide)
            refine lv_aload_n hx hb dX16_accessOf_70 rfl (lv_at hl 0 rfl) ?_
            refine va_ldcwS (own := RX16) (tx := "udp") (index := 387) (q := (ct (100 + 28))) hx hb hown (hSK 28 (by decide)) dX16_accessOf_71 ?_
            refine go_i (k1 := 0) (n1 := 0) (wr := []) [0, 1] [] (rn_V (As := [.ref (ct (100 + 28))]) (rest := []) (c_X16_is l D ct mm 28 3 fs_mm utape x_mm_5 x_mm_6 x_mm_7 g_utape ⟨by decide, rfl⟩ hlen_mm hf_mm_0 h_x_mm_5 hf_mm_5 h_x_mm_6 hf_mm_6 h_x_mm_7 hf_mm_7 h_g_utape (show x_mm_7.toInt ≤ 2000 by have q0 := FF.out hq0; omega) (show x_mm_5.toInt ≠ 0 → x_mm_6.toInt + 1 ≤ x_mm_7.toInt by have q0 := h_x_mm_5.1; have q1 := FF.out hq3; omega) _) (cb_of (n := 1) hn mw_1962 mw_13 mw_1959 mhX16_is ⟨(Nat.le_of_ble_eq_true rfl), (Nat.le_of_ble_eq_true rfl)⟩) hx hb hml hown hn hK hSK hZ hS mw_1961 mw_s186 (ci := 16) (q0 := 0) rfl rfl rfl rfl hl.1 (Nat.le_of_ble_eq_true rfl) dX16_accessOf_74 ⟨(Nat.le_of_ble_eq_true rfl), (Nat.le_of_ble_eq_true rfl)⟩) hP hD hS hA rfl rfl (by decide) (by decide) (by decide) (Nat.le_of_ble_eq_true rfl) (Nat.le_of_ble_eq_true rfl) (fun r74_1 u74_2 H locs hp74_3 hP hD hS => ?_)
            obtain ⟨hp74_4, hp74_5⟩ := hp74_3
            have hp74_4 : rg r74_1 0 1 := hp74_4
            replace hp74_5 : FF (r74_1.toInt = 1 → x_mm_5.toInt ≠ 0 ∧ x_mm_7.toInt - x_mm_6.toInt = ((3 : Nat) : Int)) := hp74_5
            have hP : va_P D vwCl [(mm, .inr (16, fs_mm)), (utape, .inl (ct 1, 2000, .inl g_utape))] _ := hP
            have hD : va_D A [(mm, .inr (16, fs_mm)), (utape, .inl (ct 1, 2000, .inl g_utape))] := hD
            refine lv_if_eq (tgt := 84) hx hb dX16_accessOf_77 (by decide) (fun c77_1 => ?_) (fun c77_1 => ?_)
            · have t77_2 := FF.mk (i_eq c77_1)
              have r77_3 : rg r74_1 0 0 := rg_eqA t77_2 hp74_4 (show rg (0 : Int32) 0 0 from rg_l (by decide)) (by decide)
              refine lv_aload_n hx hb dX16_accessOf_84 rfl (lv_at hl 0 rfl) ?_
              refine va_ldcwS (own := RX16) (tx := "icmp") (index := 389) (q := (ct (100 + 29))) hx hb hown (hSK 29 (by decide)) dX16_accessOf_85 ?_
              refine go_i (k1 := 0) (n1 := 0) (wr := []) [0, 1] [] (rn_V (As := [.ref (ct (100 + 29))]) (rest := []) (c_X16_is l D ct mm 29 4 fs_mm utape x_mm_5 x_mm_6 x_mm_7 g_utape ⟨by decide, rfl⟩ hlen_mm hf_mm_0 h_x_mm_5 hf_mm_5 h_x_mm_6 hf_mm_6 h_x_mm_7 hf_mm_7 h_g_utape (show x_mm_7.toInt ≤ 2000 by have q0 := FF.out hq0; omega) (show x_mm_5.toInt ≠ 0 → x_mm_6.toInt + 1 ≤ x_mm_7.toInt by have q0 := h_x_mm_5.1; have q1 := FF.out hq3; omega) _) (cb_of (n := 1) hn mw_1962 mw_13 mw_1959 mhX16_is ⟨(Nat.le_of_ble_eq_true rfl), (Nat.le_of_ble_eq_true rfl)⟩) hx hb hml hown hn hK hSK hZ hS mw_1961 mw_s186 (ci := 16) (q0 := 0) rfl rfl rfl rfl hl.1 (Nat.le_of_ble_eq_true rfl) dX16_accessOf_88 ⟨(Nat.le_of_ble_eq_true rfl), (Nat.le_of_ble_eq_true rfl)⟩) hP hD hS hA rfl rfl (by decide) (by decide) (by decide) (Nat.le_of_ble_eq_true rfl) (Nat.le_of_ble_eq_true rfl) (fun r88_1 u88_2 H locs hp88_3 hP hD hS => ?_)
              obtain ⟨hp88_4, hp88_5⟩ := hp88_3
              have hp88_4 : rg r88_1 0 1 := hp88_4
              replace hp88_5 : FF (r88_1.toInt = 1 → x_mm_5.toInt ≠ 0 ∧ x_mm_7.toInt - x_mm_6.toInt = ((4 : Nat) : Int)) := hp88_5
              have hP : va_P D vwCl [(mm, .inr (16, fs_mm)), (utape, .inl (ct 1, 2000, .inl g_utape))] _ := hP
              have hD : va_D A [(mm, .inr (16, fs_mm)), (utape, .inl (ct 1, 2000, .inl g_utape))] := hD
              refine lv_if_eq (tgt := 99) hx hb dX16_accessOf_91 (by decide) (fun c91_1 => ?_) (fun c91_1 => ?_)
              · have t91_2 := FF.mk (i_eq c91_1)
                have r91_3 : rg r88_1 0 0 := rg_eqA t91_2 hp88_4 (show rg (0 : Int32) 0 0 from rg_l (by decide)) (by decide)
                refine lv_iconst (v := (-1)) hx hb dX16_accessOf_99 (by decide) ?_
                exact endq_i hQ hx hb hr hlocks dX16_accessOf_100 rfl () ⟨(rg_w (show rg ((-1) : Int32) (-1) (-1) from rg_l (by decide)) (by decide)), (show 0 ≤ (-1 : Int32).toInt → x_mm_5.toInt ≠ 0 by have q0 := (show (-1 : Int32).toInt = -1 from by decide); omega), (show 0 ≤ (-1 : Int32).toInt → x_mm_6.toInt + 2 ≤ x_mm_7.toInt by have q0 := (show (-1 : Int32).toInt = -1 from by decide); omega)⟩ hP hD hS [0, 1] rfl (by decide) rfl (Nat.le_of_ble_eq_true rfl) (Nat.le_of_ble_eq_true rfl)
              · have t91_2 := FF.mk (i_ne c91_1)
                have r91_3 : rg r88_1 1 1 := rg_neAl t91_2 hp88_4 (show rg (0 : Int32) 0 0 from rg_l (by decide)) (by decide)
                refine lv_bipush (v := 6) hx hb dX16_accessOf_94 (by decide) ?_
                refine lv_goto (tgt := 100) hx hb dX16_accessOf_96 (by decide) ?_
                exact endq_i hQ hx hb hr hlocks dX16_accessOf_100 rfl () ⟨(rg_w (show rg (6 : Int32) 6 6 from rg_l (by decide)) (by decide)), (show 0 ≤ (6 : Int32).toInt → x_mm_5.toInt ≠ 0 by have q0 := h_x_mm_5.1; have q1 := r91_3.1; have q2 := r91_3.2; have q3 := FF.out hp88_5; have q4 := (show (6 : Int32).toInt = 6 from by decide); omega), (show 0 ≤ (6 : Int32).toInt → x_mm_6.toInt + 2 ≤ x_mm_7.toInt by have q0 := r91_3.1; have q1 := r91_3.2; have q2 := FF.out hp88_5; have q3 := (show (6 : Int32).toInt = 6 from by decide); omega)⟩ hP hD hS [0, 1] rfl (by decide) rfl (Nat.le_of_ble_eq_true rfl) (Nat.le_of_ble_eq_true rfl)
            · have t77_2 := FF.mk (i_ne c77_1)
              have r77_3 : rg r74_1 1 1 := rg_neAl t77_2 hp74_4 (show rg (0 : Int32) 0 0 from rg_l (by decide)) (by decide)
              refine lv_iconst (v := 5) hx hb dX16_accessOf_80 (by decide) ?_
              refine lv_goto (tgt := 100) hx hb dX16_accessOf_81 (by decide) ?_
              exact endq_i hQ hx hb hr hlocks dX16_accessOf_100 rfl () ⟨(rg_w (show rg (5 : Int32) 5 5 from rg_l (by decide)) (by decide)), (show 0 ≤ (5 : Int32).toInt → x_mm_5.toInt ≠ 0 by have q0 := h_x_mm_5.1; have q1 := r77_3.1; have q2 := r77_3.2; have q3 := FF.out hp74_5; have q4 := (show (5 : Int32).toInt = 5 from by decide); omega), (show 0 ≤ (5 : Int32).toInt → x_mm_6.toInt + 2 ≤ x_mm_7.toInt by have q0 := r77_3.1; have q1 := r77_3.2; have q2 := FF.out hp74_5; have q3 := (show (5 : Int32).toInt = 5 from by decide); omega)⟩ hP hD hS [0, 1] rfl (by decide) rfl (Nat.le_of_ble_eq_true rfl) (Nat.le_of_ble_eq_true rfl)
          · have t63_2 := FF.mk (i_ne c63_1)
            have r63_3 : rg r60_1 1 1 := rg_neAl t63_2 hp60_4 (show rg (0 : Int32) 0 0 from rg_l (by decide)) (by decide)
            refine lv_iconst (v := 4) hx hb dX16_accessOf_66 (by decide) ?_
            refine lv_goto (tgt := 100) hx hb dX16_accessOf_67 (by decide) ?_
            exact endq_i hQ hx hb hr hlocks dX16_accessOf_100 rfl () ⟨(rg_w (show rg (4 : Int32) 4 4 from rg_l (by decide)) (by decide)), (show 0 ≤ (4 : Int32).toInt → x_mm_5.toInt ≠ 0 by have q0 := h_x_mm_5.1; have q1 := r63_3.1; have q2 := r63_3.2; have q3 := FF.out hp60_5; have q4 := (show (4 : Int32).toInt = 4 from by decide); omega), (show 0 ≤ (4 : Int32).toInt → x_mm_6.toInt + 2 ≤ x_mm_7.toInt by have q0 := r63_3.1; have q1 := r63_3.2; have q2 := FF.out hp60_5; have q3 := (show (4 : Int32).toInt = 4 from by decide); omega)⟩ hP hD hS [0, 1] rfl (by decide) rfl (Nat.le_of_ble_eq_true rfl) (Nat.le_of_ble_eq_true rfl)
        · have t49_2 := FF.mk (i_ne c49_1)
          have r49_3 : rg r46_1 1 1 := rg_neAl t49_2 hp46_4 (show rg (0 : Int32) 0 0 from rg_l (by decide)) (by decide)
          refine lv_iconst (v := 3) hx hb dX16_accessOf_52 (by decide) ?_
          refine lv_goto (tgt := 100) hx hb dX16_accessOf_53 (by decide) ?_
          exact endq_i hQ hx hb hr hlocks dX16_accessOf_100 rfl () ⟨(rg_w (show rg (3 : Int32) 3 3 from rg_l (by decide)) (by decide)), (show 0 ≤ (3 : Int32).toInt → x_mm_5.toInt ≠ 0 by have q0 := h_x_mm_5.1; have q1 := r49_3.1; have q2 := r49_3.2; have q3 := FF.out hp46_5; have q4 := (show (3 : Int32).toInt = 3 from by decide); omega), (show 0 ≤ (3 : Int32).toInt → x_mm_6.toInt + 2 ≤ x_mm_7.toInt by have q0 := r49_3.1; have q1 := r49_3.2; have q2 := FF.out hp46_5; have q3 := (show (3 : Int32).toInt = 3 from by decide); omega)⟩ hP hD hS [0, 1] rfl (by decide) rfl (Nat.le_of_ble_eq_true rfl) (Nat.le_of_ble_eq_true rfl)
      · have t35_2 := FF.mk (i_ne c35_1)
        have r35_3 : rg r32_1 1 1 := rg_neAl t35_2 hp32_4 (show rg (0 : Int32) 0 0 from rg_l (by decide)) (by decide)
        refine lv_iconst (v := 2) hx hb dX16_accessOf_38 (by decide) ?_
        refine lv_goto (tgt := 100) hx hb dX16_accessOf_39 (by decide) ?_
        exact endq_i hQ hx hb hr hlocks dX16_accessOf_100 rfl () ⟨(rg_w (show rg (2 : Int32) 2 2 from rg_l (by decide)) (by decide)), (show 0 ≤ (2 : Int32).toInt → x_mm_5.toInt ≠ 0 by have q0 := h_x_mm_5.1; have q1 := r35_3.1; have q2 := r35_3.2; have q3 := FF.out hp32_5; have q4 := (show (2 : Int32).toInt = 2 from by decide); omega), (show 0 ≤ (2 : Int32).toInt → x_mm_6.toInt + 2 ≤ x_mm_7.toInt by have q0 := r35_3.1; have q1 := r35_3.2; have q2 := FF.out hp32_5; have q3 := (show (2 : Int32).toInt = 2 from by decide); omega)⟩ hP hD hS [0, 1] rfl (by decide) rfl (Nat.le_of_ble_eq_true rfl) (Nat.le_of_ble_eq_true rfl)
    · have t21_2 := FF.mk (i_ne c21_1)
      have r21_3 : rg r18_1 1 1 := rg_neAl t21_2 hp18_4 (show rg (0 : Int32) 0 0 from rg_l (by decide)) (by decide)
      refine lv_iconst (v := 1) hx hb dX16_accessOf_24 (by decide) ?_
      refine lv_goto (tgt := 100) hx hb dX16_accessOf_25 (by decide) ?_
      exact endq_i hQ hx hb hr hlocks dX16_accessOf_100 rfl () ⟨(rg_w (show rg (1 : Int32) 1 1 from rg_l (by decide)) (by decide)), (show 0 ≤ (1 : Int32).toInt → x_mm_5.toInt ≠ 0 by have q0 := h_x_mm_5.1; have q1 := r21_3.1; have q2 := r21_3.2; have q3 := FF.out hp18_5; have q4 := (show (1 : Int32).toInt = 1 from by decide); omega), (show 0 ≤ (1 : Int32).toInt → x_mm_6.toInt + 2 ≤ x_mm_7.toInt by have q0 := r21_3.1; have q1 := r21_3.2; have q2 := FF.out hp18_5; have q3 := (show (1 : Int32).toInt = 1 from by decide); omega)⟩ hP hD hS [0, 1] rfl (by decide) rfl (Nat.le_of_ble_eq_true rfl) (Nat.le_of_ble_eq_true rfl)
  · have t7_2 := FF.mk (i_ne c7_1)
    have r7_3 : rg r4_1 1 1 := rg_neAl t7_2 hp4_4 (show rg (0 : Int32) 0 0 from rg_l (by decide)) (by decide)
    refine lv_iconst (v := 0) hx hb dX16_accessOf_10 (by decide) ?_
    refine lv_goto (tgt := 100) hx hb dX16_accessOf_11 (by decide) ?_
    exact endq_i hQ hx hb hr hlocks dX16_accessOf_100 rfl () ⟨(rg_w (show rg (0 : Int32) 0 0 from rg_l (by decide)) (by decide)), (show 0 ≤ (0 : Int32).toInt → x_mm_5.toInt ≠ 0 by have q0 := h_x_mm_5.1; have q1 := r7_3.1; have q2 := r7_3.2; have q3 := FF.out hp4_5; have q4 := (show (0 : Int32).toInt = 0 from by decide); omega), (show 0 ≤ (0 : Int32).toInt → x_mm_6.toInt + 2 ≤ x_mm_7.toInt by have q0 := r7_3.1; have q1 := r7_3.2; have q2 := FF.out hp4_5; have q3 := (show (0 : Int32).toInt = 0 from by decide); omega)⟩ hP hD hS [0, 1] rfl (by decide) rfl (Nat.le_of_ble_eq_true rfl) (Nat.le_of_ble_eq_true rfl)
set_option maxHeartbeats 2000000 in
theorem c_X16_sumOp (l : Launch) (D : va_G) (ct : Nat → ClassId) (mm : Nat) (fs_mm : List Value) (utape : Nat) (x_mm_5 : Int32) (x_mm_6 : Int32) (x_mm_7 : Int32) (g_utape : Nat → Int32) (hlen_mm : fs_mm.length = 78) (hf_mm_0 : fs_mm[0]? = some (.ref utape)) (h_x_mm_5 : rg x_mm_5 0 2) (hf_mm_5 : fs_mm[5]? = some (.int x_mm_5)) (h_x_mm_6 : rg x_mm_6 0 2000) (hf_mm_6 : fs_mm[6]? = some (.int x_mm_6)) (h_x_mm_7 : rg x_mm_7 0 2001) (hf_mm_7 : fs_mm[7]? = some (.int x_mm_7)) (h_g_utape : Rg g_utape 2000 0 255) (hq0 : x_mm_7.toInt ≤ 2000) (hq3 : x_mm_5.toInt ≠ 0 → x_mm_6.toInt + 1 ≤ x_mm_7.toInt) : KI (S := Unit) l yX16_sumOp cX16_sumOp 1 (some .int) 6 128 D ct [.ref mm] [(mm, .inr (16, fs_mm)), (utape, .inl (ct 1, 2000, .inl g_utape))] 0 0 (fun (r : Int32) (_ : Unit) => rg r (-1) 10 ∧ (0 ≤ r.toInt → x_mm_5.toInt ≠ 0)) (fun (_ : Unit) => [(mm, .inr (16, fs_mm)), (utape, .inl (ct 1, 2000, .inl g_utape))]) := by
  refine KIq_of (by decide) (Nat.le_of_ble_eq_true rfl) (fun p e s m below meth c A Q C0 hA H locs hS hP hD hQ ls hl => ?_)
  obtain ⟨hx, hb, hr, hown, hin, hml, hlocks, hn, hK, hZ, hSK⟩ := C0
  have hl : lv_has ls 1 [(0, .ref mm)] := hl
  replace hq0 := FF.mk hq0
  replace hq3 := FF.mk hq3
  refine lv_aload_n hx hb dX16_sumOp_0 rfl (lv_at hl 0 rfl) ?_
  refine va_ldcwS (own := RX16) (tx := "+") (index := 444) (q := (ct (100 + 43))) hx hb hown (hSK 43 (by decide)) dX16_sumOp_1 ?_
  refine go_i (k1 := 0) (n1 := 0) (wr := []) [0, 1] [] (rn_V (As := [.ref (ct (100 + 43))]) (rest := []) (c_X16_is l D ct mm 43 1 fs_mm utape x_mm_5 x_mm_6 x_mm_7 g_utape ⟨by decide, rfl⟩ hlen_mm hf_mm_0 h_x_mm_5 hf_mm_5 h_x_mm_6 hf_mm_6 h_x_mm_7 hf_mm_7 h_g_utape (show x_mm_7.toInt ≤ 2000 by have q0 := FF.out hq0; omega) (show x_mm_5.toInt ≠ 0 → x_mm_6.toInt + 1 ≤ x_mm_7.toInt by have q0 := h_x_mm_5.1; have q1 := FF.out hq3; omega) _) (cb_of (n := 1) hn mw_1962 mw_13 mw_1959 mhX16_is ⟨(Nat.le_of_ble_eq_true rfl), (Nat.le_of_ble_eq_true rfl)⟩) hx hb hml hown hn hK hSK hZ hS mw_1961 mw_s186 (ci := 16) (q0 := 0) rfl rfl rfl rfl hl.1 (Nat.le_of_ble_eq_true rfl) dX16_sumOp_4 ⟨(Nat.le_of_ble_eq_true rfl), (Nat.le_of_ble_eq_true rfl)⟩) hP hD hS hA rfl rfl (by decide) (by decide) (by decide) (Nat.le_of_ble_eq_true rfl) (Nat.le_of_ble_eq_true rfl) (fun r4_1 u4_2 H locs hp4_3 hP hD hS => ?_)
  obtain ⟨hp4_4, hp4_5⟩ := hp4_3
  have hp4_4 : rg r4_1 0 1 := hp4_4
  replace hp4_5 : FF (r4_1.toInt = 1 → x_mm_5.toInt ≠ 0 ∧ x_mm_7.toInt - x_mm_6.toInt = ((1 : Nat) : Int)) := hp4_5
  have hP : va_P D vwCl [(mm, .inr (16, fs_mm)), (utape, .inl (ct 1, 2000, .inl g_utape))] _ := hP
  have hD : va_D A [(mm, .inr (16, fs_mm)), (utape, .inl (ct 1, 2000, .inl g_utape))] := hD
  refine lv_if_eq (tgt := 14) hx hb dX16_sumOp_7 (by decide) (fun c7_1 => ?_) (fun c7_1 => ?_)
  · have t7_2 := FF.mk (i_eq c7_1)
    have r7_3 : rg r4_1 0 0 := rg_eqA t7_2 hp4_4 (show rg (0 : Int32) 0 0 from rg_l (by decide)) (by decide)
    refine lv_aload_n hx hb dX16_sumOp_14 rfl (lv_at hl 0 rfl) ?_
    refine va_ldcwS (own := RX16) (tx := "-") (index := 414) (q := (ct (100 + 31))) hx hb hown (hSK 31 (by decide)) dX16_sumOp_15 ?_
    refine go_i (k1 := 0) (n1 := 0) (wr := []) [0, 1] [] (rn_V (As := [.ref (ct (100 + 31))]) (rest := []) (c_X16_is l D ct mm 31 1 fs_mm utape x_mm_5 x_mm_6 x_mm_7 g_utape ⟨by decide, rfl⟩ hlen_mm hf_mm_0 h_x_mm_5 hf_mm_5 h_x_mm_6 hf_mm_6 h_x_mm_7 hf_mm_7 h_g_utape (show x_mm_7.toInt ≤ 2000 by have q0 := FF.out hq0; omega) (show x_mm_5.toInt ≠ 0 → x_mm_6.toInt + 1 ≤ x_mm_7.toInt by have q0 := h_x_mm_5.1; have q1 := FF.out hq3; omega) _) (cb_of (n := 1) hn mw_1962 mw_13 mw_1959 mhX16_is ⟨(Nat.le_of_ble_eq_true rfl), (Nat.le_of_ble_eq_true rfl)⟩) hx hb hml hown hn hK hSK hZ hS mw_1961 mw_s186 (ci := 16) (q0 := 0) rfl rfl rfl rfl hl.1 (Nat.le_of_ble_eq_true rfl) dX16_sumOp_18 ⟨(Nat.le_of_ble_eq_true rfl), (Nat.le_of_ble_eq_true rfl)⟩) hP hD hS hA rfl rfl (by decide) (by decide) (by decide) (Nat.le_of_ble_eq_true rfl) (Nat.le_of_ble_eq_true rfl) (fun r18_1 u18_2 H locs hp18_3 hP hD hS => ?_)
    obtain ⟨hp18_4, hp18_5⟩ := hp18_3
    have hp18_4 : rg r18_1 0 1 := hp18_4
    replace hp18_5 : FF (r18_1.toInt = 1 → x_mm_5.toInt ≠ 0 ∧ x_mm_7.toInt - x_mm_6.toInt = ((1 : Nat) : Int)) := hp18_5
    have hP : va_P D vwCl [(mm, .inr (16, fs_mm)), (utape, .inl (ct 1, 2000, .inl g_utape))] _ := hP
    have hD : va_D A [(mm, .inr (16, fs_mm)), (utape, .inl (ct 1, 2000, .inl g_utape))] := hD
    refine lv_if_eq (tgt := 28) hx hb dX16_sumOp_21 (by decide) (fun c21_1 => ?_) (fun c21_1 => ?_)
    · have t21_2 := FF.mk (i_eq c21_1)
      have r21_3 : rg r18_1 0 0 := rg_eqA t21_2 hp18_4 (show rg (0 : Int32) 0 0 from rg_l (by decide)) (by decide)
      refine lv_aload_n hx hb dX16_sumOp_28 rfl (lv_at hl 0 rfl) ?_
      refine va_ldcwS (own := RX16) (tx := "|") (index := 446) (q := (ct (100 + 44))) hx hb hown (hSK 44 (by decide)) dX16_sumOp_29 ?_
      refine go_i (k1 := 0) (n1 := 0) (wr := []) [0, 1] [] (rn_V (As := [.ref (ct (100 + 44))]) (rest := []) (c_X16_is l D ct mm 44 1 fs_mm utape x_mm_5 x_mm_6 x_mm_7 g_utape ⟨by decide, rfl⟩ hlen_mm hf_mm_0 h_x_mm_5 hf_mm_5 h_x_mm_6 hf_mm_6 h_x_mm_7 hf_mm_7 h_g_utape (show x_mm_7.toInt ≤ 2000 by have q0 := FF.out hq0; omega) (show x_mm_5.toInt ≠ 0 → x_mm_6.toInt + 1 ≤ x_mm_7.toInt by have q0 := h_x_mm_5.1; have q1 := FF.out hq3; omega) _) (cb_of (n := 1) hn mw_1962 mw_13 mw_1959 mhX16_is ⟨(Nat.le_of_ble_eq_true rfl), (Nat.le_of_ble_eq_true rfl)⟩) hx hb hml hown hn hK hSK hZ hS mw_1961 mw_s186 (ci := 16) (q0 := 0) rfl rfl rfl rfl hl.1 (Nat.le_of_ble_eq_true rfl) dX16_sumOp_32 ⟨(Nat.le_of_ble_eq_true rfl), (Nat.le_of_ble_eq_true rfl)⟩) hP hD hS hA rfl rfl (by decide) (by decide) (by decide) (Nat.le_of_ble_eq_true rfl) (Nat.le_of_ble_eq_true rfl) (fun r32_1 u32_2 H locs hp32_3 hP hD hS => ?_)
      obtain ⟨hp32_4, hp32_5⟩ := hp32_3
      have hp32_4 : rg r32_1 0 1 := hp32_4
      replace hp32_5 : FF (r32_1.toInt = 1 → x_mm_5.toInt ≠ 0 ∧ x_mm_7.toInt - x_mm_6.toInt = ((1 : Nat) : Int)) := hp32_5
      have hP : va_P D vwCl [(mm, .inr (16, fs_mm)), (utape, .inl (ct 1, 2000, .inl g_utape))] _ := hP
      have hD : va_D A [(mm, .inr (16, fs_mm)), (utape, .inl (ct 1, 2000, .inl g_utape))] := hD
      refine lv_if_eq (tgt := 42) hx hb dX16_sumOp_35 (by decide) (fun c35_1 => ?_) (fun c35_1 => ?_)
      · have t35_2 := FF.mk (i_eq c35_1)
        have r35_3 : rg r32_1 0 0 := rg_eqA t35_2 hp32_4 (show rg (0 : Int32) 0 0 from rg_l (by decide)) (by decide)
        refine lv_aload_n hx hb dX16_sumOp_42 rfl (lv_at hl 0 rfl) ?_
        refine va_ldcwS (own := RX16) (tx := "^") (index := 448) (q := (ct (100 + 45))) hx hb hown (hSK 45 (by decide)) dX16_sumOp_43 ?_
        refine go_i (k1 := 0) (n1 := 0) (wr := []) [0, 1] [] (rn_V (As := [.ref (ct (100 + 45))]) (rest := []) (c_X16_is l D ct mm 45 1 fs_mm utape x_mm_5 x_mm_6 x_mm_7 g_utape ⟨by decide, rfl⟩ hlen_mm hf_mm_0 h_x_mm_5 hf_mm_5 h_x_mm_6 hf_mm_6 h_x_mm_7 hf_mm_7 h_g_utape (show x_mm_7.toInt ≤ 2000 by have q0 := FF.out hq0; omega) (show x_mm_5.toInt ≠ 0 → x_mm_6.toInt + 1 ≤ x_mm_7.toInt by have q0 := h_x_mm_5.1; have q1 := FF.out hq3; omega) _) (cb_of (n := 1) hn mw_1962 mw_13 mw_1959 mhX16_is ⟨(Nat.le_of_ble_eq_true rfl), (Nat.le_of_ble_eq_true rfl)⟩) hx hb hml hown hn hK hSK hZ hS mw_1961 mw_s186 (ci := 16) (q0 := 0) rfl rfl rfl rfl hl.1 (Nat.le_of_ble_eq_true rfl) dX16_sumOp_46 ⟨(Nat.le_of_ble_eq_true rfl), (Nat.le_of_ble_eq_true rfl)⟩) hP hD hS hA rfl rfl (by decide) (by decide) (by decide) (Nat.le_of_ble_eq_true rfl) (Nat.le_of_ble_eq_true rfl) (fun r46_1 u46_2 H locs hp46_3 hP hD hS => ?_)
        obtain ⟨hp46_4, hp46_5⟩ := hp46_3
        have hp46_4 : rg r46_1 0 1 := hp46_4
        replace hp46_5 : FF (r46_1.toInt = 1 → x_mm_5.toInt ≠ 0 ∧ x_mm_7.toInt - x_mm_6.toInt = ((1 : Nat) : Int)) := hp46_5
        have hP : va_P D vwCl [(mm, .inr (16, fs_mm)), (utape, .inl (ct 1, 2000, .inl g_utape))] _ := hP
        have hD : va_D A [(mm, .inr (16, fs_mm)), (utape, .inl (ct 1, 2000, .inl g_utape))] := hD
        refine lv_if_eq (tgt := 57) hx hb dX16_sumOp_49 (by decide) (fun c49_1 => ?_) (fun c49_1 => ?_)
        · have t49_2 := FF.mk (i_eq c49_1)
          have r49_3 : rg r46_1 0 0 := rg_eqA t49_2 hp46_4 (show rg (0 : Int32) 0 0 from rg_l (by decide)) (by decide)
          refine lv_iconst (v := (-1)) hx hb dX16_sumOp_57 (by decide) ?_
          exact endq_i hQ hx hb hr hlocks dX16_sumOp_58 rfl () ⟨(rg_w (show rg ((-1) : Int32) (-1) (-1) from rg_l (by decide)) (by decide)), (show 0 ≤ (-1 : Int32).toInt → x_mm_5.toInt ≠ 0 by have q0 := (show (-1 : Int32).toInt = -1 from by decide); omega)⟩ hP hD hS [0, 1] rfl (by decide) rfl (Nat.le_of_ble_eq_true rfl) (Nat.le_of_ble_eq_true rfl)
        · have t49_2 := FF.mk (i_ne c49_1)
          have r49_3 : rg r46_1 1 1 := rg_neAl t49_2 hp46_4 (show rg (0 : Int32) 0 0 from rg_l (by decide)) (by decide)
          refine lv_bipush (v := 10) hx hb dX16_sumOp_52 (by decide) ?_
          refine lv_goto (tgt := 58) hx hb dX16_sumOp_54 (by decide) ?_
          exact endq_i hQ hx hb hr hlocks dX16_sumOp_58 rfl () ⟨(rg_w (show rg (10 : Int32) 10 10 from rg_l (by decide)) (by decide)), (show 0 ≤ (10 : Int32).toInt → x_mm_5.toInt ≠ 0 by have q0 := h_x_mm_5.1; have q1 := r49_3.1; have q2 := r49_3.2; have q3 := FF.out hp46_5; have q4 := (show (10 : Int32).toInt = 10 from by decide); omega)⟩ hP hD hS [0, 1] rfl (by decide) rfl (Nat.le_of_ble_eq_true rfl) (Nat.le_of_ble_eq_true rfl)
      · have t35_2 := FF.mk (i_ne c35_1)
        have r35_3 : rg r32_1 1 1 := rg_neAl t35_2 hp32_4 (show rg (0 : Int32) 0 0 from rg_l (by decide)) (by decide)
        refine lv_iconst (v := 4) hx hb dX16_sumOp_38 (by decide) ?_
        refine lv_goto (tgt := 58) hx hb dX16_sumOp_39 (by decide) ?_
        exact endq_i hQ hx hb hr hlocks dX16_sumOp_58 rfl () ⟨(rg_w (show rg (4 : Int32) 4 4 from rg_l (by decide)) (by decide)), (show 0 ≤ (4 : Int32).toInt → x_mm_5.toInt ≠ 0 by have q0 := h_x_mm_5.1; have q1 := r35_3.1; have q2 := r35_3.2; have q3 := FF.out hp32_5; have q4 := (show (4 : Int32).toInt = 4 from by decide); omega)⟩ hP hD hS [0, 1] rfl (by decide) rfl (Nat.le_of_ble_eq_true rfl) (Nat.le_of_ble_eq_true rfl)
    · have t21_2 := FF.mk (i_ne c21_1)
      have r21_3 : rg r18_1 1 1 := rg_neAl t21_2 hp18_4 (show rg (0 : Int32) 0 0 from rg_l (by decide)) (by decide)
      refine lv_iconst (v := 1) hx hb dX16_sumOp_24 (by decide) ?_
      refine lv_goto (tgt := 58) hx hb dX16_sumOp_25 (by decide) ?_
      exact endq_i hQ hx hb hr hlocks dX16_sumOp_58 rfl () ⟨(rg_w (show rg (1 : Int32) 1 1 from rg_l (by decide)) (by decide)), (show 0 ≤ (1 : Int32).toInt → x_mm_5.toInt ≠ 0 by have q0 := h_x_mm_5.1; have q1 := r21_3.1; have q2 := r21_3.2; have q3 := FF.out hp18_5; have q4 := (show (1 : Int32).toInt = 1 from by decide); omega)⟩ hP hD hS [0, 1] rfl (by decide) rfl (Nat.le_of_ble_eq_true rfl) (Nat.le_of_ble_eq_true rfl)
  · have t7_2 := FF.mk (i_ne c7_1)
    have r7_3 : rg r4_1 1 1 := rg_neAl t7_2 hp4_4 (show rg (0 : Int32) 0 0 from rg_l (by decide)) (by decide)
    refine lv_iconst (v := 0) hx hb dX16_sumOp_10 (by decide) ?_
    refine lv_goto (tgt := 58) hx hb dX16_sumOp_11 (by decide) ?_
    exact endq_i hQ hx hb hr hlocks dX16_sumOp_58 rfl () ⟨(rg_w (show rg (0 : Int32) 0 0 from rg_l (by decide)) (by decide)), (show 0 ≤ (0 : Int32).toInt → x_mm_5.toInt ≠ 0 by have q0 := h_x_mm_5.1; have q1 := r7_3.1; have q2 := r7_3.2; have q3 := FF.out hp4_5; have q4 := (show (0 : Int32).toInt = 0 from by decide); omega)⟩ hP hD hS [0, 1] rfl (by decide) rfl (Nat.le_of_ble_eq_true rfl) (Nat.le_of_ble_eq_true rfl)
set_option maxHeartbeats 2000000 in
theorem c_X16_productOp (l : Launch) (D : va_G) (ct : Nat → ClassId) (mm : Nat) (fs_mm : List Value) (utape : Nat) (x_mm_5 : Int32) (x_mm_6 : Int32) (x_mm_7 : Int32) (g_utape : Nat → Int32) (hlen_mm : fs_mm.length = 78) (hf_mm_0 : fs_mm[0]? = some (.ref utape)) (h_x_mm_5 : rg x_mm_5 0 2) (hf_mm_5 : fs_mm[5]? = some (.int x_mm_5)) (h_x_mm_6 : rg x_mm_6 0 2000) (hf_mm_6 : fs_mm[6]? = some (.int x_mm_6)) (h_x_mm_7 : rg x_mm_7 0 2001) (hf_mm_7 : fs_mm[7]? = some (.int x_mm_7)) (h_g_utape : Rg g_utape 2000 0 255) (hq0 : x_mm_7.toInt ≤ 2000) (hq3 : x_mm_5.toInt ≠ 0 → x_mm_6.toInt + 1 ≤ x_mm_7.toInt) : KI (S := Unit) l yX16_productOp cX16_productOp 1 (some .int) 6 128 D ct [.ref mm] [(mm, .inr (16, fs_mm)), (utape, .inl (ct 1, 2000, .inl g_utape))] 0 0 (fun (r : Int32) (_ : Unit) => rg r (-1) 9 ∧ (0 ≤ r.toInt → x_mm_5.toInt ≠ 0)) (fun (_ : Unit) => [(mm, .inr (16, fs_mm)), (utape, .inl (ct 1, 2000, .inl g_utape))]) := by
  refine KIq_of (by decide) (Nat.le_of_ble_eq_true rfl) (fun p e s m below meth c A Q C0 hA H locs hS hP hD hQ ls hl => ?_)
  obtain ⟨hx, hb, hr, hown, hin, hml, hlocks, hn, hK, hZ, hSK⟩ := C0
  have hl : lv_has ls 1 [(0, .ref mm)] := hl
  replace hq0 := FF.mk hq0
  replace hq3 := FF.mk hq3
  refine lv_aload_n hx hb dX16_productOp_0 rfl (lv_at hl 0 rfl) ?_
  refine va_ldcwS (own := RX16) (tx := "*") (index := 457) (q := (ct (100 + 37))) hx hb hown (hSK 37 (by decide)) dX16_productOp_1 ?_
  refine go_i (k1 := 0) (n1 := 0) (wr := []) [0, 1] [] (rn_V (As := [.ref (ct (100 + 37))]) (rest := []) (c_X16_is l D ct mm 37 1 fs_mm utape x_mm_5 x_mm_6 x_mm_7 g_utape ⟨by decide, rfl⟩ hlen_mm hf_mm_0 h_x_mm_5 hf_mm_5 h_x_mm_6 hf_mm_6 h_x_mm_7 hf_mm_7 h_g_utape (show x_mm_7.toInt ≤ 2000 by have q0 := FF.out hq0; omega) (show x_mm_5.toInt ≠ 0 → x_mm_6.toInt + 1 ≤ x_mm_7.toInt by have q0 := h_x_mm_5.1; have q1 := FF.out hq3; omega) _) (cb_of (n := 1) hn mw_1962 mw_13 mw_1959 mhX16_is ⟨(Nat.le_of_ble_eq_true rfl), (Nat.le_of_ble_eq_true rfl)⟩) hx hb hml hown hn hK hSK hZ hS mw_1961 mw_s186 (ci := 16) (q0 := 0) rfl rfl rfl rfl hl.1 (Nat.le_of_ble_eq_true rfl) dX16_productOp_4 ⟨(Nat.le_of_ble_eq_true rfl), (Nat.le_of_ble_eq_true rfl)⟩) hP hD hS hA rfl rfl (by decide) (by decide) (by decide) (Nat.le_of_ble_eq_true rfl) (Nat.le_of_ble_eq_true rfl) (fun r4_1 u4_2 H locs hp4_3 hP hD hS => ?_)
  obtain ⟨hp4_4, hp4_5⟩ := hp4_3
  have hp4_4 : rg r4_1 0 1 := hp4_4
  replace hp4_5 : FF (r4_1.toInt = 1 → x_mm_5.toInt ≠ 0 ∧ x_mm_7.toInt - x_mm_6.toInt = ((1 : Nat) : Int)) := hp4_5
  have hP : va_P D vwCl [(mm, .inr (16, fs_mm)), (utape, .inl (ct 1, 2000, .inl g_utape))] _ := hP
  have hD : va_D A [(mm, .inr (16, fs_mm)), (utape, .inl (ct 1, 2000, .inl g_utape))] := hD
  refine lv_if_eq (tgt := 14) hx hb dX16_productOp_7 (by decide) (fun c7_1 => ?_) (fun c7_1 => ?_)
  · have t7_2 := FF.mk (i_eq c7_1)
    have r7_3 : rg r4_1 0 0 := rg_eqA t7_2 hp4_4 (show rg (0 : Int32) 0 0 from rg_l (by decide)) (by decide)
    refine lv_aload_n hx hb dX16_productOp_14 rfl (lv_at hl 0 rfl) ?_
    refine va_ldcwS (own := RX16) (tx := "/") (index := 410) (q := (ct (100 + 38))) hx hb hown (hSK 38 (by decide)) dX16_productOp_15 ?_
    refine go_i (k1 := 0) (n1 := 0) (wr := []) [0, 1] [] (rn_V (As := [.ref (ct (100 + 38))]) (rest := []) (c_X16_is l D ct mm 38 1 fs_mm utape x_mm_5 x_mm_6 x_mm_7 g_utape ⟨by decide, rfl⟩ hlen_mm hf_mm_0 h_x_mm_5 hf_mm_5 h_x_mm_6 hf_mm_6 h_x_mm_7 hf_mm_7 h_g_utape (show x_mm_7.toInt ≤ 2000 by have q0 := FF.out hq0; omega) (show x_mm_5.toInt ≠ 0 → x_mm_6.toInt + 1 ≤ x_mm_7.toInt by have q0 := h_x_mm_5.1; have q1 := FF.out hq3; omega) _) (cb_of (n := 1) hn mw_1962 mw_13 mw_1959 mhX16_is ⟨(Nat.le_of_ble_eq_true rfl), (Nat.le_of_ble_eq_true rfl)⟩) hx hb hml hown hn hK hSK hZ hS mw_1961 mw_s186 (ci := 16) (q0 := 0) rfl rfl rfl rfl hl.1 (Nat.le_of_ble_eq_true rfl) dX16_productOp_18 ⟨(Nat.le_of_ble_eq_true rfl), (Nat.le_of_ble_eq_true rfl)⟩) hP hD hS hA rfl rfl (by decide) (by decide) (by decide) (Nat.le_of_ble_eq_true rfl) (Nat.le_of_ble_eq_true rfl) (fun r18_1 u18_2 H locs hp18_3 hP hD hS => ?_)
    obtain ⟨hp18_4, hp18_5⟩ := hp18_3
    have hp18_4 : rg r18_1 0 1 := hp18_4
    replace hp18_5 : FF (r18_1.toInt = 1 → x_mm_5.toInt ≠ 0 ∧ x_mm_7.toInt - x_mm_6.toInt = ((1 : Nat) : Int)) := hp18_5
    have hP : va_P D vwCl [(mm, .inr (16, fs_mm)), (utape, .inl (ct 1, 2000, .inl g_utape))] _ := hP
    have hD : va_D A [(mm, .inr (16, fs_mm)), (utape, .inl (ct 1, 2000, .inl g_utape))] := hD
    refine lv_if_eq (tgt := 28) hx hb dX16_productOp_21 (by decide) (fun c21_1 => ?_) (fun c21_1 => ?_)
    · have t21_2 := FF.mk (i_eq c21_1)
      have r21_3 : rg r18_1 0 0 := rg_eqA t21_2 hp18_4 (show rg (0 : Int32) 0 0 from rg_l (by decide)) (by decide)
      refine lv_aload_n hx hb dX16_productOp_28 rfl (lv_at hl 0 rfl) ?_
      refine va_ldcwS (own := RX16) (tx := "%") (index := 459) (q := (ct (100 + 39))) hx hb hown (hSK 39 (by decide)) dX16_productOp_29 ?_
      refine go_i (k1 := 0) (n1 := 0) (wr := []) [0, 1] [] (rn_V (As := [.ref (ct (100 + 39))]) (rest := []) (c_X16_is l D ct mm 39 1 fs_mm utape x_mm_5 x_mm_6 x_mm_7 g_utape ⟨by decide, rfl⟩ hlen_mm hf_mm_0 h_x_mm_5 hf_mm_5 h_x_mm_6 hf_mm_6 h_x_mm_7 hf_mm_7 h_g_utape (show x_mm_7.toInt ≤ 2000 by have q0 := FF.out hq0; omega) (show x_mm_5.toInt ≠ 0 → x_mm_6.toInt + 1 ≤ x_mm_7.toInt by have q0 := h_x_mm_5.1; have q1 := FF.out hq3; omega) _) (cb_of (n := 1) hn mw_1962 mw_13 mw_1959 mhX16_is ⟨(Nat.le_of_ble_eq_true rfl), (Nat.le_of_ble_eq_true rfl)⟩) hx hb hml hown hn hK hSK hZ hS mw_1961 mw_s186 (ci := 16) (q0 := 0) rfl rfl rfl rfl hl.1 (Nat.le_of_ble_eq_true rfl) dX16_productOp_32 ⟨(Nat.le_of_ble_eq_true rfl), (Nat.le_of_ble_eq_true rfl)⟩) hP hD hS hA rfl rfl (by decide) (by decide) (by decide) (Nat.le_of_ble_eq_true rfl) (Nat.le_of_ble_eq_true rfl) (fun r32_1 u32_2 H locs hp32_3 hP hD hS => ?_)
      obtain ⟨hp32_4, hp32_5⟩ := hp32_3
      have hp32_4 : rg r32_1 0 1 := hp32_4
      replace hp32_5 : FF (r32_1.toInt = 1 → x_mm_5.toInt ≠ 0 ∧ x_mm_7.toInt - x_mm_6.toInt = ((1 : Nat) : Int)) := hp32_5
      have hP : va_P D vwCl [(mm, .inr (16, fs_mm)), (utape, .inl (ct 1, 2000, .inl g_utape))] _ := hP
      have hD : va_D A [(mm, .inr (16, fs_mm)), (utape, .inl (ct 1, 2000, .inl g_utape))] := hD
      refine lv_if_eq (tgt := 43) hx hb dX16_productOp_35 (by decide) (fun c35_1 => ?_) (fun c35_1 => ?_)
      · have t35_2 := FF.mk (i_eq c35_1)
        have r35_3 : rg r32_1 0 0 := rg_eqA t35_2 hp32_4 (show rg (0 : Int32) 0 0 from rg_l (by decide)) (by decide)
        refine lv_aload_n hx hb dX16_productOp_43 rfl (lv_at hl 0 rfl) ?_
        refine va_ldcwS (own := RX16) (tx := "&") (index := 461) (q := (ct (100 + 40))) hx hb hown (hSK 40 (by decide)) dX16_productOp_44 ?_
        refine go_i (k1 := 0) (n1 := 0) (wr := []) [0, 1] [] (rn_V (As := [.ref (ct (100 + 40))]) (rest := []) (c_X16_is l D ct mm 40 1 fs_mm utape x_mm_5 x_mm_6 x_mm_7 g_utape ⟨by decide, rfl⟩ hlen_mm hf_mm_0 h_x_mm_5 hf_mm_5 h_x_mm_6 hf_mm_6 h_x_mm_7 hf_mm_7 h_g_utape (show x_mm_7.toInt ≤ 2000 by have q0 := FF.out hq0; omega) (show x_mm_5.toInt ≠ 0 → x_mm_6.toInt + 1 ≤ x_mm_7.toInt by have q0 := h_x_mm_5.1; have q1 := FF.out hq3; omega) _) (cb_of (n := 1) hn mw_1962 mw_13 mw_1959 mhX16_is ⟨(Nat.le_of_ble_eq_true rfl), (Nat.le_of_ble_eq_true rfl)⟩) hx hb hml hown hn hK hSK hZ hS mw_1961 mw_s186 (ci := 16) (q0 := 0) rfl rfl rfl rfl hl.1 (Nat.le_of_ble_eq_true rfl) dX16_productOp_47 ⟨(Nat.le_of_ble_eq_true rfl), (Nat.le_of_ble_eq_true rfl)⟩) hP hD hS hA rfl rfl (by decide) (by decide) (by decide) (Nat.le_of_ble_eq_true rfl) (Nat.le_of_ble_eq_true rfl) (fun r47_1 u47_2 H locs hp47_3 hP hD hS => ?_)
        obtain ⟨hp47_4, hp47_5⟩ := hp47_3
        have hp47_4 : rg r47_1 0 1 := hp47_4
        replace hp47_5 : FF (r47_1.toInt = 1 → x_mm_5.toInt ≠ 0 ∧ x_mm_7.toInt - x_mm_6.toInt = ((1 : Nat) : Int)) := hp47_5
        have hP : va_P D vwCl [(mm, .inr (16, fs_mm)), (utape, .inl (ct 1, 2000, .inl g_utape))] _ := hP
        have hD : va_D A [(mm, .inr (16, fs_mm)), (utape, .inl (ct 1, 2000, .inl g_utape))] := hD
        refine lv_if_eq (tgt := 57) hx hb dX16_productOp_50 (by decide) (fun c50_1 => ?_) (fun c50_1 => ?_)
        · have t50_2 := FF.mk (i_eq c50_1)
          have r50_3 : rg r47_1 0 0 := rg_eqA t50_2 hp47_4 (show rg (0 : Int32) 0 0 from rg_l (by decide)) (by decide)
          refine lv_aload_n hx hb dX16_productOp_57 rfl (lv_at hl 0 rfl) ?_
          refine va_ldcwS (own := RX16) (tx := "<<") (index := 463) (q := (ct (100 + 41))) hx hb hown (hSK 41 (by decide)) dX16_productOp_58 ?_
          refine go_i (k1 := 0) (n1 := 0) (wr := []) [0, 1] [] (rn_V (As := [.ref (ct (100 + 41))]) (rest := []) (c_X16_is l D ct mm 41 2 fs_mm utape x_mm_5 x_mm_6 x_mm_7 g_utape ⟨by decide, rfl⟩ hlen_mm hf_mm_0 h_x_mm_5 hf_mm_5 h_x_mm_6 hf_mm_6 h_x_mm_7 hf_mm_7 h_g_utape (show x_mm_7.toInt ≤ 2000 by have q0 := FF.out hq0; omega) (show x_mm_5.toInt ≠ 0 → x_mm_6.toInt + 1 ≤ x_mm_7.toInt by have q0 := h_x_mm_5.1; have q1 := FF.out hq3; omega) _) (cb_of (n := 1) hn mw_1962 mw_13 mw_1959 mhX16_is ⟨(Nat.le_of_ble_eq_true rfl), (Nat.le_of_ble_eq_true rfl)⟩) hx hb hml hown hn hK hSK hZ hS mw_1961 mw_s186 (ci := 16) (q0 := 0) rfl rfl rfl rfl hl.1 (Nat.le_of_ble_eq_true rfl) dX16_productOp_61 ⟨(Nat.le_of_ble_eq_true rfl), (Nat.le_of_ble_eq_true rfl)⟩) hP hD hS hA rfl rfl (by decide) (by decide) (by decide) (Nat.le_of_ble_eq_true rfl) (Nat.le_of_ble_eq_true rfl) (fun r61_1 u61_2 H locs hp61_3 hP hD hS => ?_)
          obtain ⟨hp61_4, hp61_5⟩ := hp61_3
          have hp61_4 : rg r61_1 0 1 := hp61_4
          replace hp61_5 : FF (r61_1.toInt = 1 → x_mm_5.toInt ≠ 0 ∧ x_mm_7.toInt - x_mm_6.toInt = ((2 : Nat) : Int)) := hp61_5
          have hP : va_P D vwCl [(mm, .inr (16, fs_mm)), (utape, .inl (ct 1, 2000, .inl g_utape))] _ := hP
          have hD : va_D A [(mm, .inr (16, fs_mm)), (utape, .inl (ct 1, 2000, .inl g_utape))] := hD
          refine lv_if_eq (tgt := 72) hx hb dX16_productOp_64 (by decide) (fun c64_1 => ?_) (fun c64_1 => ?_)
          · have t64_2 := FF.mk (i_eq c64_1)
            have r64_3 : rg r61_1 0 0 := rg_eqA t64_2 hp61_4 (show rg (0 : Int32) 0 0 from rg_l (by decide)) (by decide)
            refine lv_aload_n hx hb dX16_productOp_72 rfl (lv_at hl 0 rfl) ?_
            refine va_ldcwS (own := RX16) (tx := ">>") (index := 465) (q := (ct (100 + 42))) hx hb hown (hSK 42 (by decide)) dX16_productOp_73 ?_
            refine go_i (k1 := 0) (n1 := 0) (wr := []) [0, 1] [] (rn_V (As := [.ref (ct (100 + 42))]) (rest := []) (c_X16_is l D ct mm 42 2 fs_mm utape x_mm_5 x_mm_6 x_mm_7 g_utape ⟨by decide, rfl⟩ hlen_mm hf_mm_0 h_x_mm_5 hf_mm_5 h_x_mm_6 hf_mm_6 h_x_mm_7 hf_mm_7 h_g_utape (show x_mm_7.toInt ≤ 2000 by have q0 := FF.out hq0; omega) (show x_mm_5.toInt ≠ 0 → x_mm_6.toInt + 1 ≤ x_mm_7.toInt by have q0 := h_x_mm_5.1; have q1 := FF.out hq3; omega) _) (cb_of (n := 1) hn mw_1962 mw_13 mw_1959 mhX16_is ⟨(Nat.le_of_ble_eq_true rfl), (Nat.le_of_ble_eq_true rfl)⟩) hx hb hml hown hn hK hSK hZ hS mw_1961 mw_s186 (ci := 16) (q0 := 0) rfl rfl rfl rfl hl.1 (Nat.le_of_ble_eq_true rfl) dX16_productOp_76 ⟨(Nat.le_of_ble_eq_true rfl), (Nat.le_of_ble_eq_true rfl)⟩) hP hD hS hA rfl rfl (by decide) (by decide) (by decide) (Nat.le_of_ble_eq_true rfl) (Nat.le_of_ble_eq_true rfl) (fun r76_1 u76_2 H locs hp76_3 hP hD hS => ?_)
            obtain ⟨hp76_4, hp76_5⟩ := hp76_3
            have hp76_4 : rg r76_1 0 1 := hp76_4
            replace hp76_5 : FF (r76_1.toInt = 1 → x_mm_5.toInt ≠ 0 ∧ x_mm_7.toInt - x_mm_6.toInt = ((2 : Nat) : Int)) := hp76_5
            have hP : va_P D vwCl [(mm, .inr (16, fs_mm)), (utape, .inl (ct 1, 2000, .inl g_utape))] _ := hP
            have hD : va_D A [(mm, .inr (16, fs_mm)), (utape, .inl (ct 1, 2000, .inl g_utape))] := hD
            refine lv_if_eq (tgt := 87) hx hb dX16_productOp_79 (by decide) (fun c79_1 => ?_) (fun c79_1 => ?_)
            · have t79_2 := FF.mk (i_eq c79_1)
              have r79_3 : rg r76_1 0 0 := rg_eqA t79_2 hp76_4 (show rg (0 : Int32) 0 0 from rg_l (by decide)) (by decide)
              refine lv_iconst (v := (-1)) hx hb dX16_productOp_87 (by decide) ?_
              exact endq_i hQ hx hb hr hlocks dX16_productOp_88 rfl () ⟨(rg_w (show rg ((-1) : Int32) (-1) (-1) from rg_l (by decide)) (by decide)), (show 0 ≤ (-1 : Int32).toInt → x_mm_5.toInt ≠ 0 by have q0 := (show (-1 : Int32).toInt = -1 from by decide); omega)⟩ hP hD hS [0, 1] rfl (by decide) rfl (Nat.le_of_ble_eq_true rfl) (Nat.le_of_ble_eq_true rfl)
            · have t79_2 := FF.mk (i_ne c79_1)
              have r79_3 : rg r76_1 1 1 := rg_neAl t79_2 hp76_4 (show rg (0 : Int32) 0 0 from rg_l (by decide)) (by decide)
              refine lv_bipush (v := 7) hx hb dX16_productOp_82 (by decide) ?_
              refine lv_goto (tgt := 88) hx hb dX16_productOp_84 (by decide) ?_
              exact endq_i hQ hx hb hr hlocks dX16_productOp_88 rfl () ⟨(rg_w (show rg (7 : Int32) 7 7 from rg_l (by decide)) (by decide)), (show 0 ≤ (7 : Int32).toInt → x_mm_5.toInt ≠ 0 by have q0 := h_x_mm_5.1; have q1 := r79_3.1; have q2 := r79_3.2; have q3 := FF.out hp76_5; have q4 := (show (7 : Int32).toInt = 7 from by decide); omega)⟩ hP hD hS [0, 1] rfl (by decide) rfl (Nat.le_of_ble_eq_true rfl) (Nat.le_of_ble_eq_true rfl)
          · have t64_2 := FF.mk (i_ne c64_1)
            have r64_3 : rg r61_1 1 1 := rg_neAl t64_2 hp61_4 (show rg (0 : Int32) 0 0 from rg_l (by decide)) (by decide)
            refine lv_bipush (v := 6) hx hb dX16_productOp_67 (by decide) ?_
            refine lv_goto (tgt := 88) hx hb dX16_productOp_69 (by decide) ?_
            exact endq_i hQ hx hb hr hlocks dX16_productOp_88 rfl () ⟨(rg_w (show rg (6 : Int32) 6 6 from rg_l (by decide)) (by decide)), (show 0 ≤ (6 : Int32).toInt → x_mm_5.toInt ≠ 0 by have q0 := h_x_mm_5.1; have q1 := r64_3.1; have q2 := r64_3.2; have q3 := FF.out hp61_5; have q4 := (show (6 : Int32).toInt = 6 from by decide); omega)⟩ hP hD hS [0, 1] rfl (by decide) rfl (Nat.le_of_ble_eq_true rfl) (Nat.le_of_ble_eq_true rfl)
        · have t50_2 := FF.mk (i_ne c50_1)
          have r50_3 : rg r47_1 1 1 := rg_neAl t50_2 hp47_4 (show rg (0 : Int32) 0 0 from rg_l (by decide)) (by decide)
          refine lv_iconst (v := 5) hx hb dX16_productOp_53 (by decide) ?_
          refine lv_goto (tgt := 88) hx hb dX16_productOp_54 (by decide) ?_
          exact endq_i hQ hx hb hr hlocks dX16_productOp_88 rfl () ⟨(rg_w (show rg (5 : Int32) 5 5 from rg_l (by decide)) (by decide)), (show 0 ≤ (5 : Int32).toInt → x_mm_5.toInt ≠ 0 by have q0 := h_x_mm_5.1; have q1 := r50_3.1; have q2 := r50_3.2; have q3 := FF.out hp47_5; have q4 := (show (5 : Int32).toInt = 5 from by decide); omega)⟩ hP hD hS [0, 1] rfl (by decide) rfl (Nat.le_of_ble_eq_true rfl) (Nat.le_of_ble_eq_true rfl)
      · have t35_2 := FF.mk (i_ne c35_1)
        have r35_3 : rg r32_1 1 1 := rg_neAl t35_2 hp32_4 (show rg (0 : Int32) 0 0 from rg_l (by decide)) (by decide)
        refine lv_bipush (v := 9) hx hb dX16_productOp_38 (by decide) ?_
        refine lv_goto (tgt := 88) hx hb dX16_productOp_40 (by decide) ?_
        exact endq_i hQ hx hb hr hlocks dX16_productOp_88 rfl () ⟨(rg_w (show rg (9 : Int32) 9 9 from rg_l (by decide)) (by decide)), (show 0 ≤ (9 : Int32).toInt → x_mm_5.toInt ≠ 0 by have q0 := h_x_mm_5.1; have q1 := r35_3.1; have q2 := r35_3.2; have q3 := FF.out hp32_5; have q4 := (show (9 : Int32).toInt = 9 from by decide); omega)⟩ hP hD hS [0, 1] rfl (by decide) rfl (Nat.le_of_ble_eq_true rfl) (Nat.le_of_ble_eq_true rfl)
    · have t21_2 := FF.mk (i_ne c21_1)
      have r21_3 : rg r18_1 1 1 := rg_neAl t21_2 hp18_4 (show rg (0 : Int32) 0 0 from rg_l (by decide)) (by decide)
      refine lv_iconst (v := 3) hx hb dX16_productOp_24 (by decide) ?_
      refine lv_goto (tgt := 88) hx hb dX16_productOp_25 (by decide) ?_
      exact endq_i hQ hx hb hr hlocks dX16_productOp_88 rfl () ⟨(rg_w (show rg (3 : Int32) 3 3 from rg_l (by decide)) (by decide)), (show 0 ≤ (3 : Int32).toInt → x_mm_5.toInt ≠ 0 by have q0 := h_x_mm_5.1; have q1 := r21_3.1; have q2 := r21_3.2; have q3 := FF.out hp18_5; have q4 := (show (3 : Int32).toInt = 3 from by decide); omega)⟩ hP hD hS [0, 1] rfl (by decide) rfl (Nat.le_of_ble_eq_true rfl) (Nat.le_of_ble_eq_true rfl)
  · have t7_2 := FF.mk (i_ne c7_1)
    have r7_3 : rg r4_1 1 1 := rg_neAl t7_2 hp4_4 (show rg (0 : Int32) 0 0 from rg_l (by decide)) (by decide)
    refine lv_iconst (v := 2) hx hb dX16_productOp_10 (by decide) ?_
    refine lv_goto (tgt := 88) hx hb dX16_productOp_11 (by decide) ?_
    exact endq_i hQ hx hb hr hlocks dX16_productOp_88 rfl () ⟨(rg_w (show rg (2 : Int32) 2 2 from rg_l (by decide)) (by decide)), (show 0 ≤ (2 : Int32).toInt → x_mm_5.toInt ≠ 0 by have q0 := h_x_mm_5.1; have q1 := r7_3.1; have q2 := r7_3.2; have q3 := FF.out hp4_5; have q4 := (show (2 : Int32).toInt = 2 from by decide); omega)⟩ hP hD hS [0, 1] rfl (by decide) rfl (Nat.le_of_ble_eq_true rfl) (Nat.le_of_ble_eq_true rfl)
