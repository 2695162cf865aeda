set_option maxHeartbeats 2000000 in
theorem c_X8_wrongPlace_b (l : Launch) (D : va_G) (ct : Nat → ClassId) (rd : Nat) (t0 : Nat) (f0 : Nat) (x_rd_3 : Int32) (x_rd_4 : Int32) (x_rd_5 : Int32) (t0r : Nat) (x_t0_1 : Int32) (g_t0r : Nat → Int32) (h_x_rd_3 : rg x_rd_3 0 2000) (h_x_rd_4 : rg x_rd_4 0 2002) (h_x_rd_5 : rg x_rd_5 0 2000) (h_x_t0_1 : rg x_t0_1 0 2000) (h_g_t0r : Rg g_t0r 2000 (-128) 127) (hq0 : x_rd_3.toInt ≤ x_t0_1.toInt) : KI (S := Unit) l yX8_wrongPlace cX8_wrongPlace 1 (some .int) 2 40 D ct [.ref rd] [(rd, .inr (8, [.ref t0, .ref f0, .int 3, .int x_rd_3, .int x_rd_4, .int x_rd_5])), (t0, .inr (9, [.ref t0r, .int x_t0_1])), (t0r, .inl (ct 0, 2000, .inl g_t0r))] 0 0 (fun (r : Int32) (_ : Unit) => rg r 0 2000) (fun (_ : Unit) => [(rd, .inr (8, [.ref t0, .ref f0, .int 3, .int x_rd_3, .int x_rd_4, .int x_rd_5])), (t0, .inr (9, [.ref t0r, .int x_t0_1])), (t0r, .inl (ct 0, 2000, .inl g_t0r))]) := by
  refine KIq_of (by decide) (Nat.le_of_ble_eq_true rfl) (fun p e s m below meth c A Q C0 hA H locs hS hP hD hQ ls hl => ?_)
  obtain ⟨hx, hb, hr, hown, hin, hml, hlocks, hn, hK, hZ, hSK⟩ := C0
  have hl : lv_has ls 1 [(0, .ref rd)] := hl
  replace hq0 := FF.mk hq0
  refine lv_aload_n hx hb dX8_wrongPlace_0 rfl (lv_at hl 0 rfl) ?_
  refine va_get (D := D) (ci := 8) (v := .int 3) (C := RX8) (T := TX8) (N := 6) hx hb (htX8 hn) (fun _ h => h) hown hK hP 0 rfl rfl 2 (by decide) (hn.get mw_243 rfl) (fun _ h9 => h9) rfl dX8_wrongPlace_1 ?_
  refine lv_iconst (v := 1) hx hb dX8_wrongPlace_4 (by decide) ?_
  have b12 : ∀  (H : Heap) (locs : List Loc) (ls : Array Slot), lv_has ls 1 [(0, .ref rd)] → va_P D vwCl [(rd, .inr (8, [.ref t0, .ref f0, .int 3, .int x_rd_3, .int x_rd_4, .int x_rd_5])), (t0, .inr (9, [.ref t0r, .int x_t0_1])), (t0r, .inl (ct 0, 2000, .inl g_t0r))] H → va_D A [(rd, .inr (8, [.ref t0, .ref f0, .int 3, .int x_rd_3, .int x_rd_4, .int x_rd_5])), (t0, .inr (9, [.ref t0r, .int x_t0_1])), (t0r, .inl (ct 0, 2000, .inl g_t0r))] → va_S A s.heap H locs → W p l e ({ frames := 2, cells := 0, slots := 0, locals := 40 }) s m [.ref rd].toArray below meth c H locs 0 0 Q (F0 m 12 ls []) := by
    intro  H locs ls  hl hP hD hS
    refine lv_aload_n hx hb dX8_wrongPlace_12 rfl (lv_at hl 0 rfl) ?_
    refine va_get (D := D) (ci := 8) (v := .int x_rd_5) (C := RX8) (T := TX8) (N := 6) hx hb (htX8 hn) (fun _ h => h) hown hK hP 0 rfl rfl 5 (by decide) (hn.get mw_246 rfl) (fun _ h9 => h9) rfl dX8_wrongPlace_13 ?_
    exact endq_i hQ hx hb hr hlocks dX8_wrongPlace_16 rfl () h_x_rd_5 hP hD hS [0, 1, 2] rfl (by decide) rfl (Nat.le_of_ble_eq_true rfl) (Nat.le_of_ble_eq_true rfl)
  refine lv_icmp_eq (tgt := 12) hx hb dX8_wrongPlace_5 (by decide) (fun c5_1 => absurd c5_1 (by decide)) (fun c5_1 => ?_)
  refine lv_aload_n hx hb dX8_wrongPlace_8 rfl (lv_at hl 0 rfl) ?_
  refine go_v (k1 := 0) (n1 := 0) (wr := []) [0, 1, 2] [] (rn_V (As := []) (rest := []) (c_X8_fail_b l D ct rd t0 f0 x_rd_3 x_rd_4 x_rd_5 t0r x_t0_1 g_t0r h_x_rd_3 h_x_rd_4 h_x_rd_5 h_x_t0_1 h_g_t0r (show x_rd_3.toInt ≤ x_t0_1.toInt by have q0 := h_x_t0_1.1; have q1 := h_x_t0_1.2; have q2 := h_x_rd_3.1; have q3 := h_x_rd_3.2; have q4 := FF.out hq0; omega) _) (cb_of (n := 0) hn mw_504 mw_8 mw_501 mhX8_fail ⟨(Nat.le_of_ble_eq_true rfl), (Nat.le_of_ble_eq_true rfl)⟩) hx hb hml hown hn hK hSK hZ hS mw_503 mw_s12 (ci := 8) (q0 := 0) rfl rfl rfl rfl hl.1 (Nat.le_of_ble_eq_true rfl) dX8_wrongPlace_9 ⟨(Nat.le_of_ble_eq_true rfl), (Nat.le_of_ble_eq_true rfl)⟩) hP hD hS hA rfl rfl (by decide) (by decide) (by decide) (Nat.le_of_ble_eq_true rfl) (Nat.le_of_ble_eq_true rfl) (fun u9_2 H locs hp9_3 hP hD hS => ?_)
  have hP : va_P D vwCl [(rd, .inr (8, [.ref t0, .ref f0, .int 3, .int x_rd_3, .int x_rd_4, .int x_rd_5])), (t0, .inr (9, [.ref t0r, .int x_t0_1])), (t0r, .inl (ct 0, 2000, .inl g_t0r))] _ := hP
  have hD : va_D A [(rd, .inr (8, [.ref t0, .ref f0, .int 3, .int x_rd_3, .int x_rd_4, .int x_rd_5])), (t0, .inr (9, [.ref t0r, .int x_t0_1])), (t0r, .inl (ct 0, 2000, .inl g_t0r))] := hD
  exact b12  H locs ls  (lv_sub hl [0] rfl) hP hD hS
set_option maxHeartbeats 2000000 in
theorem c_X8_wrongPlace_g (l : Launch) (D : va_G) (ct : Nat → ClassId) (rd : Nat) (t0 : Nat) (f0 : Nat) (x_rd_2 : Int32) (x_rd_3 : Int32) (x_rd_4 : Int32) (t0r : Nat) (x_t0_1 : Int32) (g_t0r : Nat → Int32) (h_x_rd_2 : rg x_rd_2 1 260) (h_x_rd_3 : rg x_rd_3 0 2000) (h_x_rd_4 : rg x_rd_4 0 2001) (h_x_t0_1 : rg x_t0_1 0 2000) (h_g_t0r : Rg g_t0r 2000 (-128) 127) (hg0 : RGd x_rd_2 x_rd_3 x_rd_4 x_t0_1 g_t0r) : KI (S := Int32 × Int32) l yX8_wrongPlace cX8_wrongPlace 1 (some .int) 2 40 D ct [.ref rd] [(rd, .inr (8, [.ref t0, .ref f0, .int x_rd_2, .int x_rd_3, .int x_rd_4, .int (-1)])), (t0, .inr (9, [.ref t0r, .int x_t0_1])), (t0r, .inl (ct 0, 2000, .inl g_t0r))] 0 0 (fun (r : Int32) (u : Int32 × Int32) => match u with | (y_rd_2, y_rd_5) => rg r (-1) 2000 ∧ rg y_rd_2 1 3 ∧ rg y_rd_5 (-1) 2000 ∧ (RS y_rd_2 x_rd_3 x_rd_4 y_rd_5 x_t0_1 g_t0r)) (fun (u : Int32 × Int32) => match u with | (y_rd_2, y_rd_5) => [(rd, .inr (8, [.ref t0, .ref f0, .int y_rd_2, .int x_rd_3, .int x_rd_4, .int y_rd_5])), (t0, .inr (9, [.ref t0r, .int x_t0_1])), (t0r, .inl (ct 0, 2000, .inl g_t0r))]) := by
  refine KIq_of (by decide) (Nat.le_of_ble_eq_true rfl) (fun p e s m below meth c A Q C0 hA H locs hS hP hD hQ ls hl => ?_)
  obtain ⟨hx, hb, hr, hown, hin, hml, hlocks, hn, hK, hZ, hSK⟩ := C0
  have hl : lv_has ls 1 [(0, .ref rd)] := hl
  have g0_1 := hg0
  obtain ⟨⟨g0_1a, g0_1b, g0_1c⟩, ⟨g0_1d, g0_1e, g0_1f, g0_1g⟩, g0_1h, g0_1i⟩ := g0_1
  replace g0_1a := FF.mk g0_1a
  replace g0_1b := FF.mk g0_1b
  replace g0_1c := FF.mk g0_1c
  replace g0_1d := FF.mk g0_1d
  replace g0_1e := FF.mk g0_1e
  replace g0_1f := FF.mk g0_1f
  replace g0_1g := FF.mk g0_1g
  replace g0_1h := FF.mk g0_1h
  refine lv_aload_n hx hb dX8_wrongPlace_0 rfl (lv_at hl 0 rfl) ?_
  refine va_get (D := D) (ci := 8) (v := .int x_rd_2) (C := RX8) (T := TX8) (N := 6) hx hb (htX8 hn) (fun _ h => h) hown hK hP 0 rfl rfl 2 (by decide) (hn.get mw_243 rfl) (fun _ h9 => h9) rfl dX8_wrongPlace_1 ?_
  refine lv_iconst (v := 1) hx hb dX8_wrongPlace_4 (by decide) ?_
  have b12 : ∀ (j12_frd_2 : Int32) (j12_frd_5 : Int32) (H : Heap) (locs : List Loc) (ls : Array Slot), (rg j12_frd_2 1 3) → (rg j12_frd_5 (-1) 2000) → (RS j12_frd_2 x_rd_3 x_rd_4 j12_frd_5 x_t0_1 g_t0r) → lv_has ls 1 [(0, .ref rd)] → va_P D vwCl [(rd, .inr (8, [.ref t0, .ref f0, .int j12_frd_2, .int x_rd_3, .int x_rd_4, .int j12_frd_5])), (t0, .inr (9, [.ref t0r, .int x_t0_1])), (t0r, .inl (ct 0, 2000, .inl g_t0r))] H → va_D A [(rd, .inr (8, [.ref t0, .ref f0, .int j12_frd_2, .int x_rd_3, .int x_rd_4, .int j12_frd_5])), (t0, .inr (9, [.ref t0r, .int x_t0_1])), (t0r, .inl (ct 0, 2000, .inl g_t0r))] → va_S A s.heap H locs → W p l e ({ frames := 2, cells := 0, slots := 0, locals := 40 }) s m [.ref rd].toArray below meth c H locs 0 0 Q (F0 m 12 ls []) := by
    intro j12_frd_2 j12_frd_5 H locs ls r12_1001 r12_1002 hR12_1003 hl hP hD hS
    refine lv_aload_n hx hb dX8_wrongPlace_12 rfl (lv_at hl 0 rfl) ?_
    refine va_get (D := D) (ci := 8) (v := .int j12_frd_5) (C := RX8) (T := TX8) (N := 6) hx hb (htX8 hn) (fun _ h => h) hown hK hP 0 rfl rfl 5 (by decide) (hn.get mw_246 rfl) (fun _ h9 => h9) rfl dX8_wrongPlace_13 ?_
    exact endq_i hQ hx hb hr hlocks dX8_wrongPlace_16 rfl (j12_frd_2, j12_frd_5) ⟨r12_1002, r12_1001, r12_1002, hR12_1003⟩ hP hD hS [0, 1, 2] rfl (by decide) rfl (Nat.le_of_ble_eq_true rfl) (Nat.le_of_ble_eq_true rfl)
  refine lv_icmp_eq (tgt := 12) hx hb dX8_wrongPlace_5 (by decide) (fun c5_1 => ?_) (fun c5_1 => ?_)
  · have t5_2 := FF.mk (i_eq c5_1)
    have r5_3 : rg x_rd_2 1 1 := rg_eqA t5_2 h_x_rd_2 (show rg (1 : Int32) 1 1 from rg_l (by decide)) (by decide)
    exact b12 x_rd_2 ((-1) : Int32) H locs ls (rg_w r5_3 (by decide)) (rg_w (show rg ((-1) : Int32) (-1) (-1) from rg_l (by decide)) (by decide)) (Or.inl ⟨rfl, hg0⟩) (lv_sub hl [0] rfl) hP hD hS
  · have t5_2 := FF.mk (i_ne c5_1)
    have r5_3 : rg x_rd_2 2 260 := rg_neAl t5_2 h_x_rd_2 (show rg (1 : Int32) 1 1 from rg_l (by decide)) (by decide)
    refine lv_aload_n hx hb dX8_wrongPlace_8 rfl (lv_at hl 0 rfl) ?_
    refine go_v (k1 := 0) (n1 := 0) (wr := []) [0, 1, 2] [] (rn_V (As := []) (rest := []) (c_X8_fail_g l D ct rd t0 f0 x_rd_2 x_rd_3 x_rd_4 t0r x_t0_1 g_t0r (rg_w r5_3 (by decide)) h_x_rd_3 (rg_w h_x_rd_4 (by decide)) h_x_t0_1 h_g_t0r _) (cb_of (n := 0) hn mw_504 mw_8 mw_501 mhX8_fail ⟨(Nat.le_of_ble_eq_true rfl), (Nat.le_of_ble_eq_true rfl)⟩) hx hb hml hown hn hK hSK hZ hS mw_503 mw_s12 (ci := 8) (q0 := 0) rfl rfl rfl rfl hl.1 (Nat.le_of_ble_eq_true rfl) dX8_wrongPlace_9 ⟨(Nat.le_of_ble_eq_true rfl), (Nat.le_of_ble_eq_true rfl)⟩) hP hD hS hA rfl rfl (by decide) (by decide) (by decide) (Nat.le_of_ble_eq_true rfl) (Nat.le_of_ble_eq_true rfl) (fun u9_2 H locs hp9_3 hP hD hS => ?_)
    obtain ⟨hp9_4, hp9_5⟩ := hp9_3
    have hp9_4 : rg u9_2 0 2000 := hp9_4
    replace hp9_5 : FF (u9_2.toInt = x_rd_3.toInt) := hp9_5
    have hP : va_P D vwCl [(rd, .inr (8, [.ref t0, .ref f0, .int 3, .int x_rd_3, .int x_rd_4, .int u9_2])), (t0, .inr (9, [.ref t0r, .int x_t0_1])), (t0r, .inl (ct 0, 2000, .inl g_t0r))] _ := hP
    have hD : va_D A [(rd, .inr (8, [.ref t0, .ref f0, .int 3, .int x_rd_3, .int x_rd_4, .int u9_2])), (t0, .inr (9, [.ref t0r, .int x_t0_1])), (t0r, .inl (ct 0, 2000, .inl g_t0r))] := hD
    exact b12 (3 : Int32) u9_2 H locs ls (rg_w (show rg (3 : Int32) 3 3 from rg_l (by decide)) (by decide)) (rg_w hp9_4 (by decide)) (Or.inr ⟨rfl, (show 0 ≤ u9_2.toInt ∧ u9_2.toInt ≤ 2000 ∧ 0 ≤ x_rd_3.toInt ∧ x_rd_3.toInt ≤ x_t0_1.toInt ∧ 0 ≤ x_rd_4.toInt ∧ x_rd_4.toInt ≤ 2002 by have q0 := h_x_t0_1.1; have q1 := h_x_t0_1.2; have q2 := h_x_rd_4.1; have q3 := h_x_rd_4.2; have q4 := h_x_rd_3.1; have q5 := h_x_rd_3.2; have q6 := hp9_4.1; have q7 := hp9_4.2; have q8 := r5_3.1; have q9 := r5_3.2; have q10 := (show rg (1 : Int32) 1 1 from rg_l (by decide)).1; have q11 := (show rg (1 : Int32) 1 1 from rg_l (by decide)).2; have q12 := FF.out g0_1a; have q13 := FF.out g0_1b; have q14 := FF.out g0_1c; have q15 := FF.out g0_1d; have q16 := FF.out g0_1e; have q17 := FF.out g0_1f; have q18 := FF.out g0_1g; have q19 := FF.out g0_1h; have q20 := FF.out t5_2; have q21 := FF.out hp9_5; omega)⟩) (lv_sub hl [0] rfl) hP hD hS
