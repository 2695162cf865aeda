set_option maxHeartbeats 4000000 in
set_option maxRecDepth 100000 in
theorem c_X3_look (l : Launch) (D : va_G) (ct : Nat → ClassId) (in0 : Nat) (p0 : Nat) (pr : Nat) (i0 : Nat) (i1 : Nat) (i2 : Nat) (i3 : Nat) (i4 : Nat) (i5 : Nat) (i6 : Nat) (i7 : Nat) (i8 : Nat) (i9 : Nat) (i10 : Nat) (ip0 : Nat)  : KI (S := Unit) l yX3_look cX3_look 5 (some .int) 1 20 D ct [.ref in0, .ref p0] [(in0, .inr (3, [.ref i0, .ref i1, .ref i2, .ref i3, .ref i4, .ref i5, .ref i6, .ref i7, .ref i8, .ref i9, .ref i10, .long 0, .ref ip0, .int (-1)])), (p0, .inr (7, [.ref pr, .int 0]))] 0 0 (fun r _ => r = -1) (fun (_ : Unit) => []) := by
  refine KI_of (by decide) (Nat.le_of_ble_eq_true rfl) (fun p e s m below meth c A C0 hA hS hP hD ls hl => ?_)
  obtain ⟨hx, hb, hr, hown, hin, hml, hlocks, hn, hK⟩ := C0
  have hl : lv_has ls 5 [(0, .ref in0), (1, .ref p0)] := hl
  refine lv_aload_n hx hb dX3_look_0 rfl (lv_at hl 0 rfl) ?_
  refine lv_aload_n hx hb dX3_look_1 rfl (lv_at hl 1 rfl) ?_
  refine va_put (D := D) (ci := 3) (v := .ref p0) (ty := .object "FilterForge$Program") (C := RX3) (T := TX3) (N := 14) hx hb (htX3 hn) (fun _ h => h) tyX3 tyX3_ok nmX3 hown hK hP hD hS 0 rfl rfl 12 (by decide) (hn.get mw_350 rfl) (fun _ h9 => h9) rfl (by decide +kernel) rfl rfl (Nat.le_of_ble_eq_true rfl) dX3_look_2 (fun H locs hP hD hS => ?_)
  have hP : va_P D vwCl [(in0, .inr (3, [.ref i0, .ref i1, .ref i2, .ref i3, .ref i4, .ref i5, .ref i6, .ref i7, .ref i8, .ref i9, .ref i10, .long 0, .ref p0, .int (-1)])), (p0, .inr (7, [.ref pr, .int 0]))] _ := hP
  have hD : va_D A [(in0, .inr (3, [.ref i0, .ref i1, .ref i2, .ref i3, .ref i4, .ref i5, .ref i6, .ref i7, .ref i8, .ref i9, .ref i10, .long 0, .ref p0, .int (-1)])), (p0, .inr (7, [.ref pr, .int 0]))] := hD
  refine lv_aload_n hx hb dX3_look_5 rfl (lv_at hl 0 rfl) ?_
  refine lv_iconst (v := (-1)) hx hb dX3_look_6 (by decide) ?_
  refine va_put (D := D) (ci := 3) (v := .int (-1)) (ty := .int) (C := RX3) (T := TX3) (N := 14) hx hb (htX3 hn) (fun _ h => h) tyX3 tyX3_ok nmX3 hown hK hP hD hS 0 rfl rfl 13 (by decide) (hn.get mw_351 rfl) (fun _ h9 => h9) rfl (by decide +kernel) rfl rfl (Nat.le_of_ble_eq_true rfl) dX3_look_7 (fun H locs hP hD hS => ?_)
  have hP : va_P D vwCl [(in0, .inr (3, [.ref i0, .ref i1, .ref i2, .ref i3, .ref i4, .ref i5, .ref i6, .ref i7, .ref i8, .ref i9, .ref i10, .long 0, .ref p0, .int (-1)])), (p0, .inr (7, [.ref pr, .int 0]))] _ := hP
  have hD : va_D A [(in0, .inr (3, [.ref i0, .ref i1, .ref i2, .ref i3, .ref i4, .ref i5, .ref i6, .ref i7, .ref i8, .ref i9, .ref i10, .long 0, .ref p0, .int (-1)])), (p0, .inr (7, [.ref pr, .int 0]))] := hD
  refine lv_aload_n hx hb dX3_look_10 rfl (lv_at hl 0 rfl) ?_
  refine va_get (D := D) (ci := 3) (v := .ref p0) (C := RX3) (T := TX3) (N := 14) hx hb (htX3 hn) (fun _ h => h) hown hK hP 0 rfl rfl 12 (by decide) (hn.get mw_350 rfl) (fun _ h9 => h9) rfl dX3_look_11 ?_
  refine va_getN (D := D) (ci := 7) (v := .int 0) (C := RX7) (T := TX7) (N := 2) hx hb (htX7 hn) (fun _ h => h) hown hK hP 1 rfl rfl 1 (by decide) (hn.get mw_225 rfl) (fun _ h9 => h9) rfl dX3_look_14 ?_
  refine lv_if_ne (tgt := 22) hx hb dX3_look_17 (by decide) (fun c_1 => absurd (by decide) c_1) (fun c_1 => ?_)
  refine lv_iconst (v := (-1)) hx hb dX3_look_20 (by decide) ?_
  exact end_i hx hb hr hlocks dX3_look_21 rfl () rfl hP hD hS [] rfl (by decide) rfl (Nat.le_of_ble_eq_true rfl) (Nat.le_of_ble_eq_true rfl)
set_option maxHeartbeats 4000000 in
set_option maxRecDepth 100000 in
theorem c_X3_tell (l : Launch) (D : va_G) (ct : Nat → ClassId) (in0 : Nat) (p0 : Nat) (i0 : Nat) (i1 : Nat) (i2 : Nat) (i3 : Nat) (i4 : Nat) (i5 : Nat) (i6 : Nat) (i7 : Nat) (i8 : Nat) (i9 : Nat) (i10 : Nat) (ii : Int32) (rr : Int32) (what : Int32)  : KL (S := Unit) l yX3_tell cX3_tell 6 (some .long) 1 20 D ct [.ref in0, .int ii, .int rr, .int what] [(in0, .inr (3, [.ref i0, .ref i1, .ref i2, .ref i3, .ref i4, .ref i5, .ref i6, .ref i7, .ref i8, .ref i9, .ref i10, .long 0, .ref p0, .int (-1)]))] 0 0 (fun r _ => r = exKnown what) (fun (_ : Unit) => []) := by
  refine KL_of (by decide) (Nat.le_of_ble_eq_true rfl) (fun p e s m below meth c A C0 hA hS hP hD ls hl => ?_)
  obtain ⟨hx, hb, hr, hown, hin, hml, hlocks, hn, hK⟩ := C0
  have hl : lv_has ls 6 [(0, .ref in0), (1, .int ii), (2, .int rr), (3, .int what)] := hl
  refine lv_iload_n hx hb dX3_tell_0 rfl (lv_at hl 1 rfl) ?_
  refine lv_if_lt (tgt := 35) hx hb dX3_tell_1 (by decide) (fun c_1 => ?_) (fun c_1 => ?_)
  · refine lv_iconst (v := 0) hx hb dX3_tell_35 (by decide) ?_
    refine lv_istore (lv' := [(4, .int 0), (0, .ref in0), (1, .int ii), (2, .int rr), (3, .int what)]) hx hb dX3_tell_36 hl (by decide) rfl (fun ls hl => ?_)
    refine lv_iload hx hb dX3_tell_38 (lv_at hl 0 rfl) ?_
    refine lv_if_ne (tgt := 55) hx hb dX3_tell_40 (by decide) (fun c_2 => absurd (by decide) c_2) (fun c_2 => ?_)
    refine lv_iload_n hx hb dX3_tell_43 rfl (lv_at hl 4 rfl) ?_
    refine lv_if_ne (tgt := 53) hx hb dX3_tell_44 (by decide) (fun c_3 => ?_) (fun c_3 => ?_)
    · refine lv_lconst (v := 0) hx hb dX3_tell_53 (by decide) ?_
      exact end_l hx hb hr hlocks dX3_tell_54 () (by simp [exKnown, c_3]) hP hD hS [] rfl (by decide) rfl (Nat.le_of_ble_eq_true rfl) (Nat.le_of_ble_eq_true rfl)
    · refine lv_ldc2 (v := (-1)) hx hb hown (hn.get mw_1034 rfl) dX3_tell_47 ?_
      refine lv_goto (tgt := 54) hx hb dX3_tell_50 (by decide) ?_
      exact end_l hx hb hr hlocks dX3_tell_54 () (by simp [exKnown, c_3]) hP hD hS [] rfl (by decide) rfl (Nat.le_of_ble_eq_true rfl) (Nat.le_of_ble_eq_true rfl)
  · refine lv_iload_n hx hb dX3_tell_4 rfl (lv_at hl 1 rfl) ?_
    refine lv_aload_n hx hb dX3_tell_5 rfl (lv_at hl 0 rfl) ?_
    refine va_get (D := D) (ci := 3) (v := .int (-1)) (C := RX3) (T := TX3) (N := 14) hx hb (htX3 hn) (fun _ h => h) hown hK hP 0 rfl rfl 13 (by decide) (hn.get mw_351 rfl) (fun _ h9 => h9) rfl dX3_tell_6 ?_
    refine lv_icmp_gt (tgt := 35) hx hb dX3_tell_9 (by decide) (fun c_4 => ?_) (fun c_4 => absurd (lt_m1 c_1) c_4)
    refine lv_iconst (v := 0) hx hb dX3_tell_35 (by decide) ?_
    refine lv_istore (lv' := [(4, .int 0), (0, .ref in0), (1, .int ii), (2, .int rr), (3, .int what)]) hx hb dX3_tell_36 hl (by decide) rfl (fun ls hl => ?_)
    refine lv_iload hx hb dX3_tell_38 (lv_at hl 0 rfl) ?_
    refine lv_if_ne (tgt := 55) hx hb dX3_tell_40 (by decide) (fun c_5 => absurd (by decide) c_5) (fun c_5 => ?_)
    refine lv_iload_n hx hb dX3_tell_43 rfl (lv_at hl 4 rfl) ?_
    refine lv_if_ne (tgt := 53) hx hb dX3_tell_44 (by decide) (fun c_6 => ?_) (fun c_6 => ?_)
    · refine lv_lconst (v := 0) hx hb dX3_tell_53 (by decide) ?_
      exact end_l hx hb hr hlocks dX3_tell_54 () (by simp [exKnown, c_6]) hP hD hS [] rfl (by decide) rfl (Nat.le_of_ble_eq_true rfl) (Nat.le_of_ble_eq_true rfl)
    · refine lv_ldc2 (v := (-1)) hx hb hown (hn.get mw_1034 rfl) dX3_tell_47 ?_
      refine lv_goto (tgt := 54) hx hb dX3_tell_50 (by decide) ?_
      exact end_l hx hb hr hlocks dX3_tell_54 () (by simp [exKnown, c_6]) hP hD hS [] rfl (by decide) rfl (Nat.le_of_ble_eq_true rfl) (Nat.le_of_ble_eq_true rfl)
set_option maxHeartbeats 4000000 in
set_option maxRecDepth 100000 in
theorem c_X11_feed (l : Launch) (D : va_G) (ct : Nat → ClassId) (h0 : Nat) (t0 : Nat) (k0 : Nat) (m0 : Nat) (o0 : Nat) (f0 : Nat) (sf : Nat) (p0 : Nat) (sp : Nat) (rd : Nat) (cd : Nat) (tl : Nat) (in0 : Nat) (gk : Nat) (tr : Nat) (a : Int32) (b1 : Int32) (c1 : Int32) (d1 : Int32) (e1 : Int32) (f : Nat → Int32)  : KI (S := Unit) l yX11_feed cX11_feed 6 (some .int) 3 63 D ct [.ref h0, .int a, .int b1, .int c1, .int d1, .int e1] [(h0, .inr (11, [.ref t0, .ref k0, .ref m0, .ref o0, .ref f0, .ref sf, .ref p0, .ref sp, .int 0, .ref rd, .ref cd, .ref tl, .ref in0, .ref gk])), (t0, .inr (9, [.ref tr, .int 0])), (tr, .inl (ct 0, 2000, .inl f))] 0 0 (fun r _ => r = 20) (fun (_ : Unit) => []) := by
  refine KI_of (by decide) (Nat.le_of_ble_eq_true rfl) (fun p e s m below meth c A C0 hA hS hP hD ls hl => ?_)
  obtain ⟨hx, hb, hr, hown, hin, hml, hlocks, hn, hK⟩ := C0
  have hl : lv_has ls 6 [(0, .ref h0), (1, .int a), (2, .int b1), (3, .int c1), (4, .int d1), (5, .int e1)] := hl
  have hP : va_P D vwCl [(h0, .inr (11, [.ref t0, .ref k0, .ref m0, .ref o0, .ref f0, .ref sf, .ref p0, .ref sp, .int 0, .ref rd, .ref cd, .ref tl, .ref in0, .ref gk])), (t0, .inr (9, [.ref tr, .int (nI 0)])), (tr, .inl (ct 0, 2000, .inl f))] _ := hP
  have hD : va_D A [(h0, .inr (11, [.ref t0, .ref k0, .ref m0, .ref o0, .ref f0, .ref sf, .ref p0, .ref sp, .int 0, .ref rd, .ref cd, .ref tl, .ref in0, .ref gk])), (t0, .inr (9, [.ref tr, .int (nI 0)])), (tr, .inl (ct 0, 2000, .inl f))] := hD
  refine lv_aload_n hx hb dX11_feed_0 rfl (lv_at hl 0 rfl) ?_
  refine va_get (D := D) (ci := 11) (v := .ref t0) (C := RX11) (T := TX11) (N := 14) hx hb (htX11 hn) (fun _ h => h) hown hK hP 0 rfl rfl 0 (by decide) (hn.get mw_381 rfl) (fun _ h9 => h9) rfl dX11_feed_1 ?_
  refine lv_bipush (v := 20) hx hb dX11_feed_4 (by decide) ?_
  have hPc := hP.sub (ws' := [(t0, .inr (9, [.ref tr, .int (nI 0)]))]) [1] rfl
  have hDc := hD.sub (ws' := [(t0, .inr (9, [.ref tr, .int (nI 0)]))]) [1] (by decide) rfl
  refine go_i (k1 := 0) (n1 := 0) (wr := [(h0, .inr (11, [.ref t0, .ref k0, .ref m0, .ref o0, .ref f0, .ref sf, .ref p0, .ref sp, .int 0, .ref rd, .ref cd, .ref tl, .ref in0, .ref gk])), (tr, .inl (ct 0, 2000, .inl f))]) [1] [0, 2] (rn_VN (As := [.int 20]) (rest := []) (c_X9_hasRoom l D ct t0 tr 0 20 (by decide) _) (cn_of (n := 1) hn mw_431 mw_2 mw_428 mhX9_hasRoom ⟨Nat.le_of_ble_eq_true rfl, Nat.le_of_ble_eq_true rfl⟩) hx hb hml hown hn hK hPc hDc mw_430 mw_s0 (ci := 9) (q0 := 0) rfl rfl rfl rfl hl.1 (Nat.le_of_ble_eq_true rfl) dX11_feed_6 ⟨(Nat.le_of_ble_eq_true rfl), (Nat.le_of_ble_eq_true rfl)⟩) hP hD hS hA rfl rfl (by decide) (by decide) (Nat.le_of_ble_eq_true rfl) (Nat.le_of_ble_eq_true rfl) (fun r_1 u_2 H locs hp_3 hP hD hS => ?_)
  have hr_1 := hp_3
  rw [show r_1 = 1 from hr_1]
  have hP : va_P D vwCl [(h0, .inr (11, [.ref t0, .ref k0, .ref m0, .ref o0, .ref f0, .ref sf, .ref p0, .ref sp, .int 0, .ref rd, .ref cd, .ref tl, .ref in0, .ref gk])), (tr, .inl (ct 0, 2000, .inl f)), (t0, .inr (9, [.ref tr, .int (nI 0)]))] _ := hP
  have hD : va_D A [(h0, .inr (11, [.ref t0, .ref k0, .ref m0, .ref o0, .ref f0, .ref sf, .ref p0, .ref sp, .int 0, .ref rd, .ref cd, .ref tl, .ref in0, .ref gk])), (tr, .inl (ct 0, 2000, .inl f)), (t0, .inr (9, [.ref tr, .int (nI 0)]))] := hD
  refine lv_if_ne (tgt := 14) hx hb dX11_feed_9 (by decide) (fun c_4 => ?_) (fun c_4 => absurd c_4 (by decide))
  refine lv_aload_n hx hb dX11_feed_14 rfl (lv_at hl 0 rfl) ?_
  refine va_get (D := D) (ci := 11) (v := .ref t0) (C := RX11) (T := TX11) (N := 14) hx hb (htX11 hn) (fun _ h => h) hown hK hP 0 rfl rfl 0 (by decide) (hn.get mw_381 rfl) (fun _ h9 => h9) rfl dX11_feed_15 ?_
  refine lv_iload_n hx hb dX11_feed_18 rfl (lv_at hl 1 rfl) ?_
  have hPc := hP.sub (ws' := [(t0, .inr (9, [.ref tr, .int (nI 0)])), (tr, .inl (ct 0, 2000, .inl f))]) [2, 1] rfl
  have hDc := hD.sub (ws' := [(t0, .inr (9, [.ref tr, .int (nI 0)])), (tr, .inl (ct 0, 2000, .inl f))]) [2, 1] (by decide) rfl
  refine go_v (k1 := 0) (n1 := 0) (wr := [(h0, .inr (11, [.ref t0, .ref k0, .ref m0, .ref o0, .ref f0, .ref sf, .ref p0, .ref sp, .int 0, .ref rd, .ref cd, .ref tl, .ref in0, .ref gk]))]) [2, 1] [0] (rn_VN (As := [.int a]) (rest := []) (c_X9_put l D ct t0 tr 0 a f (by decide) _) (cn_of (n := 1) hn mw_435 mw_2 mw_432 mhX9_put ⟨Nat.le_of_ble_eq_true rfl, Nat.le_of_ble_eq_true rfl⟩) hx hb hml hown hn hK hPc hDc mw_434 mw_s1 (ci := 9) (q0 := 0) rfl rfl rfl rfl hl.1 (Nat.le_of_ble_eq_true rfl) dX11_feed_19 ⟨(Nat.le_of_ble_eq_true rfl), (Nat.le_of_ble_eq_true rfl)⟩) hP hD hS hA rfl rfl (by decide) (by decide) (Nat.le_of_ble_eq_true rfl) (Nat.le_of_ble_eq_true rfl) (fun u_6 H locs hp_7 hP hD hS => ?_)
  obtain ⟨g_8, rfl⟩ : ∃ z, z = u_6 := ⟨_, rfl⟩
  have hP : va_P D vwCl [(h0, .inr (11, [.ref t0, .ref k0, .ref m0, .ref o0, .ref f0, .ref sf, .ref p0, .ref sp, .int 0, .ref rd, .ref cd, .ref tl, .ref in0, .ref gk])), (t0, .inr (9, [.ref tr, .int (nI (0 + 4))])), (tr, .inl (ct 0, 2000, .inl g_8))] _ := hP
  have hD : va_D A [(h0, .inr (11, [.ref t0, .ref k0, .ref m0, .ref o0, .ref f0, .ref sf, .ref p0, .ref sp, .int 0, .ref rd, .ref cd, .ref tl, .ref in0, .ref gk])), (t0, .inr (9, [.ref tr, .int (nI (0 + 4))])), (tr, .inl (ct 0, 2000, .inl g_8))] := hD
  refine lv_aload_n hx hb dX11_feed_22 rfl (lv_at hl 0 rfl) ?_
  refine va_get (D := D) (ci := 11) (v := .ref t0) (C := RX11) (T := TX11) (N := 14) hx hb (htX11 hn) (fun _ h => h) hown hK hP 0 rfl rfl 0 (by decide) (hn.get mw_381 rfl) (fun _ h9 => h9) rfl dX11_feed_23 ?_
  refine lv_iload_n hx hb dX11_feed_26 rfl (lv_at hl 2 rfl) ?_
  have hPc := hP.sub (ws' := [(t0, .inr (9, [.ref tr, .int (nI (0 + 4))])), (tr, .inl (ct 0, 2000, .inl g_8))]) [1, 2] rfl
  have hDc := hD.sub (ws' := [(t0, .inr (9, [.ref tr, .int (nI (0 + 4))])), (tr, .inl (ct 0, 2000, .inl g_8))]) [1, 2] (by decide) rfl
  refine go_v (k1 := 0) (n1 := 0) (wr := [(h0, .inr (11, [.ref t0, .ref k0, .ref m0, .ref o0, .ref f0, .ref sf, .ref p0, .ref sp, .int 0, .ref rd, .ref cd, .ref tl, .ref in0, .ref gk]))]) [1, 2] [0] (rn_VN (As := [.int b1]) (rest := []) (c_X9_put l D ct t0 tr (0 + 4) b1 g_8 (by decide) _) (cn_of (n := 1) hn mw_435 mw_2 mw_432 mhX9_put ⟨Nat.le_of_ble_eq_true rfl, Nat.le_of_ble_eq_true rfl⟩) hx hb hml hown hn hK hPc hDc mw_434 mw_s1 (ci := 9) (q0 := 0) rfl rfl rfl rfl hl.1 (Nat.le_of_ble_eq_true rfl) dX11_feed_27 ⟨(Nat.le_of_ble_eq_true rfl), (Nat.le_of_ble_eq_true rfl)⟩) hP hD hS hA rfl rfl (by decide) (by decide) (Nat.le_of_ble_eq_true rfl) (Nat.le_of_ble_eq_true rfl) (fun u_10 H locs hp_11 hP hD hS => ?_)
  obtain ⟨g_12, rfl⟩ : ∃ z, z = u_10 := ⟨_, rfl⟩
  have hP : va_P D vwCl [(h0, .inr (11, [.ref t0, .ref k0, .ref m0, .ref o0, .ref f0, .ref sf, .ref p0, .ref sp, .int 0, .ref rd, .ref cd, .ref tl, .ref in0, .ref gk])), (t0, .inr (9, [.ref tr, .int (nI ((0 + 4) + 4))])), (tr, .inl (ct 0, 2000, .inl g_12))] _ := hP
  have hD : va_D A [(h0, .inr (11, [.ref t0, .ref k0, .ref m0, .ref o0, .ref f0, .ref sf, .ref p0, .ref sp, .int 0, .ref rd, .ref cd, .ref tl, .ref in0, .ref gk])), (t0, .inr (9, [.ref tr, .int (nI ((0 + 4) + 4))])), (tr, .inl (ct 0, 2000, .inl g_12))] := hD
  refine lv_aload_n hx hb dX11_feed_30 rfl (lv_at hl 0 rfl) ?_
  refine va_get (D := D) (ci := 11) (v := .ref t0) (C := RX11) (T := TX11) (N := 14) hx hb (htX11 hn) (fun _ h => h) hown hK hP 0 rfl rfl 0 (by decide) (hn.get mw_381 rfl) (fun _ h9 => h9) rfl dX11_feed_31 ?_
  refine lv_iload_n hx hb dX11_feed_34 rfl (lv_at hl 3 rfl) ?_
  have hPc := hP.sub (ws' := [(t0, .inr (9, [.ref tr, .int (nI ((0 + 4) + 4))])), (tr, .inl (ct 0, 2000, .inl g_12))]) [1, 2] rfl
  have hDc := hD.sub (ws' := [(t0, .inr (9, [.ref tr, .int (nI ((0 + 4) + 4))])), (tr, .inl (ct 0, 2000, .inl g_12))]) [1, 2] (by decide) rfl
  refine go_v (k1 := 0) (n1 := 0) (wr := [(h0, .inr (11, [.ref t0, .ref k0, .ref m0, .ref o0, .ref f0, .ref sf, .ref p0, .ref sp, .int 0, .ref rd, .ref cd, .ref tl, .ref in0, .ref gk]))]) [1, 2] [0] (rn_VN (As := [.int c1]) (rest := []) (c_X9_put l D ct t0 tr ((0 + 4) + 4) c1 g_12 (by decide) _) (cn_of (n := 1) hn mw_435 mw_2 mw_432 mhX9_put ⟨Nat.le_of_ble_eq_true rfl, Nat.le_of_ble_eq_true rfl⟩) hx hb hml hown hn hK hPc hDc mw_434 mw_s1 (ci := 9) (q0 := 0) rfl rfl rfl rfl hl.1 (Nat.le_of_ble_eq_true rfl) dX11_feed_35 ⟨(Nat.le_of_ble_eq_true rfl), (Nat.le_of_ble_eq_true rfl)⟩) hP hD hS hA rfl rfl (by decide) (by decide) (Nat.le_of_ble_eq_true rfl) (Nat.le_of_ble_eq_true rfl) (fun u_14 H locs hp_15 hP hD hS => ?_)
  obtain ⟨g_16, rfl⟩ : ∃ z, z = u_14 := ⟨_, rfl⟩
  have hP : va_P D vwCl [(h0, .inr (11, [.ref t0, .ref k0, .ref m0, .ref o0, .ref f0, .ref sf, .ref p0, .ref sp, .int 0, .ref rd, .ref cd, .ref tl, .ref in0, .ref gk])), (t0, .inr (9, [.ref tr, .int (nI (((0 + 4) + 4) + 4))])), (tr, .inl (ct 0, 2000, .inl g_16))] _ := hP
  have hD : va_D A [(h0, .inr (11, [.ref t0, .ref k0, .ref m0, .ref o0, .ref f0, .ref sf, .ref p0, .ref sp, .int 0, .ref rd, .ref cd, .ref tl, .ref in0, .ref gk])), (t0, .inr (9, [.ref tr, .int (nI (((0 + 4) + 4) + 4))])), (tr, .inl (ct 0, 2000, .inl g_16))] := hD
  refine lv_aload_n hx hb dX11_feed_38 rfl (lv_at hl 0 rfl) ?_
  refine va_get (D := D) (ci := 11) (v := .ref t0) (C := RX11) (T := TX11) (N := 14) hx hb (htX11 hn) (fun _ h => h) hown hK hP 0 rfl rfl 0 (by decide) (hn.get mw_381 rfl) (fun _ h9 => h9) rfl dX11_feed_39 ?_
  refine lv_iload hx hb dX11_feed_42 (lv_at hl 4 rfl) ?_
  have hPc := hP.sub (ws' := [(t0, .inr (9, [.ref tr, .int (nI (((0 + 4) + 4) + 4))])), (tr, .inl (ct 0, 2000, .inl g_16))]) [1, 2] rfl
  have hDc := hD.sub (ws' := [(t0, .inr (9, [.ref tr, .int (nI (((0 + 4) + 4) + 4))])), (tr, .inl (ct 0, 2000, .inl g_16))]) [1, 2] (by decide) rfl
  refine go_v (k1 := 0) (n1 := 0) (wr := [(h0, .inr (11, [.ref t0, .ref k0, .ref m0, .ref o0, .ref f0, .ref sf, .ref p0, .ref sp, .int 0, .ref rd, .ref cd, .ref tl, .ref in0, .ref gk]))]) [1, 2] [0] (rn_VN (As := [.int d1]) (rest := []) (c_X9_put l D ct t0 tr (((0 + 4) + 4) + 4) d1 g_16 (by decide) _) (cn_of (n := 1) hn mw_435 mw_2 mw_432 mhX9_put ⟨Nat.le_of_ble_eq_true rfl, Nat.le_of_ble_eq_true rfl⟩) hx hb hml hown hn hK hPc hDc mw_434 mw_s1 (ci := 9) (q0 := 0) rfl rfl rfl rfl hl.1 (Nat.le_of_ble_eq_true rfl) dX11_feed_44 ⟨(Nat.le_of_ble_eq_true rfl), (Nat.le_of_ble_eq_true rfl)⟩) hP hD hS hA rfl rfl (by decide) (by decide) (Nat.le_of_ble_eq_true rfl) (Nat.le_of_ble_eq_true rfl) (fun u_18 H locs hp_19 hP hD hS => ?_)
  obtain ⟨g_20, rfl⟩ : ∃ z, z = u_18 := ⟨_, rfl⟩
  have hP : va_P D vwCl [(h0, .inr (11, [.ref t0, .ref k0, .ref m0, .ref o0, .ref f0, .ref sf, .ref p0, .ref sp, .int 0, .ref rd, .ref cd, .ref tl, .ref in0, .ref gk])), (t0, .inr (9, [.ref tr, .int (nI ((((0 + 4) + 4) + 4) + 4))])), (tr, .inl (ct 0, 2000, .inl g_20))] _ := hP
  have hD : va_D A [(h0, .inr (11, [.ref t0, .ref k0, .ref m0, .ref o0, .ref f0, .ref sf, .ref p0, .ref sp, .int 0, .ref rd, .ref cd, .ref tl, .ref in0, .ref gk])), (t0, .inr (9, [.ref tr, .int (nI ((((0 + 4) + 4) + 4) + 4))])), (tr, .inl (ct 0, 2000, .inl g_20))] := hD
  refine lv_aload_n hx hb dX11_feed_47 rfl (lv_at hl 0 rfl) ?_
  refine va_get (D := D) (ci := 11) (v := .ref t0) (C := RX11) (T := TX11) (N := 14) hx hb (htX11 hn) (fun _ h => h) hown hK hP 0 rfl rfl 0 (by decide) (hn.get mw_381 rfl) (fun _ h9 => h9) rfl dX11_feed_48 ?_
  refine lv_iload hx hb dX11_feed_51 (lv_at hl 5 rfl) ?_
  have hPc := hP.sub (ws' := [(t0, .inr (9, [.ref tr, .int (nI ((((0 + 4) + 4) + 4) + 4))])), (tr, .inl (ct 0, 2000, .inl g_20))]) [1, 2] rfl
  have hDc := hD.sub (ws' := [(t0, .inr (9, [.ref tr, .int (nI ((((0 + 4) + 4) + 4) + 4))])), (tr, .inl (ct 0, 2000, .inl g_20))]) [1, 2] (by decide) rfl
  refine go_v (k1 := 0) (n1 := 0) (wr := [(h0, .inr (11, [.ref t0, .ref k0, .ref m0, .ref o0, .ref f0, .ref sf, .ref p0, .ref sp, .int 0, .ref rd, .ref cd, .ref tl, .ref in0, .ref gk]))]) [1, 2] [0] (rn_VN (As := [.int e1]) (rest := []) (c_X9_put l D ct t0 tr ((((0 + 4) + 4) + 4) + 4) e1 g_20 (by decide) _) (cn_of (n := 1) hn mw_435 mw_2 mw_432 mhX9_put ⟨Nat.le_of_ble_eq_true rfl, Nat.le_of_ble_eq_true rfl⟩) hx hb hml hown hn hK hPc hDc mw_434 mw_s1 (ci := 9) (q0 := 0) rfl rfl rfl rfl hl.1 (Nat.le_of_ble_eq_true rfl) dX11_feed_53 ⟨(Nat.le_of_ble_eq_true rfl), (Nat.le_of_ble_eq_true rfl)⟩) hP hD hS hA rfl rfl (by decide) (by decide) (Nat.le_of_ble_eq_true rfl) (Nat.le_of_ble_eq_true rfl) (fun u_22 H locs hp_23 hP hD hS => ?_)
  obtain ⟨g_24, rfl⟩ : ∃ z, z = u_22 := ⟨_, rfl⟩
  have hP : va_P D vwCl [(h0, .inr (11, [.ref t0, .ref k0, .ref m0, .ref o0, .ref f0, .ref sf, .ref p0, .ref sp, .int 0, .ref rd, .ref cd, .ref tl, .ref in0, .ref gk])), (t0, .inr (9, [.ref tr, .int (nI (((((0 + 4) + 4) + 4) + 4) + 4))])), (tr, .inl (ct 0, 2000, .inl g_24))] _ := hP
  have hD : va_D A [(h0, .inr (11, [.ref t0, .ref k0, .ref m0, .ref o0, .ref f0, .ref sf, .ref p0, .ref sp, .int 0, .ref rd, .ref cd, .ref tl, .ref in0, .ref gk])), (t0, .inr (9, [.ref tr, .int (nI (((((0 + 4) + 4) + 4) + 4) + 4))])), (tr, .inl (ct 0, 2000, .inl g_24))] := hD
  refine lv_aload_n hx hb dX11_feed_56 rfl (lv_at hl 0 rfl) ?_
  refine va_get (D := D) (ci := 11) (v := .ref t0) (C := RX11) (T := TX11) (N := 14) hx hb (htX11 hn) (fun _ h => h) hown hK hP 0 rfl rfl 0 (by decide) (hn.get mw_381 rfl) (fun _ h9 => h9) rfl dX11_feed_57 ?_
  refine va_getN (D := D) (ci := 9) (v := .int (nI (((((0 + 4) + 4) + 4) + 4) + 4))) (C := RX9) (T := TX9) (N := 2) hx hb (htX9 hn) (fun _ h => h) hown hK hP 1 rfl rfl 1 (by decide) (hn.get mw_47 rfl) (fun _ h9 => h9) rfl dX11_feed_60 ?_
  refine top_c (v := 20) (by decide) ?_
  exact end_i hx hb hr hlocks dX11_feed_63 rfl () rfl hP hD hS [] rfl (by decide) rfl (Nat.le_of_ble_eq_true rfl) (Nat.le_of_ble_eq_true rfl)
set_option maxHeartbeats 4000000 in
set_option maxRecDepth 100000 in
theorem c_X11_end (l : Launch) (D : va_G) (ct : Nat → ClassId) (h0 : Nat) (t0 : Nat) (k0 : Nat) (m0 : Nat) (o0 : Nat) (f0 : Nat) (sf : Nat) (p0 : Nat) (sp : Nat) (rd : Nat) (cd : Nat) (tl : Nat) (in0 : Nat) (gk : Nat) (tr : Nat) (n : Int32)  : KI (S := Unit) l yX11_end cX11_end 2 (some .int) 1 20 D ct [.ref h0, .int n] [(h0, .inr (11, [.ref t0, .ref k0, .ref m0, .ref o0, .ref f0, .ref sf, .ref p0, .ref sp, .int 0, .ref rd, .ref cd, .ref tl, .ref in0, .ref gk])), (t0, .inr (9, [.ref tr, .int 0]))] 0 0 (fun r _ => r = exEnd n) (fun (_ : Unit) => []) := by
  refine KI_of (by decide) (Nat.le_of_ble_eq_true rfl) (fun p e s m below meth c A C0 hA hS hP hD ls hl => ?_)
  obtain ⟨hx, hb, hr, hown, hin, hml, hlocks, hn, hK⟩ := C0
  have hl : lv_has ls 2 [(0, .ref h0), (1, .int n)] := hl
  refine lv_iload_n hx hb dX11_end_0 rfl (lv_at hl 1 rfl) ?_
  refine lv_if_lt (tgt := 15) hx hb dX11_end_1 (by decide) (fun c_1 => ?_) (fun c_1 => ?_)
  · refine lv_iconst (v := (-1)) hx hb dX11_end_15 (by decide) ?_
    exact end_i hx hb hr hlocks dX11_end_16 rfl () (exEnd_n c_1) hP hD hS [] rfl (by decide) rfl (Nat.le_of_ble_eq_true rfl) (Nat.le_of_ble_eq_true rfl)
  · refine lv_iload_n hx hb dX11_end_4 rfl (lv_at hl 1 rfl) ?_
    refine lv_aload_n hx hb dX11_end_5 rfl (lv_at hl 0 rfl) ?_
    refine va_get (D := D) (ci := 11) (v := .ref t0) (C := RX11) (T := TX11) (N := 14) hx hb (htX11 hn) (fun _ h => h) hown hK hP 0 rfl rfl 0 (by decide) (hn.get mw_381 rfl) (fun _ h9 => h9) rfl dX11_end_6 ?_
    refine va_getN (D := D) (ci := 9) (v := .int 0) (C := RX9) (T := TX9) (N := 2) hx hb (htX9 hn) (fun _ h => h) hown hK hP 1 rfl rfl 1 (by decide) (hn.get mw_47 rfl) (fun _ h9 => h9) rfl dX11_end_9 ?_
    refine lv_icmp_le (tgt := 17) hx hb dX11_end_12 (by decide) (fun c_2 => ?_) (fun c_2 => ?_)
    · refine lv_aload_n hx hb dX11_end_17 rfl (lv_at hl 0 rfl) ?_
      refine va_get (D := D) (ci := 11) (v := .ref t0) (C := RX11) (T := TX11) (N := 14) hx hb (htX11 hn) (fun _ h => h) hown hK hP 0 rfl rfl 0 (by decide) (hn.get mw_381 rfl) (fun _ h9 => h9) rfl dX11_end_18 ?_
      refine lv_iload_n hx hb dX11_end_21 rfl (lv_at hl 1 rfl) ?_
      refine va_putN (D := D) (ci := 9) (v := .int n) (ty := .int) (C := RX9) (T := TX9) (N := 2) hx hb (htX9 hn) (fun _ h => h) tyX9 tyX9_ok nmX9 hown hK hP hD hS 1 rfl rfl 1 (by decide) (hn.get mw_47 rfl) (fun _ h9 => h9) rfl (by decide +kernel) rfl rfl (Nat.le_of_ble_eq_true rfl) dX11_end_22 (fun H locs hP hD hS => ?_)
      have hP : va_P D vwCl [(h0, .inr (11, [.ref t0, .ref k0, .ref m0, .ref o0, .ref f0, .ref sf, .ref p0, .ref sp, .int 0, .ref rd, .ref cd, .ref tl, .ref in0, .ref gk])), (t0, .inr (9, [.ref tr, .int n]))] _ := hP
      have hD : va_D A [(h0, .inr (11, [.ref t0, .ref k0, .ref m0, .ref o0, .ref f0, .ref sf, .ref p0, .ref sp, .int 0, .ref rd, .ref cd, .ref tl, .ref in0, .ref gk])), (t0, .inr (9, [.ref tr, .int n]))] := hD
      refine lv_iload_n hx hb dX11_end_25 rfl (lv_at hl 1 rfl) ?_
      exact end_i hx hb hr hlocks dX11_end_26 rfl () (exEnd_0 c_1 c_2) hP hD hS [] rfl (by decide) rfl (Nat.le_of_ble_eq_true rfl) (Nat.le_of_ble_eq_true rfl)
    · refine lv_iconst (v := (-1)) hx hb dX11_end_15 (by decide) ?_
      exact end_i hx hb hr hlocks dX11_end_16 rfl () (exEnd_p c_2) hP hD hS [] rfl (by decide) rfl (Nat.le_of_ble_eq_true rfl) (Nat.le_of_ble_eq_true rfl)
set_option maxHeartbeats 4000000 in
set_option maxRecDepth 100000 in
theorem c_X11_packet (l : Launch) (D : va_G) (ct : Nat → ClassId) (h0 : Nat) (t0 : Nat) (k0 : Nat) (m0 : Nat) (o0 : Nat) (f0 : Nat) (sf : Nat) (p0 : Nat) (sp : Nat) (rd : Nat) (cd : Nat) (tl : Nat) (in0 : Nat) (gk : Nat) (ka : Nat) (kb : Nat) (tr : Nat) (f : Nat → Int32)  : KI (S := Unit) l yX11_packet cX11_packet 2 (some .int) 2 42 D ct [.ref h0] [(h0, .inr (11, [.ref t0, .ref k0, .ref m0, .ref o0, .ref f0, .ref sf, .ref p0, .ref sp, .int 0, .ref rd, .ref cd, .ref tl, .ref in0, .ref gk])), (k0, .inr (6, [.ref ka, .ref kb, .int 0])), (kb, .inl (ct 1, 16, .inl f)), (t0, .inr (9, [.ref tr, .int 0]))] 0 0 (fun r _ => r = 0) (fun (_ : Unit) => []) := by
  refine KI_of (by decide) (Nat.le_of_ble_eq_true rfl) (fun p e s m below meth c A C0 hA hS hP hD ls hl => ?_)
  obtain ⟨hx, hb, hr, hown, hin, hml, hlocks, hn, hK⟩ := C0
  have hl : lv_has ls 2 [(0, .ref h0)] := hl
  refine lv_aload_n hx hb dX11_packet_0 rfl (lv_at hl 0 rfl) ?_
  refine va_get (D := D) (ci := 11) (v := .ref k0) (C := RX11) (T := TX11) (N := 14) hx hb (htX11 hn) (fun _ h => h) hown hK hP 0 rfl rfl 1 (by decide) (hn.get mw_382 rfl) (fun _ h9 => h9) rfl dX11_packet_1 ?_
  refine lv_aload_n hx hb dX11_packet_4 rfl (lv_at hl 0 rfl) ?_
  refine va_get (D := D) (ci := 11) (v := .ref t0) (C := RX11) (T := TX11) (N := 14) hx hb (htX11 hn) (fun _ h => h) hown hK hP 0 rfl rfl 0 (by decide) (hn.get mw_381 rfl) (fun _ h9 => h9) rfl dX11_packet_5 ?_
  have hPc := hP.sub (ws' := [(k0, .inr (6, [.ref ka, .ref kb, .int 0])), (kb, .inl (ct 1, 16, .inl f)), (t0, .inr (9, [.ref tr, .int 0]))]) [1, 2, 3] rfl
  have hDc := hD.sub (ws' := [(k0, .inr (6, [.ref ka, .ref kb, .int 0])), (kb, .inl (ct 1, 16, .inl f)), (t0, .inr (9, [.ref tr, .int 0]))]) [1, 2, 3] (by decide) rfl
  refine go_i (k1 := 0) (n1 := 0) (wr := [(h0, .inr (11, [.ref t0, .ref k0, .ref m0, .ref o0, .ref f0, .ref sf, .ref p0, .ref sp, .int 0, .ref rd, .ref cd, .ref tl, .ref in0, .ref gk]))]) [1, 2, 3] [0] (rn_VN (As := [.ref t0]) (rest := []) (c_X6_add l D ct k0 ka kb t0 tr f  _) (cn_of (n := 1) hn mw_448 mw_3 mw_445 mhX6_add ⟨Nat.le_of_ble_eq_true rfl, Nat.le_of_ble_eq_true rfl⟩) hx hb hml hown hn hK hPc hDc mw_447 mw_s2 (ci := 6) (q0 := 0) rfl rfl rfl rfl hl.1 (Nat.le_of_ble_eq_true rfl) dX11_packet_8 ⟨(Nat.le_of_ble_eq_true rfl), (Nat.le_of_ble_eq_true rfl)⟩) hP hD hS hA rfl rfl (by decide) (by decide) (Nat.le_of_ble_eq_true rfl) (Nat.le_of_ble_eq_true rfl) (fun r_1 u_2 H locs hp_3 hP hD hS => ?_)
  obtain ⟨g_4, rfl⟩ : ∃ z, z = u_2 := ⟨_, rfl⟩
  have hr_1 := hp_3
  rw [show r_1 = 0 from hr_1]
  have hP : va_P D vwCl [(h0, .inr (11, [.ref t0, .ref k0, .ref m0, .ref o0, .ref f0, .ref sf, .ref p0, .ref sp, .int 0, .ref rd, .ref cd, .ref tl, .ref in0, .ref gk])), (k0, .inr (6, [.ref ka, .ref kb, .int 1])), (kb, .inl (ct 1, 16, .inl g_4)), (t0, .inr (9, [.ref tr, .int 0]))] _ := hP
  have hD : va_D A [(h0, .inr (11, [.ref t0, .ref k0, .ref m0, .ref o0, .ref f0, .ref sf, .ref p0, .ref sp, .int 0, .ref rd, .ref cd, .ref tl, .ref in0, .ref gk])), (k0, .inr (6, [.ref ka, .ref kb, .int 1])), (kb, .inl (ct 1, 16, .inl g_4)), (t0, .inr (9, [.ref tr, .int 0]))] := hD
  refine lv_istore_n (lv' := [(1, .int 0), (0, .ref h0)]) hx hb dX11_packet_11 rfl hl (by decide) rfl (fun ls hl => ?_)
  refine lv_aload_n hx hb dX11_packet_12 rfl (lv_at hl 1 rfl) ?_
  refine va_get (D := D) (ci := 11) (v := .ref t0) (C := RX11) (T := TX11) (N := 14) hx hb (htX11 hn) (fun _ h => h) hown hK hP 0 rfl rfl 0 (by decide) (hn.get mw_381 rfl) (fun _ h9 => h9) rfl dX11_packet_13 ?_
  refine lv_iconst (v := 0) hx hb dX11_packet_16 (by decide) ?_
  refine va_putN (D := D) (ci := 9) (v := .int 0) (ty := .int) (C := RX9) (T := TX9) (N := 2) hx hb (htX9 hn) (fun _ h => h) tyX9 tyX9_ok nmX9 hown hK hP hD hS 3 rfl rfl 1 (by decide) (hn.get mw_47 rfl) (fun _ h9 => h9) rfl (by decide +kernel) rfl rfl (Nat.le_of_ble_eq_true rfl) dX11_packet_17 (fun H locs hP hD hS => ?_)
  have hP : va_P D vwCl [(h0, .inr (11, [.ref t0, .ref k0, .ref m0, .ref o0, .ref f0, .ref sf, .ref p0, .ref sp, .int 0, .ref rd, .ref cd, .ref tl, .ref in0, .ref gk])), (k0, .inr (6, [.ref ka, .ref kb, .int 1])), (kb, .inl (ct 1, 16, .inl g_4)), (t0, .inr (9, [.ref tr, .int 0]))] _ := hP
  have hD : va_D A [(h0, .inr (11, [.ref t0, .ref k0, .ref m0, .ref o0, .ref f0, .ref sf, .ref p0, .ref sp, .int 0, .ref rd, .ref cd, .ref tl, .ref in0, .ref gk])), (k0, .inr (6, [.ref ka, .ref kb, .int 1])), (kb, .inl (ct 1, 16, .inl g_4)), (t0, .inr (9, [.ref tr, .int 0]))] := hD
  refine lv_iload_n hx hb dX11_packet_20 rfl (lv_at hl 0 rfl) ?_
  exact end_i hx hb hr hlocks dX11_packet_21 rfl () rfl hP hD hS [] rfl (by decide) rfl (Nat.le_of_ble_eq_true rfl) (Nat.le_of_ble_eq_true rfl)
set_option maxHeartbeats 4000000 in
set_option maxRecDepth 100000 in
theorem c_X11_bytes (l : Launch) (D : va_G) (ct : Nat → ClassId) (h0 : Nat) (t0 : Nat) (k0 : Nat) (m0 : Nat) (o0 : Nat) (f0 : Nat) (sf : Nat) (p0 : Nat) (sp : Nat) (rd : Nat) (cd : Nat) (tl : Nat) (in0 : Nat) (gk : Nat) (ka : Nat) (kb : Nat) (px : Int32) (j : Int32)  : KL (S := Unit) l yX11_bytes cX11_bytes 3 (some .long) 4 90 D ct [.ref h0, .int px, .int j] [(h0, .inr (11, [.ref t0, .ref k0, .ref m0, .ref o0, .ref f0, .ref sf, .ref p0, .ref sp, .int 0, .ref rd, .ref cd, .ref tl, .ref in0, .ref gk])), (k0, .inr (6, [.ref ka, .ref kb, .int 0]))] 0 0 (fun r _ => r = -1) (fun (_ : Unit) => []) := by
  refine KL_of (by decide) (Nat.le_of_ble_eq_true rfl) (fun p e s m below meth c A C0 hA hS hP hD ls hl => ?_)
  obtain ⟨hx, hb, hr, hown, hin, hml, hlocks, hn, hK⟩ := C0
  have hl : lv_has ls 3 [(0, .ref h0), (1, .int px), (2, .int j)] := hl
  refine lv_aload_n hx hb dX11_bytes_0 rfl (lv_at hl 0 rfl) ?_
  refine va_get (D := D) (ci := 11) (v := .ref k0) (C := RX11) (T := TX11) (N := 14) hx hb (htX11 hn) (fun _ h => h) hown hK hP 0 rfl rfl 1 (by decide) (hn.get mw_382 rfl) (fun _ h9 => h9) rfl dX11_bytes_1 ?_
  refine lv_iload_n hx hb dX11_bytes_4 rfl (lv_at hl 1 rfl) ?_
  refine lv_iload_n hx hb dX11_bytes_5 rfl (lv_at hl 2 rfl) ?_
  have hPc := hP.sub (ws' := [(k0, .inr (6, [.ref ka, .ref kb, .int 0]))]) [1] rfl
  have hDc := hD.sub (ws' := [(k0, .inr (6, [.ref ka, .ref kb, .int 0]))]) [1] (by decide) rfl
  refine go_l (k1 := 0) (n1 := 0) (wr := [(h0, .inr (11, [.ref t0, .ref k0, .ref m0, .ref o0, .ref f0, .ref sf, .ref p0, .ref sp, .int 0, .ref rd, .ref cd, .ref tl, .ref in0, .ref gk]))]) [1] [0] (rn_VN (As := [.int px, .int j]) (rest := []) (c_X6_eightFrom l D ct k0 ka kb px j  _) (cn_of (n := 2) hn mw_460 mw_3 mw_457 mhX6_eightFrom ⟨Nat.le_of_ble_eq_true rfl, Nat.le_of_ble_eq_true rfl⟩) hx hb hml hown hn hK hPc hDc mw_459 mw_s4 (ci := 6) (q0 := 0) rfl rfl rfl rfl hl.1 (Nat.le_of_ble_eq_true rfl) dX11_bytes_6 ⟨(Nat.le_of_ble_eq_true rfl), (Nat.le_of_ble_eq_true rfl)⟩) hP hD hS hA rfl rfl (by decide) (by decide) (Nat.le_of_ble_eq_true rfl) (Nat.le_of_ble_eq_true rfl) (fun r_1 u_2 H locs hp_3 hP hD hS => ?_)
  have hr_1 := hp_3
  rw [show r_1 = (-1) from hr_1]
  have hP : va_P D vwCl [(h0, .inr (11, [.ref t0, .ref k0, .ref m0, .ref o0, .ref f0, .ref sf, .ref p0, .ref sp, .int 0, .ref rd, .ref cd, .ref tl, .ref in0, .ref gk])), (k0, .inr (6, [.ref ka, .ref kb, .int 0]))] _ := hP
  have hD : va_D A [(h0, .inr (11, [.ref t0, .ref k0, .ref m0, .ref o0, .ref f0, .ref sf, .ref p0, .ref sp, .int 0, .ref rd, .ref cd, .ref tl, .ref in0, .ref gk])), (k0, .inr (6, [.ref ka, .ref kb, .int 0]))] := hD
  exact end_l hx hb hr hlocks dX11_bytes_9 () rfl hP hD hS [] rfl (by decide) rfl (Nat.le_of_ble_eq_true rfl) (Nat.le_of_ble_eq_true rfl)
set_option maxHeartbeats 4000000 in
set_option maxRecDepth 100000 in
theorem c_X11_compile (l : Launch) (D : va_G) (ct : Nat → ClassId) (h0 : Nat) (t0 : Nat) (k0 : Nat) (m0 : Nat) (o0 : Nat) (f0 : Nat) (sf : Nat) (p0 : Nat) (sp : Nat) (rd : Nat) (cd : Nat) (tl : Nat) (in0 : Nat) (gk : Nat) (tr : Nat) (a0 : Nat) (a1 : Nat) (a2 : Nat) (a4 : Nat) (a5 : Nat) (a6 : Nat) (a7 : Nat) (a8 : Nat) (a9 : Nat) (a10 : Nat) (a13 : Nat) (a15 : Nat) (a17 : Nat) (f : Nat → Int32)  : KI (S := Unit) l yX11_compile cX11_compile 3 (some .int) 7 167 D ct [.ref h0] [(h0, .inr (11, [.ref t0, .ref k0, .ref m0, .ref o0, .ref f0, .ref sf, .ref p0, .ref sp, .int 0, .ref rd, .ref cd, .ref tl, .ref in0, .ref gk])), (t0, .inr (9, [.ref tr, .int 0])), (rd, .inr (8, [.ref t0, .ref sf, .int 0, .int 0, .int 0, .int 0])), (sf, .inr (2, [.ref a0, .ref a1, .ref a2, .int 0, .ref a4, .ref a5, .ref a6, .ref a7, .ref a8, .ref a9, .ref a10, .int 0, .int 0, .ref a13, .int 0, .ref a15, .int 0, .ref a17])), (a13, .inl (ct 1, 5000, .inl f))] 0 0 (fun r _ => r = -1) (fun (_ : Unit) => []) := by
  refine KI_of (by decide) (Nat.le_of_ble_eq_true rfl) (fun p e s m below meth c A C0 hA hS hP hD ls hl => ?_)
  obtain ⟨hx, hb, hr, hown, hin, hml, hlocks, hn, hK⟩ := C0
  have hl : lv_has ls 3 [(0, .ref h0)] := hl
  refine lv_aload_n hx hb dX11_compile_0 rfl (lv_at hl 0 rfl) ?_
  refine va_get (D := D) (ci := 11) (v := .ref rd) (C := RX11) (T := TX11) (N := 14) hx hb (htX11 hn) (fun _ h => h) hown hK hP 0 rfl rfl 9 (by decide) (hn.get mw_390 rfl) (fun _ h9 => h9) rfl dX11_compile_1 ?_
  refine lv_aload_n hx hb dX11_compile_4 rfl (lv_at hl 0 rfl) ?_
  refine va_get (D := D) (ci := 11) (v := .ref sf) (C := RX11) (T := TX11) (N := 14) hx hb (htX11 hn) (fun _ h => h) hown hK hP 0 rfl rfl 5 (by decide) (hn.get mw_386 rfl) (fun _ h9 => h9) rfl dX11_compile_5 ?_
  have hPc := hP.sub (ws' := [(rd, .inr (8, [.ref t0, .ref sf, .int 0, .int 0, .int 0, .int 0])), (t0, .inr (9, [.ref tr, .int 0])), (sf, .inr (2, [.ref a0, .ref a1, .ref a2, .int 0, .ref a4, .ref a5, .ref a6, .ref a7, .ref a8, .ref a9, .ref a10, .int 0, .int 0, .ref a13, .int 0, .ref a15, .int 0, .ref a17]))]) [2, 1, 3] rfl
  have hDc := hD.sub (ws' := [(rd, .inr (8, [.ref t0, .ref sf, .int 0, .int 0, .int 0, .int 0])), (t0, .inr (9, [.ref tr, .int 0])), (sf, .inr (2, [.ref a0, .ref a1, .ref a2, .int 0, .ref a4, .ref a5, .ref a6, .ref a7, .ref a8, .ref a9, .ref a10, .int 0, .int 0, .ref a13, .int 0, .ref a15, .int 0, .ref a17]))]) [2, 1, 3] (by decide) rfl
  refine go_v (k1 := 0) (n1 := 0) (wr := [(h0, .inr (11, [.ref t0, .ref k0, .ref m0, .ref o0, .ref f0, .ref sf, .ref p0, .ref sp, .int 0, .ref rd, .ref cd, .ref tl, .ref in0, .ref gk])), (a13, .inl (ct 1, 5000, .inl f))]) [2, 1, 3] [0, 4] (rn_VN (As := [.ref sf]) (rest := []) (c_X8_begin l D ct rd t0 sf tr a0 a1 a2 a4 a5 a6 a7 a8 a9 a10 a13 a15 a17 0 0 0 0 0 0 0 0 0 sf  _) (cn_of (n := 1) hn mw_477 mw_8 mw_474 mhX8_begin ⟨Nat.le_of_ble_eq_true rfl, Nat.le_of_ble_eq_true rfl⟩) hx hb hml hown hn hK hPc hDc mw_476 mw_s7 (ci := 8) (q0 := 0) rfl rfl rfl rfl hl.1 (Nat.le_of_ble_eq_true rfl) dX11_compile_8 ⟨(Nat.le_of_ble_eq_true rfl), (Nat.le_of_ble_eq_true rfl)⟩) hP hD hS hA rfl rfl (by decide) (by decide) (Nat.le_of_ble_eq_true rfl) (Nat.le_of_ble_eq_true rfl) (fun u_2 H locs hp_3 hP hD hS => ?_)
  have hP : va_P D vwCl [(h0, .inr (11, [.ref t0, .ref k0, .ref m0, .ref o0, .ref f0, .ref sf, .ref p0, .ref sp, .int 0, .ref rd, .ref cd, .ref tl, .ref in0, .ref gk])), (a13, .inl (ct 1, 5000, .inl f)), (rd, .inr (8, [.ref t0, .ref sf, .int 1, .int 0, .int 1, .int (-1)])), (t0, .inr (9, [.ref tr, .int 0])), (sf, .inr (2, [.ref a0, .ref a1, .ref a2, .int 0, .ref a4, .ref a5, .ref a6, .ref a7, .ref a8, .ref a9, .ref a10, .int 0, .int 0, .ref a13, .int 2, .ref a15, .int 0, .ref a17]))] _ := hP
  have hD : va_D A [(h0, .inr (11, [.ref t0, .ref k0, .ref m0, .ref o0, .ref f0, .ref sf, .ref p0, .ref sp, .int 0, .ref rd, .ref cd, .ref tl, .ref in0, .ref gk])), (a13, .inl (ct 1, 5000, .inl f)), (rd, .inr (8, [.ref t0, .ref sf, .int 1, .int 0, .int 1, .int (-1)])), (t0, .inr (9, [.ref tr, .int 0])), (sf, .inr (2, [.ref a0, .ref a1, .ref a2, .int 0, .ref a4, .ref a5, .ref a6, .ref a7, .ref a8, .ref a9, .ref a10, .int 0, .int 0, .ref a13, .int 2, .ref a15, .int 0, .ref a17]))] := hD
  refine lv_aload_n hx hb dX11_compile_11 rfl (lv_at hl 0 rfl) ?_
  refine va_get (D := D) (ci := 11) (v := .ref rd) (C := RX11) (T := TX11) (N := 14) hx hb (htX11 hn) (fun _ h => h) hown hK hP 0 rfl rfl 9 (by decide) (hn.get mw_390 rfl) (fun _ h9 => h9) rfl dX11_compile_12 ?_
  refine lv_iconst (v := 0) hx hb dX11_compile_15 (by decide) ?_
  refine lv_iconst (v := 1) hx hb dX11_compile_16 (by decide) ?_
  refine lv_iconst (v := 0) hx hb dX11_compile_17 (by decide) ?_
  have hPc := hP.sub (ws' := [(rd, .inr (8, [.ref t0, .ref sf, .int 1, .int 0, .int 1, .int (-1)])), (sf, .inr (2, [.ref a0, .ref a1, .ref a2, .int 0, .ref a4, .ref a5, .ref a6, .ref a7, .ref a8, .ref a9, .ref a10, .int 0, .int 0, .ref a13, .int 2, .ref a15, .int 0, .ref a17])), (a13, .inl (ct 1, 5000, .inl f))]) [2, 4, 1] rfl
  have hDc := hD.sub (ws' := [(rd, .inr (8, [.ref t0, .ref sf, .int 1, .int 0, .int 1, .int (-1)])), (sf, .inr (2, [.ref a0, .ref a1, .ref a2, .int 0, .ref a4, .ref a5, .ref a6, .ref a7, .ref a8, .ref a9, .ref a10, .int 0, .int 0, .ref a13, .int 2, .ref a15, .int 0, .ref a17])), (a13, .inl (ct 1, 5000, .inl f))]) [2, 4, 1] (by decide) rfl
  refine go_v (k1 := 0) (n1 := 0) (wr := [(h0, .inr (11, [.ref t0, .ref k0, .ref m0, .ref o0, .ref f0, .ref sf, .ref p0, .ref sp, .int 0, .ref rd, .ref cd, .ref tl, .ref in0, .ref gk])), (t0, .inr (9, [.ref tr, .int 0]))]) [2, 4, 1] [0, 3] (rn_VN (As := [.int 0, .int 1, .int 0]) (rest := []) (c_X8_readFilter l D ct rd t0 sf a0 a1 a2 a4 a5 a6 a7 a8 a9 a10 a13 a15 a17 0 f  _) (cn_of (n := 3) hn mw_508 mw_8 mw_505 mhX8_readFilter ⟨Nat.le_of_ble_eq_true rfl, Nat.le_of_ble_eq_true rfl⟩) hx hb hml hown hn hK hPc hDc mw_507 mw_s13 (ci := 8) (q0 := 0) rfl rfl rfl rfl hl.1 (Nat.le_of_ble_eq_true rfl) dX11_compile_18 ⟨(Nat.le_of_ble_eq_true rfl), (Nat.le_of_ble_eq_true rfl)⟩) hP hD hS hA rfl rfl (by decide) (by decide) (Nat.le_of_ble_eq_true rfl) (Nat.le_of_ble_eq_true rfl) (fun u_5 H locs hp_6 hP hD hS => ?_)
  have hP : va_P D vwCl [(h0, .inr (11, [.ref t0, .ref k0, .ref m0, .ref o0, .ref f0, .ref sf, .ref p0, .ref sp, .int 0, .ref rd, .ref cd, .ref tl, .ref in0, .ref gk])), (t0, .inr (9, [.ref tr, .int 0])), (rd, .inr (8, [.ref t0, .ref sf, .int 3, .int 0, .int 1, .int 0]))] _ := hP
  have hD : va_D A [(h0, .inr (11, [.ref t0, .ref k0, .ref m0, .ref o0, .ref f0, .ref sf, .ref p0, .ref sp, .int 0, .ref rd, .ref cd, .ref tl, .ref in0, .ref gk])), (t0, .inr (9, [.ref tr, .int 0])), (rd, .inr (8, [.ref t0, .ref sf, .int 3, .int 0, .int 1, .int 0]))] := hD
  refine lv_aload_n hx hb dX11_compile_21 rfl (lv_at hl 0 rfl) ?_
  refine va_get (D := D) (ci := 11) (v := .ref rd) (C := RX11) (T := TX11) (N := 14) hx hb (htX11 hn) (fun _ h => h) hown hK hP 0 rfl rfl 9 (by decide) (hn.get mw_390 rfl) (fun _ h9 => h9) rfl dX11_compile_22 ?_
  have hPc := hP.sub (ws' := [(rd, .inr (8, [.ref t0, .ref sf, .int 3, .int 0, .int 1, .int 0]))]) [2] rfl
  have hDc := hD.sub (ws' := [(rd, .inr (8, [.ref t0, .ref sf, .int 3, .int 0, .int 1, .int 0]))]) [2] (by decide) rfl
  refine go_i (k1 := 0) (n1 := 0) (wr := [(h0, .inr (11, [.ref t0, .ref k0, .ref m0, .ref o0, .ref f0, .ref sf, .ref p0, .ref sp, .int 0, .ref rd, .ref cd, .ref tl, .ref in0, .ref gk])), (t0, .inr (9, [.ref tr, .int 0]))]) [2] [0, 1] (rn_VN (As := []) (rest := []) (c_X8_wrongPlace l D ct rd t0 sf  _) (cn_of (n := 0) hn mw_808 mw_8 mw_805 mhX8_wrongPlace ⟨Nat.le_of_ble_eq_true rfl, Nat.le_of_ble_eq_true rfl⟩) hx hb hml hown hn hK hPc hDc mw_807 mw_s65 (ci := 8) (q0 := 0) rfl rfl rfl rfl hl.1 (Nat.le_of_ble_eq_true rfl) dX11_compile_25 ⟨(Nat.le_of_ble_eq_true rfl), (Nat.le_of_ble_eq_true rfl)⟩) hP hD hS hA rfl rfl (by decide) (by decide) (Nat.le_of_ble_eq_true rfl) (Nat.le_of_ble_eq_true rfl) (fun r_7 u_8 H locs hp_9 hP hD hS => ?_)
  have hr_7 := hp_9
  rw [show r_7 = 0 from hr_7]
  have hP : va_P D vwCl [(h0, .inr (11, [.ref t0, .ref k0, .ref m0, .ref o0, .ref f0, .ref sf, .ref p0, .ref sp, .int 0, .ref rd, .ref cd, .ref tl, .ref in0, .ref gk])), (t0, .inr (9, [.ref tr, .int 0])), (rd, .inr (8, [.ref t0, .ref sf, .int 3, .int 0, .int 1, .int 0]))] _ := hP
  have hD : va_D A [(h0, .inr (11, [.ref t0, .ref k0, .ref m0, .ref o0, .ref f0, .ref sf, .ref p0, .ref sp, .int 0, .ref rd, .ref cd, .ref tl, .ref in0, .ref gk])), (t0, .inr (9, [.ref tr, .int 0])), (rd, .inr (8, [.ref t0, .ref sf, .int 3, .int 0, .int 1, .int 0]))] := hD
  refine lv_istore_n (lv' := [(1, .int 0), (0, .ref h0)]) hx hb dX11_compile_28 rfl hl (by decide) rfl (fun ls hl => ?_)
  refine lv_aload_n hx hb dX11_compile_29 rfl (lv_at hl 1 rfl) ?_
  refine va_get (D := D) (ci := 11) (v := .ref t0) (C := RX11) (T := TX11) (N := 14) hx hb (htX11 hn) (fun _ h => h) hown hK hP 0 rfl rfl 0 (by decide) (hn.get mw_381 rfl) (fun _ h9 => h9) rfl dX11_compile_30 ?_
  refine lv_iconst (v := 0) hx hb dX11_compile_33 (by decide) ?_
  refine va_putN (D := D) (ci := 9) (v := .int 0) (ty := .int) (C := RX9) (T := TX9) (N := 2) hx hb (htX9 hn) (fun _ h => h) tyX9 tyX9_ok nmX9 hown hK hP hD hS 1 rfl rfl 1 (by decide) (hn.get mw_47 rfl) (fun _ h9 => h9) rfl (by decide +kernel) rfl rfl (Nat.le_of_ble_eq_true rfl) dX11_compile_34 (fun H locs hP hD hS => ?_)
  have hP : va_P D vwCl [(h0, .inr (11, [.ref t0, .ref k0, .ref m0, .ref o0, .ref f0, .ref sf, .ref p0, .ref sp, .int 0, .ref rd, .ref cd, .ref tl, .ref in0, .ref gk])), (t0, .inr (9, [.ref tr, .int 0])), (rd, .inr (8, [.ref t0, .ref sf, .int 3, .int 0, .int 1, .int 0]))] _ := hP
  have hD : va_D A [(h0, .inr (11, [.ref t0, .ref k0, .ref m0, .ref o0, .ref f0, .ref sf, .ref p0, .ref sp, .int 0, .ref rd, .ref cd, .ref tl, .ref in0, .ref gk])), (t0, .inr (9, [.ref tr, .int 0])), (rd, .inr (8, [.ref t0, .ref sf, .int 3, .int 0, .int 1, .int 0]))] := hD
  refine lv_iload_n hx hb dX11_compile_37 rfl (lv_at hl 0 rfl) ?_
  refine lv_if_lt (tgt := 45) hx hb dX11_compile_38 (by decide) (fun c_10 => absurd c_10 (by decide)) (fun c_10 => ?_)
  refine lv_iconst (v := (-1)) hx hb dX11_compile_41 (by decide) ?_
  refine lv_iload_n hx hb dX11_compile_42 rfl (lv_at hl 0 rfl) ?_
  refine lv_isub hx hb dX11_compile_43 ?_
  refine top_c (v := (-1)) (by decide) ?_
  exact end_i hx hb hr hlocks dX11_compile_44 rfl () rfl hP hD hS [] rfl (by decide) rfl (Nat.le_of_ble_eq_true rfl) (Nat.le_of_ble_eq_true rfl)
set_option maxHeartbeats 4000000 in
set_option maxRecDepth 100000 in
theorem c_X11_load (l : Launch) (D : va_G) (ct : Nat → ClassId) (h0 : Nat) (t0 : Nat) (k0 : Nat) (m0 : Nat) (o0 : Nat) (f0 : Nat) (sf : Nat) (p0 : Nat) (sp : Nat) (rd : Nat) (cd : Nat) (tl : Nat) (in0 : Nat) (gk : Nat) (tr : Nat) (pr : Nat)  : KI (S := Unit) l yX11_load cX11_load 2 (some .int) 2 42 D ct [.ref h0] [(h0, .inr (11, [.ref t0, .ref k0, .ref m0, .ref o0, .ref f0, .ref sf, .ref p0, .ref sp, .int 0, .ref rd, .ref cd, .ref tl, .ref in0, .ref gk])), (t0, .inr (9, [.ref tr, .int 0])), (p0, .inr (7, [.ref pr, .int 0]))] 0 0 (fun r _ => r = -1) (fun (_ : Unit) => []) := by
  refine KI_of (by decide) (Nat.le_of_ble_eq_true rfl) (fun p e s m below meth c A C0 hA hS hP hD ls hl => ?_)
  obtain ⟨hx, hb, hr, hown, hin, hml, hlocks, hn, hK⟩ := C0
  have hl : lv_has ls 2 [(0, .ref h0)] := hl
  refine lv_aload_n hx hb dX11_load_0 rfl (lv_at hl 0 rfl) ?_
  refine va_get (D := D) (ci := 11) (v := .ref p0) (C := RX11) (T := TX11) (N := 14) hx hb (htX11 hn) (fun _ h => h) hown hK hP 0 rfl rfl 6 (by decide) (hn.get mw_387 rfl) (fun _ h9 => h9) rfl dX11_load_1 ?_
  refine lv_aload_n hx hb dX11_load_4 rfl (lv_at hl 0 rfl) ?_
  refine va_get (D := D) (ci := 11) (v := .ref t0) (C := RX11) (T := TX11) (N := 14) hx hb (htX11 hn) (fun _ h => h) hown hK hP 0 rfl rfl 0 (by decide) (hn.get mw_381 rfl) (fun _ h9 => h9) rfl dX11_load_5 ?_
  have hPc := hP.sub (ws' := [(p0, .inr (7, [.ref pr, .int 0])), (t0, .inr (9, [.ref tr, .int 0]))]) [2, 1] rfl
  have hDc := hD.sub (ws' := [(p0, .inr (7, [.ref pr, .int 0])), (t0, .inr (9, [.ref tr, .int 0]))]) [2, 1] (by decide) rfl
  refine go_i (k1 := 0) (n1 := 0) (wr := [(h0, .inr (11, [.ref t0, .ref k0, .ref m0, .ref o0, .ref f0, .ref sf, .ref p0, .ref sp, .int 0, .ref rd, .ref cd, .ref tl, .ref in0, .ref gk]))]) [2, 1] [0] (rn_VN (As := [.ref t0]) (rest := []) (c_X7_takeTape l D ct p0 pr t0 tr  _) (cn_of (n := 1) hn mw_924 mw_7 mw_921 mhX7_takeTape ⟨Nat.le_of_ble_eq_true rfl, Nat.le_of_ble_eq_true rfl⟩) hx hb hml hown hn hK hPc hDc mw_923 mw_s90 (ci := 7) (q0 := 0) rfl rfl rfl rfl hl.1 (Nat.le_of_ble_eq_true rfl) dX11_load_8 ⟨(Nat.le_of_ble_eq_true rfl), (Nat.le_of_ble_eq_true rfl)⟩) hP hD hS hA rfl rfl (by decide) (by decide) (Nat.le_of_ble_eq_true rfl) (Nat.le_of_ble_eq_true rfl) (fun r_1 u_2 H locs hp_3 hP hD hS => ?_)
  have hr_1 := hp_3
  rw [show r_1 = (-1) from hr_1]
  have hP : va_P D vwCl [(h0, .inr (11, [.ref t0, .ref k0, .ref m0, .ref o0, .ref f0, .ref sf, .ref p0, .ref sp, .int 0, .ref rd, .ref cd, .ref tl, .ref in0, .ref gk])), (p0, .inr (7, [.ref pr, .int 0])), (t0, .inr (9, [.ref tr, .int 0]))] _ := hP
  have hD : va_D A [(h0, .inr (11, [.ref t0, .ref k0, .ref m0, .ref o0, .ref f0, .ref sf, .ref p0, .ref sp, .int 0, .ref rd, .ref cd, .ref tl, .ref in0, .ref gk])), (p0, .inr (7, [.ref pr, .int 0])), (t0, .inr (9, [.ref tr, .int 0]))] := hD
  refine lv_istore_n (lv' := [(1, .int (-1)), (0, .ref h0)]) hx hb dX11_load_11 rfl hl (by decide) rfl (fun ls hl => ?_)
  refine lv_aload_n hx hb dX11_load_12 rfl (lv_at hl 1 rfl) ?_
  refine va_get (D := D) (ci := 11) (v := .ref t0) (C := RX11) (T := TX11) (N := 14) hx hb (htX11 hn) (fun _ h => h) hown hK hP 0 rfl rfl 0 (by decide) (hn.get mw_381 rfl) (fun _ h9 => h9) rfl dX11_load_13 ?_
  refine lv_iconst (v := 0) hx hb dX11_load_16 (by decide) ?_
  refine va_putN (D := D) (ci := 9) (v := .int 0) (ty := .int) (C := RX9) (T := TX9) (N := 2) hx hb (htX9 hn) (fun _ h => h) tyX9 tyX9_ok nmX9 hown hK hP hD hS 2 rfl rfl 1 (by decide) (hn.get mw_47 rfl) (fun _ h9 => h9) rfl (by decide +kernel) rfl rfl (Nat.le_of_ble_eq_true rfl) dX11_load_17 (fun H locs hP hD hS => ?_)
  have hP : va_P D vwCl [(h0, .inr (11, [.ref t0, .ref k0, .ref m0, .ref o0, .ref f0, .ref sf, .ref p0, .ref sp, .int 0, .ref rd, .ref cd, .ref tl, .ref in0, .ref gk])), (p0, .inr (7, [.ref pr, .int 0])), (t0, .inr (9, [.ref tr, .int 0]))] _ := hP
  have hD : va_D A [(h0, .inr (11, [.ref t0, .ref k0, .ref m0, .ref o0, .ref f0, .ref sf, .ref p0, .ref sp, .int 0, .ref rd, .ref cd, .ref tl, .ref in0, .ref gk])), (p0, .inr (7, [.ref pr, .int 0])), (t0, .inr (9, [.ref tr, .int 0]))] := hD
  refine lv_iload_n hx hb dX11_load_20 rfl (lv_at hl 0 rfl) ?_
  exact end_i hx hb hr hlocks dX11_load_21 rfl () rfl hP hD hS [] rfl (by decide) rfl (Nat.le_of_ble_eq_true rfl) (Nat.le_of_ble_eq_true rfl)
set_option maxHeartbeats 4000000 in
set_option maxRecDepth 100000 in
theorem c_X11_raw (l : Launch) (D : va_G) (ct : Nat → ClassId) (h0 : Nat) (t0 : Nat) (k0 : Nat) (m0 : Nat) (o0 : Nat) (f0 : Nat) (sf : Nat) (p0 : Nat) (sp : Nat) (rd : Nat) (cd : Nat) (tl : Nat) (in0 : Nat) (gk : Nat) (tr : Nat) (or : Nat)  : KI (S := Unit) l yX11_raw cX11_raw 2 (some .int) 2 42 D ct [.ref h0] [(h0, .inr (11, [.ref t0, .ref k0, .ref m0, .ref o0, .ref f0, .ref sf, .ref p0, .ref sp, .int 0, .ref rd, .ref cd, .ref tl, .ref in0, .ref gk])), (t0, .inr (9, [.ref tr, .int 0])), (o0, .inr (5, [.ref or, .int 0]))] 0 0 (fun r _ => r = -1) (fun (_ : Unit) => []) := by
  refine KI_of (by decide) (Nat.le_of_ble_eq_true rfl) (fun p e s m below meth c A C0 hA hS hP hD ls hl => ?_)
  obtain ⟨hx, hb, hr, hown, hin, hml, hlocks, hn, hK⟩ := C0
  have hl : lv_has ls 2 [(0, .ref h0)] := hl
  refine lv_aload_n hx hb dX11_raw_0 rfl (lv_at hl 0 rfl) ?_
  refine va_get (D := D) (ci := 11) (v := .ref o0) (C := RX11) (T := TX11) (N := 14) hx hb (htX11 hn) (fun _ h => h) hown hK hP 0 rfl rfl 3 (by decide) (hn.get mw_384 rfl) (fun _ h9 => h9) rfl dX11_raw_1 ?_
  refine lv_aload_n hx hb dX11_raw_4 rfl (lv_at hl 0 rfl) ?_
  refine va_get (D := D) (ci := 11) (v := .ref t0) (C := RX11) (T := TX11) (N := 14) hx hb (htX11 hn) (fun _ h => h) hown hK hP 0 rfl rfl 0 (by decide) (hn.get mw_381 rfl) (fun _ h9 => h9) rfl dX11_raw_5 ?_
  have hPc := hP.sub (ws' := [(o0, .inr (5, [.ref or, .int 0])), (t0, .inr (9, [.ref tr, .int 0]))]) [2, 1] rfl
  have hDc := hD.sub (ws' := [(o0, .inr (5, [.ref or, .int 0])), (t0, .inr (9, [.ref tr, .int 0]))]) [2, 1] (by decide) rfl
  refine go_i (k1 := 0) (n1 := 0) (wr := [(h0, .inr (11, [.ref t0, .ref k0, .ref m0, .ref o0, .ref f0, .ref sf, .ref p0, .ref sp, .int 0, .ref rd, .ref cd, .ref tl, .ref in0, .ref gk]))]) [2, 1] [0] (rn_VN (As := [.ref t0]) (rest := []) (c_X5_takeTape l D ct o0 or t0 tr  _) (cn_of (n := 1) hn mw_1391 mw_5 mw_1388 mhX5_takeTape ⟨Nat.le_of_ble_eq_true rfl, Nat.le_of_ble_eq_true rfl⟩) hx hb hml hown hn hK hPc hDc mw_1390 mw_s163 (ci := 5) (q0 := 0) rfl rfl rfl rfl hl.1 (Nat.le_of_ble_eq_true rfl) dX11_raw_8 ⟨(Nat.le_of_ble_eq_true rfl), (Nat.le_of_ble_eq_true rfl)⟩) hP hD hS hA rfl rfl (by decide) (by decide) (Nat.le_of_ble_eq_true rfl) (Nat.le_of_ble_eq_true rfl) (fun r_1 u_2 H locs hp_3 hP hD hS => ?_)
  have hr_1 := hp_3
  rw [show r_1 = (-1) from hr_1]
  have hP : va_P D vwCl [(h0, .inr (11, [.ref t0, .ref k0, .ref m0, .ref o0, .ref f0, .ref sf, .ref p0, .ref sp, .int 0, .ref rd, .ref cd, .ref tl, .ref in0, .ref gk])), (o0, .inr (5, [.ref or, .int 0])), (t0, .inr (9, [.ref tr, .int 0]))] _ := hP
  have hD : va_D A [(h0, .inr (11, [.ref t0, .ref k0, .ref m0, .ref o0, .ref f0, .ref sf, .ref p0, .ref sp, .int 0, .ref rd, .ref cd, .ref tl, .ref in0, .ref gk])), (o0, .inr (5, [.ref or, .int 0])), (t0, .inr (9, [.ref tr, .int 0]))] := hD
  refine lv_istore_n (lv' := [(1, .int (-1)), (0, .ref h0)]) hx hb dX11_raw_11 rfl hl (by decide) rfl (fun ls hl => ?_)
  refine lv_aload_n hx hb dX11_raw_12 rfl (lv_at hl 1 rfl) ?_
  refine va_get (D := D) (ci := 11) (v := .ref t0) (C := RX11) (T := TX11) (N := 14) hx hb (htX11 hn) (fun _ h => h) hown hK hP 0 rfl rfl 0 (by decide) (hn.get mw_381 rfl) (fun _ h9 => h9) rfl dX11_raw_13 ?_
  refine lv_iconst (v := 0) hx hb dX11_raw_16 (by decide) ?_
  refine va_putN (D := D) (ci := 9) (v := .int 0) (ty := .int) (C := RX9) (T := TX9) (N := 2) hx hb (htX9 hn) (fun _ h => h) tyX9 tyX9_ok nmX9 hown hK hP hD hS 2 rfl rfl 1 (by decide) (hn.get mw_47 rfl) (fun _ h9 => h9) rfl (by decide +kernel) rfl rfl (Nat.le_of_ble_eq_true rfl) dX11_raw_17 (fun H locs hP hD hS => ?_)
  have hP : va_P D vwCl [(h0, .inr (11, [.ref t0, .ref k0, .ref m0, .ref o0, .ref f0, .ref sf, .ref p0, .ref sp, .int 0, .ref rd, .ref cd, .ref tl, .ref in0, .ref gk])), (o0, .inr (5, [.ref or, .int 0])), (t0, .inr (9, [.ref tr, .int 0]))] _ := hP
  have hD : va_D A [(h0, .inr (11, [.ref t0, .ref k0, .ref m0, .ref o0, .ref f0, .ref sf, .ref p0, .ref sp, .int 0, .ref rd, .ref cd, .ref tl, .ref in0, .ref gk])), (o0, .inr (5, [.ref or, .int 0])), (t0, .inr (9, [.ref tr, .int 0]))] := hD
  refine lv_iload_n hx hb dX11_raw_20 rfl (lv_at hl 0 rfl) ?_
  exact end_i hx hb hr hlocks dX11_raw_21 rfl () rfl hP hD hS [] rfl (by decide) rfl (Nat.le_of_ble_eq_true rfl) (Nat.le_of_ble_eq_true rfl)
set_option maxHeartbeats 4000000 in
set_option maxRecDepth 100000 in
theorem c_X11_instruction (l : Launch) (D : va_G) (ct : Nat → ClassId) (h0 : Nat) (t0 : Nat) (k0 : Nat) (m0 : Nat) (o0 : Nat) (f0 : Nat) (sf : Nat) (p0 : Nat) (sp : Nat) (rd : Nat) (cd : Nat) (tl : Nat) (in0 : Nat) (gk : Nat) (pr : Nat) (j : Int32)  : KL (S := Unit) l yX11_instruction cX11_instruction 2 (some .long) 2 41 D ct [.ref h0, .int j] [(h0, .inr (11, [.ref t0, .ref k0, .ref m0, .ref o0, .ref f0, .ref sf, .ref p0, .ref sp, .int 0, .ref rd, .ref cd, .ref tl, .ref in0, .ref gk])), (p0, .inr (7, [.ref pr, .int 0]))] 0 0 (fun r _ => r = 0) (fun (_ : Unit) => []) := by
  refine KL_of (by decide) (Nat.le_of_ble_eq_true rfl) (fun p e s m below meth c A C0 hA hS hP hD ls hl => ?_)
  obtain ⟨hx, hb, hr, hown, hin, hml, hlocks, hn, hK⟩ := C0
  have hl : lv_has ls 2 [(0, .ref h0), (1, .int j)] := hl
  refine lv_aload_n hx hb dX11_instruction_0 rfl (lv_at hl 0 rfl) ?_
  refine va_get (D := D) (ci := 11) (v := .ref p0) (C := RX11) (T := TX11) (N := 14) hx hb (htX11 hn) (fun _ h => h) hown hK hP 0 rfl rfl 6 (by decide) (hn.get mw_387 rfl) (fun _ h9 => h9) rfl dX11_instruction_1 ?_
  refine lv_iload_n hx hb dX11_instruction_4 rfl (lv_at hl 1 rfl) ?_
  have hPc := hP.sub (ws' := [(p0, .inr (7, [.ref pr, .int 0]))]) [1] rfl
  have hDc := hD.sub (ws' := [(p0, .inr (7, [.ref pr, .int 0]))]) [1] (by decide) rfl
  refine go_l (k1 := 0) (n1 := 0) (wr := [(h0, .inr (11, [.ref t0, .ref k0, .ref m0, .ref o0, .ref f0, .ref sf, .ref p0, .ref sp, .int 0, .ref rd, .ref cd, .ref tl, .ref in0, .ref gk]))]) [1] [0] (rn_VN (As := [.int j]) (rest := []) (c_X7_at l D ct p0 pr j  _) (cn_of (n := 1) hn mw_937 mw_7 mw_934 mhX7_at ⟨Nat.le_of_ble_eq_true rfl, Nat.le_of_ble_eq_true rfl⟩) hx hb hml hown hn hK hPc hDc mw_936 mw_s92 (ci := 7) (q0 := 0) rfl rfl rfl rfl hl.1 (Nat.le_of_ble_eq_true rfl) dX11_instruction_5 ⟨(Nat.le_of_ble_eq_true rfl), (Nat.le_of_ble_eq_true rfl)⟩) hP hD hS hA rfl rfl (by decide) (by decide) (Nat.le_of_ble_eq_true rfl) (Nat.le_of_ble_eq_true rfl) (fun r_1 u_2 H locs hp_3 hP hD hS => ?_)
  have hr_1 := hp_3
  rw [show r_1 = 0 from hr_1]
  have hP : va_P D vwCl [(h0, .inr (11, [.ref t0, .ref k0, .ref m0, .ref o0, .ref f0, .ref sf, .ref p0, .ref sp, .int 0, .ref rd, .ref cd, .ref tl, .ref in0, .ref gk])), (p0, .inr (7, [.ref pr, .int 0]))] _ := hP
  have hD : va_D A [(h0, .inr (11, [.ref t0, .ref k0, .ref m0, .ref o0, .ref f0, .ref sf, .ref p0, .ref sp, .int 0, .ref rd, .ref cd, .ref tl, .ref in0, .ref gk])), (p0, .inr (7, [.ref pr, .int 0]))] := hD
  exact end_l hx hb hr hlocks dX11_instruction_8 () rfl hP hD hS [] rfl (by decide) rfl (Nat.le_of_ble_eq_true rfl) (Nat.le_of_ble_eq_true rfl)
set_option maxHeartbeats 4000000 in
set_option maxRecDepth 100000 in
theorem c_X11_word (l : Launch) (D : va_G) (ct : Nat → ClassId) (h0 : Nat) (t0 : Nat) (k0 : Nat) (m0 : Nat) (o0 : Nat) (f0 : Nat) (sf : Nat) (p0 : Nat) (sp : Nat) (rd : Nat) (cd : Nat) (tl : Nat) (in0 : Nat) (gk : Nat) (or : Nat) (j : Int32)  : KI (S := Unit) l yX11_word cX11_word 2 (some .int) 2 41 D ct [.ref h0, .int j] [(h0, .inr (11, [.ref t0, .ref k0, .ref m0, .ref o0, .ref f0, .ref sf, .ref p0, .ref sp, .int 0, .ref rd, .ref cd, .ref tl, .ref in0, .ref gk])), (o0, .inr (5, [.ref or, .int 0]))] 0 0 (fun r _ => r = 0) (fun (_ : Unit) => []) := by
  refine KI_of (by decide) (Nat.le_of_ble_eq_true rfl) (fun p e s m below meth c A C0 hA hS hP hD ls hl => ?_)
  obtain ⟨hx, hb, hr, hown, hin, hml, hlocks, hn, hK⟩ := C0
  have hl : lv_has ls 2 [(0, .ref h0), (1, .int j)] := hl
  refine lv_aload_n hx hb dX11_word_0 rfl (lv_at hl 0 rfl) ?_
  refine va_get (D := D) (ci := 11) (v := .ref o0) (C := RX11) (T := TX11) (N := 14) hx hb (htX11 hn) (fun _ h => h) hown hK hP 0 rfl rfl 3 (by decide) (hn.get mw_384 rfl) (fun _ h9 => h9) rfl dX11_word_1 ?_
  refine lv_iload_n hx hb dX11_word_4 rfl (lv_at hl 1 rfl) ?_
  have hPc := hP.sub (ws' := [(o0, .inr (5, [.ref or, .int 0]))]) [1] rfl
  have hDc := hD.sub (ws' := [(o0, .inr (5, [.ref or, .int 0]))]) [1] (by decide) rfl
  refine go_i (k1 := 0) (n1 := 0) (wr := [(h0, .inr (11, [.ref t0, .ref k0, .ref m0, .ref o0, .ref f0, .ref sf, .ref p0, .ref sp, .int 0, .ref rd, .ref cd, .ref tl, .ref in0, .ref gk]))]) [1] [0] (rn_VN (As := [.int j]) (rest := []) (c_X5_at l D ct o0 or j  _) (cn_of (n := 1) hn mw_1400 mw_5 mw_1397 mhX5_at ⟨Nat.le_of_ble_eq_true rfl, Nat.le_of_ble_eq_true rfl⟩) hx hb hml hown hn hK hPc hDc mw_1399 mw_s164 (ci := 5) (q0 := 0) rfl rfl rfl rfl hl.1 (Nat.le_of_ble_eq_true rfl) dX11_word_5 ⟨(Nat.le_of_ble_eq_true rfl), (Nat.le_of_ble_eq_true rfl)⟩) hP hD hS hA rfl rfl (by decide) (by decide) (Nat.le_of_ble_eq_true rfl) (Nat.le_of_ble_eq_true rfl) (fun r_1 u_2 H locs hp_3 hP hD hS => ?_)
  have hr_1 := hp_3
  rw [show r_1 = 0 from hr_1]
  have hP : va_P D vwCl [(h0, .inr (11, [.ref t0, .ref k0, .ref m0, .ref o0, .ref f0, .ref sf, .ref p0, .ref sp, .int 0, .ref rd, .ref cd, .ref tl, .ref in0, .ref gk])), (o0, .inr (5, [.ref or, .int 0]))] _ := hP
  have hD : va_D A [(h0, .inr (11, [.ref t0, .ref k0, .ref m0, .ref o0, .ref f0, .ref sf, .ref p0, .ref sp, .int 0, .ref rd, .ref cd, .ref tl, .ref in0, .ref gk])), (o0, .inr (5, [.ref or, .int 0]))] := hD
  exact end_i hx hb hr hlocks dX11_word_8 rfl () rfl hP hD hS [] rfl (by decide) rfl (Nat.le_of_ble_eq_true rfl) (Nat.le_of_ble_eq_true rfl)
set_option maxHeartbeats 4000000 in
set_option maxRecDepth 100000 in
theorem c_X11_verify (l : Launch) (D : va_G) (ct : Nat → ClassId) (h0 : Nat) (t0 : Nat) (k0 : Nat) (m0 : Nat) (o0 : Nat) (f0 : Nat) (sf : Nat) (p0 : Nat) (sp : Nat) (rd : Nat) (cd : Nat) (tl : Nat) (in0 : Nat) (gk : Nat) (pr : Nat) (i0 : Nat) (i1 : Nat) (i2 : Nat) (i3 : Nat) (i4 : Nat) (i5 : Nat) (i6 : Nat) (i7 : Nat) (i8 : Nat) (i9 : Nat) (i10 : Nat)  : KI (S := Unit) l yX11_verify cX11_verify 1 (some .int) 2 44 D ct [.ref h0] [(h0, .inr (11, [.ref t0, .ref k0, .ref m0, .ref o0, .ref f0, .ref sf, .ref p0, .ref sp, .int 0, .ref rd, .ref cd, .ref tl, .ref in0, .ref gk])), (p0, .inr (7, [.ref pr, .int 0])), (in0, .inr (3, [.ref i0, .ref i1, .ref i2, .ref i3, .ref i4, .ref i5, .ref i6, .ref i7, .ref i8, .ref i9, .ref i10, .long 0, .ref p0, .int (-1)]))] 0 0 (fun r _ => r = -1) (fun (_ : Unit) => []) := by
  refine KI_of (by decide) (Nat.le_of_ble_eq_true rfl) (fun p e s m below meth c A C0 hA hS hP hD ls hl => ?_)
  obtain ⟨hx, hb, hr, hown, hin, hml, hlocks, hn, hK⟩ := C0
  have hl : lv_has ls 1 [(0, .ref h0)] := hl
  refine lv_aload_n hx hb dX11_verify_0 rfl (lv_at hl 0 rfl) ?_
  refine va_get (D := D) (ci := 11) (v := .ref in0) (C := RX11) (T := TX11) (N := 14) hx hb (htX11 hn) (fun _ h => h) hown hK hP 0 rfl rfl 12 (by decide) (hn.get mw_393 rfl) (fun _ h9 => h9) rfl dX11_verify_1 ?_
  refine lv_aload_n hx hb dX11_verify_4 rfl (lv_at hl 0 rfl) ?_
  refine va_get (D := D) (ci := 11) (v := .ref p0) (C := RX11) (T := TX11) (N := 14) hx hb (htX11 hn) (fun _ h => h) hown hK hP 0 rfl rfl 6 (by decide) (hn.get mw_387 rfl) (fun _ h9 => h9) rfl dX11_verify_5 ?_
  have hPc := hP.sub (ws' := [(in0, .inr (3, [.ref i0, .ref i1, .ref i2, .ref i3, .ref i4, .ref i5, .ref i6, .ref i7, .ref i8, .ref i9, .ref i10, .long 0, .ref p0, .int (-1)])), (p0, .inr (7, [.ref pr, .int 0]))]) [2, 1] rfl
  have hDc := hD.sub (ws' := [(in0, .inr (3, [.ref i0, .ref i1, .ref i2, .ref i3, .ref i4, .ref i5, .ref i6, .ref i7, .ref i8, .ref i9, .ref i10, .long 0, .ref p0, .int (-1)])), (p0, .inr (7, [.ref pr, .int 0]))]) [2, 1] (by decide) rfl
  refine go_i (k1 := 0) (n1 := 0) (wr := [(h0, .inr (11, [.ref t0, .ref k0, .ref m0, .ref o0, .ref f0, .ref sf, .ref p0, .ref sp, .int 0, .ref rd, .ref cd, .ref tl, .ref in0, .ref gk]))]) [2, 1] [0] (rn_VN (As := [.ref p0]) (rest := []) (c_X3_look l D ct in0 p0 pr i0 i1 i2 i3 i4 i5 i6 i7 i8 i9 i10 p0  _) (cn_of (n := 1) hn mw_945 mw_11 mw_942 mhX3_look ⟨Nat.le_of_ble_eq_true rfl, Nat.le_of_ble_eq_true rfl⟩) hx hb hml hown hn hK hPc hDc mw_944 mw_s93 (ci := 3) (q0 := 0) rfl rfl rfl rfl hl.1 (Nat.le_of_ble_eq_true rfl) dX11_verify_8 ⟨(Nat.le_of_ble_eq_true rfl), (Nat.le_of_ble_eq_true rfl)⟩) hP hD hS hA rfl rfl (by decide) (by decide) (Nat.le_of_ble_eq_true rfl) (Nat.le_of_ble_eq_true rfl) (fun r_1 u_2 H locs hp_3 hP hD hS => ?_)
  have hr_1 := hp_3
  rw [show r_1 = (-1) from hr_1]
  have hP : va_P D vwCl [(h0, .inr (11, [.ref t0, .ref k0, .ref m0, .ref o0, .ref f0, .ref sf, .ref p0, .ref sp, .int 0, .ref rd, .ref cd, .ref tl, .ref in0, .ref gk]))] _ := hP
  have hD : va_D A [(h0, .inr (11, [.ref t0, .ref k0, .ref m0, .ref o0, .ref f0, .ref sf, .ref p0, .ref sp, .int 0, .ref rd, .ref cd, .ref tl, .ref in0, .ref gk]))] := hD
  exact end_i hx hb hr hlocks dX11_verify_11 rfl () rfl hP hD hS [] rfl (by decide) rfl (Nat.le_of_ble_eq_true rfl) (Nat.le_of_ble_eq_true rfl)
set_option maxHeartbeats 4000000 in
set_option maxRecDepth 100000 in
theorem c_X11_translate (l : Launch) (D : va_G) (ct : Nat → ClassId) (h0 : Nat) (t0 : Nat) (k0 : Nat) (m0 : Nat) (o0 : Nat) (f0 : Nat) (sf : Nat) (p0 : Nat) (sp : Nat) (rd : Nat) (cd : Nat) (tl : Nat) (in0 : Nat) (gk : Nat) (pr : Nat) (g0 : Nat) (g1 : Nat) (g2 : Nat) (g3 : Nat) (g4 : Nat) (g5 : Nat) (g6 : Nat) (g7 : Nat) (g8 : Nat) (g9 : Nat) (g10 : Nat)  : KI (S := Unit) l yX11_translate cX11_translate 1 (some .int) 2 44 D ct [.ref h0] [(h0, .inr (11, [.ref t0, .ref k0, .ref m0, .ref o0, .ref f0, .ref sf, .ref p0, .ref sp, .int 0, .ref rd, .ref cd, .ref tl, .ref in0, .ref gk])), (p0, .inr (7, [.ref pr, .int 0])), (gk, .inr (3, [.ref g0, .ref g1, .ref g2, .ref g3, .ref g4, .ref g5, .ref g6, .ref g7, .ref g8, .ref g9, .ref g10, .long 0, .ref p0, .int (-1)]))] 0 0 (fun r _ => r = -1) (fun (_ : Unit) => []) := by
  refine KI_of (by decide) (Nat.le_of_ble_eq_true rfl) (fun p e s m below meth c A C0 hA hS hP hD ls hl => ?_)
  obtain ⟨hx, hb, hr, hown, hin, hml, hlocks, hn, hK⟩ := C0
  have hl : lv_has ls 1 [(0, .ref h0)] := hl
  refine lv_aload_n hx hb dX11_translate_0 rfl (lv_at hl 0 rfl) ?_
  refine va_get (D := D) (ci := 11) (v := .ref gk) (C := RX11) (T := TX11) (N := 14) hx hb (htX11 hn) (fun _ h => h) hown hK hP 0 rfl rfl 13 (by decide) (hn.get mw_394 rfl) (fun _ h9 => h9) rfl dX11_translate_1 ?_
  refine lv_aload_n hx hb dX11_translate_4 rfl (lv_at hl 0 rfl) ?_
  refine va_get (D := D) (ci := 11) (v := .ref p0) (C := RX11) (T := TX11) (N := 14) hx hb (htX11 hn) (fun _ h => h) hown hK hP 0 rfl rfl 6 (by decide) (hn.get mw_387 rfl) (fun _ h9 => h9) rfl dX11_translate_5 ?_
  have hPc := hP.sub (ws' := [(gk, .inr (3, [.ref g0, .ref g1, .ref g2, .ref g3, .ref g4, .ref g5, .ref g6, .ref g7, .ref g8, .ref g9, .ref g10, .long 0, .ref p0, .int (-1)])), (p0, .inr (7, [.ref pr, .int 0]))]) [2, 1] rfl
  have hDc := hD.sub (ws' := [(gk, .inr (3, [.ref g0, .ref g1, .ref g2, .ref g3, .ref g4, .ref g5, .ref g6, .ref g7, .ref g8, .ref g9, .ref g10, .long 0, .ref p0, .int (-1)])), (p0, .inr (7, [.ref pr, .int 0]))]) [2, 1] (by decide) rfl
  refine go_i (k1 := 0) (n1 := 0) (wr := [(h0, .inr (11, [.ref t0, .ref k0, .ref m0, .ref o0, .ref f0, .ref sf, .ref p0, .ref sp, .int 0, .ref rd, .ref cd, .ref tl, .ref in0, .ref gk]))]) [2, 1] [0] (rn_VN (As := [.ref p0]) (rest := []) (c_X3_look l D ct gk p0 pr g0 g1 g2 g3 g4 g5 g6 g7 g8 g9 g10 p0  _) (cn_of (n := 1) hn mw_945 mw_11 mw_942 mhX3_look ⟨Nat.le_of_ble_eq_true rfl, Nat.le_of_ble_eq_true rfl⟩) hx hb hml hown hn hK hPc hDc mw_944 mw_s93 (ci := 3) (q0 := 0) rfl rfl rfl rfl hl.1 (Nat.le_of_ble_eq_true rfl) dX11_translate_8 ⟨(Nat.le_of_ble_eq_true rfl), (Nat.le_of_ble_eq_true rfl)⟩) hP hD hS hA rfl rfl (by decide) (by decide) (Nat.le_of_ble_eq_true rfl) (Nat.le_of_ble_eq_true rfl) (fun r_1 u_2 H locs hp_3 hP hD hS => ?_)
  have hr_1 := hp_3
  rw [show r_1 = (-1) from hr_1]
  have hP : va_P D vwCl [(h0, .inr (11, [.ref t0, .ref k0, .ref m0, .ref o0, .ref f0, .ref sf, .ref p0, .ref sp, .int 0, .ref rd, .ref cd, .ref tl, .ref in0, .ref gk]))] _ := hP
  have hD : va_D A [(h0, .inr (11, [.ref t0, .ref k0, .ref m0, .ref o0, .ref f0, .ref sf, .ref p0, .ref sp, .int 0, .ref rd, .ref cd, .ref tl, .ref in0, .ref gk]))] := hD
  refine lv_if_eq (tgt := 16) hx hb dX11_translate_11 (by decide) (fun c_4 => absurd c_4 (by decide)) (fun c_4 => ?_)
  refine lv_iconst (v := (-1)) hx hb dX11_translate_14 (by decide) ?_
  exact end_i hx hb hr hlocks dX11_translate_15 rfl () rfl hP hD hS [] rfl (by decide) rfl (Nat.le_of_ble_eq_true rfl) (Nat.le_of_ble_eq_true rfl)
set_option maxHeartbeats 4000000 in
set_option maxRecDepth 100000 in
theorem c_X11_known (l : Launch) (D : va_G) (ct : Nat → ClassId) (h0 : Nat) (t0 : Nat) (k0 : Nat) (m0 : Nat) (o0 : Nat) (f0 : Nat) (sf : Nat) (p0 : Nat) (sp : Nat) (rd : Nat) (cd : Nat) (tl : Nat) (in0 : Nat) (gk : Nat) (i0 : Nat) (i1 : Nat) (i2 : Nat) (i3 : Nat) (i4 : Nat) (i5 : Nat) (i6 : Nat) (i7 : Nat) (i8 : Nat) (i9 : Nat) (i10 : Nat) (ii : Int32) (rr : Int32) (what : Int32)  : KL (S := Unit) l yX11_known cX11_known 4 (some .long) 2 45 D ct [.ref h0, .int ii, .int rr, .int what] [(h0, .inr (11, [.ref t0, .ref k0, .ref m0, .ref o0, .ref f0, .ref sf, .ref p0, .ref sp, .int 0, .ref rd, .ref cd, .ref tl, .ref in0, .ref gk])), (in0, .inr (3, [.ref i0, .ref i1, .ref i2, .ref i3, .ref i4, .ref i5, .ref i6, .ref i7, .ref i8, .ref i9, .ref i10, .long 0, .ref p0, .int (-1)]))] 0 0 (fun r _ => r = exKnown what) (fun (_ : Unit) => []) := by
  refine KL_of (by decide) (Nat.le_of_ble_eq_true rfl) (fun p e s m below meth c A C0 hA hS hP hD ls hl => ?_)
  obtain ⟨hx, hb, hr, hown, hin, hml, hlocks, hn, hK⟩ := C0
  have hl : lv_has ls 4 [(0, .ref h0), (1, .int ii), (2, .int rr), (3, .int what)] := hl
  refine lv_aload_n hx hb dX11_known_0 rfl (lv_at hl 0 rfl) ?_
  refine va_get (D := D) (ci := 11) (v := .ref in0) (C := RX11) (T := TX11) (N := 14) hx hb (htX11 hn) (fun _ h => h) hown hK hP 0 rfl rfl 12 (by decide) (hn.get mw_393 rfl) (fun _ h9 => h9) rfl dX11_known_1 ?_
  refine lv_iload_n hx hb dX11_known_4 rfl (lv_at hl 1 rfl) ?_
  refine lv_iload_n hx hb dX11_known_5 rfl (lv_at hl 2 rfl) ?_
  refine lv_iload_n hx hb dX11_known_6 rfl (lv_at hl 3 rfl) ?_
  have hPc := hP.sub (ws' := [(in0, .inr (3, [.ref i0, .ref i1, .ref i2, .ref i3, .ref i4, .ref i5, .ref i6, .ref i7, .ref i8, .ref i9, .ref i10, .long 0, .ref p0, .int (-1)]))]) [1] rfl
  have hDc := hD.sub (ws' := [(in0, .inr (3, [.ref i0, .ref i1, .ref i2, .ref i3, .ref i4, .ref i5, .ref i6, .ref i7, .ref i8, .ref i9, .ref i10, .long 0, .ref p0, .int (-1)]))]) [1] (by decide) rfl
  refine go_l (k1 := 0) (n1 := 0) (wr := [(h0, .inr (11, [.ref t0, .ref k0, .ref m0, .ref o0, .ref f0, .ref sf, .ref p0, .ref sp, .int 0, .ref rd, .ref cd, .ref tl, .ref in0, .ref gk]))]) [1] [0] (rn_VN (As := [.int ii, .int rr, .int what]) (rest := []) (c_X3_tell l D ct in0 p0 i0 i1 i2 i3 i4 i5 i6 i7 i8 i9 i10 ii rr what  _) (cn_of (n := 3) hn mw_1192 mw_11 mw_1189 mhX3_tell ⟨Nat.le_of_ble_eq_true rfl, Nat.le_of_ble_eq_true rfl⟩) hx hb hml hown hn hK hPc hDc mw_1191 mw_s129 (ci := 3) (q0 := 0) rfl rfl rfl rfl hl.1 (Nat.le_of_ble_eq_true rfl) dX11_known_7 ⟨(Nat.le_of_ble_eq_true rfl), (Nat.le_of_ble_eq_true rfl)⟩) hP hD hS hA rfl rfl (by decide) (by decide) (Nat.le_of_ble_eq_true rfl) (Nat.le_of_ble_eq_true rfl) (fun r_1 u_2 H locs hp_3 hP hD hS => ?_)
  have hr_1 := hp_3
  rw [show r_1 = exKnown what from hr_1]
  have hP : va_P D vwCl [(h0, .inr (11, [.ref t0, .ref k0, .ref m0, .ref o0, .ref f0, .ref sf, .ref p0, .ref sp, .int 0, .ref rd, .ref cd, .ref tl, .ref in0, .ref gk]))] _ := hP
  have hD : va_D A [(h0, .inr (11, [.ref t0, .ref k0, .ref m0, .ref o0, .ref f0, .ref sf, .ref p0, .ref sp, .int 0, .ref rd, .ref cd, .ref tl, .ref in0, .ref gk]))] := hD
  exact end_l hx hb hr hlocks dX11_known_10 () rfl hP hD hS [] rfl (by decide) rfl (Nat.le_of_ble_eq_true rfl) (Nat.le_of_ble_eq_true rfl)
set_option maxHeartbeats 4000000 in
set_option maxRecDepth 100000 in
theorem c_X11_run (l : Launch) (D : va_G) (ct : Nat → ClassId) (h0 : Nat) (t0 : Nat) (k0 : Nat) (m0 : Nat) (o0 : Nat) (f0 : Nat) (sf : Nat) (p0 : Nat) (sp : Nat) (rd : Nat) (cd : Nat) (tl : Nat) (in0 : Nat) (gk : Nat) (pr : Nat) (px : Int32)  : KL (S := Unit) l yX11_run cX11_run 2 (some .long) 1 20 D ct [.ref h0, .int px] [(h0, .inr (11, [.ref t0, .ref k0, .ref m0, .ref o0, .ref f0, .ref sf, .ref p0, .ref sp, .int 0, .ref rd, .ref cd, .ref tl, .ref in0, .ref gk])), (p0, .inr (7, [.ref pr, .int 0]))] 0 0 (fun r _ => r = 0) (fun (_ : Unit) => []) := by
  refine KL_of (by decide) (Nat.le_of_ble_eq_true rfl) (fun p e s m below meth c A C0 hA hS hP hD ls hl => ?_)
  obtain ⟨hx, hb, hr, hown, hin, hml, hlocks, hn, hK⟩ := C0
  have hl : lv_has ls 2 [(0, .ref h0), (1, .int px)] := hl
  refine lv_aload_n hx hb dX11_run_0 rfl (lv_at hl 0 rfl) ?_
  refine va_get (D := D) (ci := 11) (v := .ref p0) (C := RX11) (T := TX11) (N := 14) hx hb (htX11 hn) (fun _ h => h) hown hK hP 0 rfl rfl 6 (by decide) (hn.get mw_387 rfl) (fun _ h9 => h9) rfl dX11_run_1 ?_
  refine va_getN (D := D) (ci := 7) (v := .int 0) (C := RX7) (T := TX7) (N := 2) hx hb (htX7 hn) (fun _ h => h) hown hK hP 1 rfl rfl 1 (by decide) (hn.get mw_229 rfl) (fun _ h9 => h9) rfl dX11_run_4 ?_
  refine lv_if_eq (tgt := 21) hx hb dX11_run_7 (by decide) (fun c_1 => ?_) (fun c_1 => absurd (by decide) c_1)
  refine lv_lconst (v := 0) hx hb dX11_run_21 (by decide) ?_
  exact end_l hx hb hr hlocks dX11_run_22 () rfl hP hD hS [] rfl (by decide) rfl (Nat.le_of_ble_eq_true rfl) (Nat.le_of_ble_eq_true rfl)
set_option maxHeartbeats 4000000 in
set_option maxRecDepth 100000 in
theorem c_X11_emulate (l : Launch) (D : va_G) (ct : Nat → ClassId) (h0 : Nat) (t0 : Nat) (k0 : Nat) (m0 : Nat) (o0 : Nat) (f0 : Nat) (sf : Nat) (p0 : Nat) (sp : Nat) (rd : Nat) (cd : Nat) (tl : Nat) (in0 : Nat) (gk : Nat) (or : Nat) (px : Int32)  : KL (S := Unit) l yX11_emulate cX11_emulate 2 (some .long) 1 20 D ct [.ref h0, .int px] [(h0, .inr (11, [.ref t0, .ref k0, .ref m0, .ref o0, .ref f0, .ref sf, .ref p0, .ref sp, .int 0, .ref rd, .ref cd, .ref tl, .ref in0, .ref gk])), (o0, .inr (5, [.ref or, .int 0]))] 0 0 (fun r _ => r = 0) (fun (_ : Unit) => []) := by
  refine KL_of (by decide) (Nat.le_of_ble_eq_true rfl) (fun p e s m below meth c A C0 hA hS hP hD ls hl => ?_)
  obtain ⟨hx, hb, hr, hown, hin, hml, hlocks, hn, hK⟩ := C0
  have hl : lv_has ls 2 [(0, .ref h0), (1, .int px)] := hl
  refine lv_aload_n hx hb dX11_emulate_0 rfl (lv_at hl 0 rfl) ?_
  refine va_get (D := D) (ci := 11) (v := .ref o0) (C := RX11) (T := TX11) (N := 14) hx hb (htX11 hn) (fun _ h => h) hown hK hP 0 rfl rfl 3 (by decide) (hn.get mw_384 rfl) (fun _ h9 => h9) rfl dX11_emulate_1 ?_
  refine va_getN (D := D) (ci := 5) (v := .int 0) (C := RX5) (T := TX5) (N := 2) hx hb (htX5 hn) (fun _ h => h) hown hK hP 1 rfl rfl 1 (by decide) (hn.get mw_135 rfl) (fun _ h9 => h9) rfl dX11_emulate_4 ?_
  refine lv_if_eq (tgt := 21) hx hb dX11_emulate_7 (by decide) (fun c_1 => ?_) (fun c_1 => absurd (by decide) c_1)
  refine lv_lconst (v := 0) hx hb dX11_emulate_21 (by decide) ?_
  exact end_l hx hb hr hlocks dX11_emulate_22 () rfl hP hD hS [] rfl (by decide) rfl (Nat.le_of_ble_eq_true rfl) (Nat.le_of_ble_eq_true rfl)
set_option maxHeartbeats 4000000 in
set_option maxRecDepth 100000 in
theorem c_X11_ended (l : Launch) (D : va_G) (ct : Nat → ClassId) (h0 : Nat) (t0 : Nat) (k0 : Nat) (m0 : Nat) (o0 : Nat) (f0 : Nat) (sf : Nat) (p0 : Nat) (sp : Nat) (rd : Nat) (cd : Nat) (tl : Nat) (in0 : Nat) (gk : Nat) (mr : Nat) (ms : Nat) (what : Int32)  : KI (S := Unit) l yX11_ended cX11_ended 2 (some .int) 1 20 D ct [.ref h0, .int what] [(h0, .inr (11, [.ref t0, .ref k0, .ref m0, .ref o0, .ref f0, .ref sf, .ref p0, .ref sp, .int 0, .ref rd, .ref cd, .ref tl, .ref in0, .ref gk])), (m0, .inr (4, [.ref mr, .ref ms, .ref k0, .int 0, .int 0, .int 0, .int 0, .int 0, .long 0, .int 0]))] 0 0 (fun r _ => r = 0) (fun (_ : Unit) => []) := by
  refine KI_of (by decide) (Nat.le_of_ble_eq_true rfl) (fun p e s m below meth c A C0 hA hS hP hD ls hl => ?_)
  obtain ⟨hx, hb, hr, hown, hin, hml, hlocks, hn, hK⟩ := C0
  have hl : lv_has ls 2 [(0, .ref h0), (1, .int what)] := hl
  refine lv_iload_n hx hb dX11_ended_0 rfl (lv_at hl 1 rfl) ?_
  rcases sw_2 what with rfl | rfl | rfl | h_1
  · refine lv_tableIn (off := 27) (tgt := 28) hx hb dX11_ended_1 (by decide) (by decide) (by decide) (by decide) ?_
    refine lv_aload_n hx hb dX11_ended_28 rfl (lv_at hl 0 rfl) ?_
    refine va_get (D := D) (ci := 11) (v := .ref m0) (C := RX11) (T := TX11) (N := 14) hx hb (htX11 hn) (fun _ h => h) hown hK hP 0 rfl rfl 2 (by decide) (hn.get mw_383 rfl) (fun _ h9 => h9) rfl dX11_ended_29 ?_
    refine va_getN (D := D) (ci := 4) (v := .int 0) (C := RX4) (T := TX4) (N := 10) hx hb (htX4 hn) (fun _ h => h) hown hK hP 1 rfl rfl 5 (by decide) (hn.get mw_88 rfl) (fun _ h9 => h9) rfl dX11_ended_32 ?_
    exact end_i hx hb hr hlocks dX11_ended_35 rfl () rfl hP hD hS [] rfl (by decide) rfl (Nat.le_of_ble_eq_true rfl) (Nat.le_of_ble_eq_true rfl)
  · refine lv_tableIn (off := 35) (tgt := 36) hx hb dX11_ended_1 (by decide) (by decide) (by decide) (by decide) ?_
    refine lv_aload_n hx hb dX11_ended_36 rfl (lv_at hl 0 rfl) ?_
    refine va_get (D := D) (ci := 11) (v := .ref m0) (C := RX11) (T := TX11) (N := 14) hx hb (htX11 hn) (fun _ h => h) hown hK hP 0 rfl rfl 2 (by decide) (hn.get mw_383 rfl) (fun _ h9 => h9) rfl dX11_ended_37 ?_
    refine va_getN (D := D) (ci := 4) (v := .int 0) (C := RX4) (T := TX4) (N := 10) hx hb (htX4 hn) (fun _ h => h) hown hK hP 1 rfl rfl 6 (by decide) (hn.get mw_91 rfl) (fun _ h9 => h9) rfl dX11_ended_40 ?_
    exact end_i hx hb hr hlocks dX11_ended_43 rfl () rfl hP hD hS [] rfl (by decide) rfl (Nat.le_of_ble_eq_true rfl) (Nat.le_of_ble_eq_true rfl)
  · refine lv_tableIn (off := 43) (tgt := 44) hx hb dX11_ended_1 (by decide) (by decide) (by decide) (by decide) ?_
    refine lv_aload_n hx hb dX11_ended_44 rfl (lv_at hl 0 rfl) ?_
    refine va_get (D := D) (ci := 11) (v := .ref m0) (C := RX11) (T := TX11) (N := 14) hx hb (htX11 hn) (fun _ h => h) hown hK hP 0 rfl rfl 2 (by decide) (hn.get mw_383 rfl) (fun _ h9 => h9) rfl dX11_ended_45 ?_
    refine va_getN (D := D) (ci := 4) (v := .int 0) (C := RX4) (T := TX4) (N := 10) hx hb (htX4 hn) (fun _ h => h) hown hK hP 1 rfl rfl 7 (by decide) (hn.get mw_94 rfl) (fun _ h9 => h9) rfl dX11_ended_48 ?_
    exact end_i hx hb hr hlocks dX11_ended_51 rfl () rfl hP hD hS [] rfl (by decide) rfl (Nat.le_of_ble_eq_true rfl) (Nat.le_of_ble_eq_true rfl)
  · refine lv_tableOut (tgt := 52) hx hb dX11_ended_1 h_1 (by decide) ?_
    refine lv_iconst (v := 0) hx hb dX11_ended_52 (by decide) ?_
    exact end_i hx hb hr hlocks dX11_ended_53 rfl () rfl hP hD hS [] rfl (by decide) rfl (Nat.le_of_ble_eq_true rfl) (Nat.le_of_ble_eq_true rfl)
set_option maxHeartbeats 4000000 in
set_option maxRecDepth 100000 in
theorem c_X11_register (l : Launch) (D : va_G) (ct : Nat → ClassId) (h0 : Nat) (t0 : Nat) (k0 : Nat) (m0 : Nat) (o0 : Nat) (f0 : Nat) (sf : Nat) (p0 : Nat) (sp : Nat) (rd : Nat) (cd : Nat) (tl : Nat) (in0 : Nat) (gk : Nat) (mr : Nat) (ms : Nat) (j : Int32)  : KL (S := Unit) l yX11_register cX11_register 2 (some .long) 1 20 D ct [.ref h0, .int j] [(h0, .inr (11, [.ref t0, .ref k0, .ref m0, .ref o0, .ref f0, .ref sf, .ref p0, .ref sp, .int 0, .ref rd, .ref cd, .ref tl, .ref in0, .ref gk])), (m0, .inr (4, [.ref mr, .ref ms, .ref k0, .int 0, .int 0, .int 0, .int 0, .int 0, .long 0, .int 0]))] 0 0 (fun r _ => r = 0) (fun (_ : Unit) => []) := by
  refine KL_of (by decide) (Nat.le_of_ble_eq_true rfl) (fun p e s m below meth c A C0 hA hS hP hD ls hl => ?_)
  obtain ⟨hx, hb, hr, hown, hin, hml, hlocks, hn, hK⟩ := C0
  have hl : lv_has ls 2 [(0, .ref h0), (1, .int j)] := hl
  refine lv_iload_n hx hb dX11_register_0 rfl (lv_at hl 1 rfl) ?_
  refine lv_if_lt (tgt := 15) hx hb dX11_register_1 (by decide) (fun c_1 => ?_) (fun c_1 => ?_)
  · refine lv_lconst (v := 0) hx hb dX11_register_15 (by decide) ?_
    refine lv_goto (tgt := 27) hx hb dX11_register_16 (by decide) ?_
    exact end_l hx hb hr hlocks dX11_register_27 () rfl hP hD hS [] rfl (by decide) rfl (Nat.le_of_ble_eq_true rfl) (Nat.le_of_ble_eq_true rfl)
  · refine lv_iload_n hx hb dX11_register_4 rfl (lv_at hl 1 rfl) ?_
    refine lv_aload_n hx hb dX11_register_5 rfl (lv_at hl 0 rfl) ?_
    refine va_get (D := D) (ci := 11) (v := .ref m0) (C := RX11) (T := TX11) (N := 14) hx hb (htX11 hn) (fun _ h => h) hown hK hP 0 rfl rfl 2 (by decide) (hn.get mw_383 rfl) (fun _ h9 => h9) rfl dX11_register_6 ?_
    refine va_getN (D := D) (ci := 4) (v := .int 0) (C := RX4) (T := TX4) (N := 10) hx hb (htX4 hn) (fun _ h => h) hown hK hP 1 rfl rfl 4 (by decide) (hn.get mw_85 rfl) (fun _ h9 => h9) rfl dX11_register_9 ?_
    refine lv_icmp_lt (tgt := 19) hx hb dX11_register_12 (by decide) (fun c_2 => absurd c_2 (c_1)) (fun c_2 => ?_)
    refine lv_lconst (v := 0) hx hb dX11_register_15 (by decide) ?_
    refine lv_goto (tgt := 27) hx hb dX11_register_16 (by decide) ?_
    exact end_l hx hb hr hlocks dX11_register_27 () rfl hP hD hS [] rfl (by decide) rfl (Nat.le_of_ble_eq_true rfl) (Nat.le_of_ble_eq_true rfl)
set_option maxHeartbeats 4000000 in
set_option maxRecDepth 100000 in
theorem c_X11_stack (l : Launch) (D : va_G) (ct : Nat → ClassId) (h0 : Nat) (t0 : Nat) (k0 : Nat) (m0 : Nat) (o0 : Nat) (f0 : Nat) (sf : Nat) (p0 : Nat) (sp : Nat) (rd : Nat) (cd : Nat) (tl : Nat) (in0 : Nat) (gk : Nat) (mr : Nat) (ms : Nat) (j : Int32)  : KI (S := Unit) l yX11_stack cX11_stack 2 (some .int) 1 20 D ct [.ref h0, .int j] [(h0, .inr (11, [.ref t0, .ref k0, .ref m0, .ref o0, .ref f0, .ref sf, .ref p0, .ref sp, .int 0, .ref rd, .ref cd, .ref tl, .ref in0, .ref gk])), (m0, .inr (4, [.ref mr, .ref ms, .ref k0, .int 0, .int 0, .int 0, .int 0, .int 0, .long 0, .int 0])), (ms, .inl (ct 0, 64, .inl (fun _ => 0)))] 0 0 (fun r _ => r = exStack j) (fun (_ : Unit) => []) := by
  refine KI_of (by decide) (Nat.le_of_ble_eq_true rfl) (fun p e s m below meth c A C0 hA hS hP hD ls hl => ?_)
  obtain ⟨hx, hb, hr, hown, hin, hml, hlocks, hn, hK⟩ := C0
  have hl : lv_has ls 2 [(0, .ref h0), (1, .int j)] := hl
  refine lv_iload_n hx hb dX11_stack_0 rfl (lv_at hl 1 rfl) ?_
  refine lv_if_lt (tgt := 10) hx hb dX11_stack_1 (by decide) (fun c_1 => ?_) (fun c_1 => ?_)
  · refine lv_iconst (v := (-1)) hx hb dX11_stack_10 (by decide) ?_
    refine lv_goto (tgt := 27) hx hb dX11_stack_11 (by decide) ?_
    exact end_i hx hb hr hlocks dX11_stack_27 rfl () (by simp [exStack, c_1]) hP hD hS [] rfl (by decide) rfl (Nat.le_of_ble_eq_true rfl) (Nat.le_of_ble_eq_true rfl)
  · refine lv_iload_n hx hb dX11_stack_4 rfl (lv_at hl 1 rfl) ?_
    refine lv_bipush (v := 64) hx hb dX11_stack_5 (by decide) ?_
    refine lv_icmp_lt (tgt := 14) hx hb dX11_stack_7 (by decide) (fun c_2 => ?_) (fun c_2 => ?_)
    · refine lv_aload_n hx hb dX11_stack_14 rfl (lv_at hl 0 rfl) ?_
      refine va_get (D := D) (ci := 11) (v := .ref m0) (C := RX11) (T := TX11) (N := 14) hx hb (htX11 hn) (fun _ h => h) hown hK hP 0 rfl rfl 2 (by decide) (hn.get mw_383 rfl) (fun _ h9 => h9) rfl dX11_stack_15 ?_
      refine va_getN (D := D) (ci := 4) (v := .ref ms) (C := RX4) (T := TX4) (N := 10) hx hb (htX4 hn) (fun _ h => h) hown hK hP 1 rfl rfl 1 (by decide) (hn.get mw_81 rfl) (fun _ h9 => h9) rfl dX11_stack_18 ?_
      refine lv_iload_n hx hb dX11_stack_21 rfl (lv_at hl 1 rfl) ?_
      refine va_bald hx hb hK hP 2 0 rfl rfl (vp_in_64 c_1 c_2) dX11_stack_22 ?_
      refine top_c (v := 0) (rfl) ?_
      refine lv_sipush (v := 255) hx hb dX11_stack_23 (by decide) ?_
      refine lv_iand hx hb dX11_stack_26 ?_
      refine top_c (v := 0) (by decide) ?_
      exact end_i hx hb hr hlocks dX11_stack_27 rfl () (by simp [exStack, c_1, c_2]) hP hD hS [] rfl (by decide) rfl (Nat.le_of_ble_eq_true rfl) (Nat.le_of_ble_eq_true rfl)
    · refine lv_iconst (v := (-1)) hx hb dX11_stack_10 (by decide) ?_
      refine lv_goto (tgt := 27) hx hb dX11_stack_11 (by decide) ?_
      exact end_i hx hb hr hlocks dX11_stack_27 rfl () (by simp [exStack, c_1, c_2]) hP hD hS [] rfl (by decide) rfl (Nat.le_of_ble_eq_true rfl) (Nat.le_of_ble_eq_true rfl)
set_option maxHeartbeats 4000000 in
set_option maxRecDepth 100000 in
theorem c_X11_matches (l : Launch) (D : va_G) (ct : Nat → ClassId) (h0 : Nat) (t0 : Nat) (k0 : Nat) (m0 : Nat) (o0 : Nat) (f0 : Nat) (sf : Nat) (p0 : Nat) (sp : Nat) (rd : Nat) (cd : Nat) (tl : Nat) (in0 : Nat) (gk : Nat)  : KI (S := Unit) l yX11_matches cX11_matches 3 (some .int) 1 20 D ct [.ref h0] [(h0, .inr (11, [.ref t0, .ref k0, .ref m0, .ref o0, .ref f0, .ref sf, .ref p0, .ref sp, .int 0, .ref rd, .ref cd, .ref tl, .ref in0, .ref gk]))] 0 0 (fun r _ => r = -1) (fun (_ : Unit) => []) := by
  refine KI_of (by decide) (Nat.le_of_ble_eq_true rfl) (fun p e s m below meth c A C0 hA hS hP hD ls hl => ?_)
  obtain ⟨hx, hb, hr, hown, hin, hml, hlocks, hn, hK⟩ := C0
  have hl : lv_has ls 3 [(0, .ref h0)] := hl
  refine lv_aload_n hx hb dX11_matches_0 rfl (lv_at hl 0 rfl) ?_
  refine va_get (D := D) (ci := 11) (v := .int 0) (C := RX11) (T := TX11) (N := 14) hx hb (htX11 hn) (fun _ h => h) hown hK hP 0 rfl rfl 8 (by decide) (hn.get mw_389 rfl) (fun _ h9 => h9) rfl dX11_matches_1 ?_
  refine lv_if_ne (tgt := 9) hx hb dX11_matches_4 (by decide) (fun c_1 => absurd (by decide) c_1) (fun c_1 => ?_)
  refine lv_iconst (v := (-1)) hx hb dX11_matches_7 (by decide) ?_
  exact end_i hx hb hr hlocks dX11_matches_8 rfl () rfl hP hD hS [] rfl (by decide) rfl (Nat.le_of_ble_eq_true rfl) (Nat.le_of_ble_eq_true rfl)
set_option maxHeartbeats 4000000 in
set_option maxRecDepth 100000 in
theorem c_X11_count (l : Launch) (D : va_G) (ct : Nat → ClassId) (h0 : Nat) (t0 : Nat) (k0 : Nat) (m0 : Nat) (o0 : Nat) (f0 : Nat) (sf : Nat) (p0 : Nat) (sp : Nat) (rd : Nat) (cd : Nat) (tl : Nat) (in0 : Nat) (gk : Nat) (ka : Nat) (kb : Nat) (tr : Nat) (pr : Nat) (or : Nat) (what : Int32)  : KI (S := Unit) l yX11_count cX11_count 2 (some .int) 1 20 D ct [.ref h0, .int what] [(h0, .inr (11, [.ref t0, .ref k0, .ref m0, .ref o0, .ref f0, .ref sf, .ref p0, .ref sp, .int 0, .ref rd, .ref cd, .ref tl, .ref in0, .ref gk])), (k0, .inr (6, [.ref ka, .ref kb, .int 0])), (p0, .inr (7, [.ref pr, .int 0])), (o0, .inr (5, [.ref or, .int 0])), (t0, .inr (9, [.ref tr, .int 0]))] 0 0 (fun r _ => r = exCount what) (fun (_ : Unit) => []) := by
  refine KI_of (by decide) (Nat.le_of_ble_eq_true rfl) (fun p e s m below meth c A C0 hA hS hP hD ls hl => ?_)
  obtain ⟨hx, hb, hr, hown, hin, hml, hlocks, hn, hK⟩ := C0
  have hl : lv_has ls 2 [(0, .ref h0), (1, .int what)] := hl
  refine lv_iload_n hx hb dX11_count_0 rfl (lv_at hl 1 rfl) ?_
  rcases sw_5 what with rfl | rfl | rfl | rfl | rfl | rfl | h_1
  · refine lv_tableIn (off := 39) (tgt := 40) hx hb dX11_count_1 (by decide) (by decide) (by decide) (by decide) ?_
    refine lv_aload_n hx hb dX11_count_40 rfl (lv_at hl 0 rfl) ?_
    refine va_get (D := D) (ci := 11) (v := .ref k0) (C := RX11) (T := TX11) (N := 14) hx hb (htX11 hn) (fun _ h => h) hown hK hP 0 rfl rfl 1 (by decide) (hn.get mw_382 rfl) (fun _ h9 => h9) rfl dX11_count_41 ?_
    refine va_getN (D := D) (ci := 6) (v := .int 0) (C := RX6) (T := TX6) (N := 3) hx hb (htX6 hn) (fun _ h => h) hown hK hP 1 rfl rfl 2 (by decide) (hn.get mw_64 rfl) (fun _ h9 => h9) rfl dX11_count_44 ?_
    exact end_i hx hb hr hlocks dX11_count_47 rfl () (by decide) hP hD hS [] rfl (by decide) rfl (Nat.le_of_ble_eq_true rfl) (Nat.le_of_ble_eq_true rfl)
  · refine lv_tableIn (off := 47) (tgt := 48) hx hb dX11_count_1 (by decide) (by decide) (by decide) (by decide) ?_
    refine lv_aload_n hx hb dX11_count_48 rfl (lv_at hl 0 rfl) ?_
    refine va_get (D := D) (ci := 11) (v := .ref p0) (C := RX11) (T := TX11) (N := 14) hx hb (htX11 hn) (fun _ h => h) hown hK hP 0 rfl rfl 6 (by decide) (hn.get mw_387 rfl) (fun _ h9 => h9) rfl dX11_count_49 ?_
    refine va_getN (D := D) (ci := 7) (v := .int 0) (C := RX7) (T := TX7) (N := 2) hx hb (htX7 hn) (fun _ h => h) hown hK hP 2 rfl rfl 1 (by decide) (hn.get mw_229 rfl) (fun _ h9 => h9) rfl dX11_count_52 ?_
    exact end_i hx hb hr hlocks dX11_count_55 rfl () (by decide) hP hD hS [] rfl (by decide) rfl (Nat.le_of_ble_eq_true rfl) (Nat.le_of_ble_eq_true rfl)
  · refine lv_tableIn (off := 55) (tgt := 56) hx hb dX11_count_1 (by decide) (by decide) (by decide) (by decide) ?_
    refine lv_aload_n hx hb dX11_count_56 rfl (lv_at hl 0 rfl) ?_
    refine va_get (D := D) (ci := 11) (v := .ref o0) (C := RX11) (T := TX11) (N := 14) hx hb (htX11 hn) (fun _ h => h) hown hK hP 0 rfl rfl 3 (by decide) (hn.get mw_384 rfl) (fun _ h9 => h9) rfl dX11_count_57 ?_
    refine va_getN (D := D) (ci := 5) (v := .int 0) (C := RX5) (T := TX5) (N := 2) hx hb (htX5 hn) (fun _ h => h) hown hK hP 3 rfl rfl 1 (by decide) (hn.get mw_135 rfl) (fun _ h9 => h9) rfl dX11_count_60 ?_
    exact end_i hx hb hr hlocks dX11_count_63 rfl () (by decide) hP hD hS [] rfl (by decide) rfl (Nat.le_of_ble_eq_true rfl) (Nat.le_of_ble_eq_true rfl)
  · refine lv_tableIn (off := 63) (tgt := 64) hx hb dX11_count_1 (by decide) (by decide) (by decide) (by decide) ?_
    refine lv_aload_n hx hb dX11_count_64 rfl (lv_at hl 0 rfl) ?_
    refine va_get (D := D) (ci := 11) (v := .ref t0) (C := RX11) (T := TX11) (N := 14) hx hb (htX11 hn) (fun _ h => h) hown hK hP 0 rfl rfl 0 (by decide) (hn.get mw_381 rfl) (fun _ h9 => h9) rfl dX11_count_65 ?_
    refine va_getN (D := D) (ci := 9) (v := .int 0) (C := RX9) (T := TX9) (N := 2) hx hb (htX9 hn) (fun _ h => h) hown hK hP 4 rfl rfl 1 (by decide) (hn.get mw_47 rfl) (fun _ h9 => h9) rfl dX11_count_68 ?_
    exact end_i hx hb hr hlocks dX11_count_71 rfl () (by decide) hP hD hS [] rfl (by decide) rfl (Nat.le_of_ble_eq_true rfl) (Nat.le_of_ble_eq_true rfl)
  · refine lv_tableIn (off := 71) (tgt := 72) hx hb dX11_count_1 (by decide) (by decide) (by decide) (by decide) ?_
    refine lv_aload_n hx hb dX11_count_72 rfl (lv_at hl 0 rfl) ?_
    refine va_get (D := D) (ci := 11) (v := .int 0) (C := RX11) (T := TX11) (N := 14) hx hb (htX11 hn) (fun _ h => h) hown hK hP 0 rfl rfl 8 (by decide) (hn.get mw_389 rfl) (fun _ h9 => h9) rfl dX11_count_73 ?_
    refine lv_if_eq (tgt := 89) hx hb dX11_count_76 (by decide) (fun c_2 => ?_) (fun c_2 => absurd (by decide) c_2)
    refine lv_iconst (v := 0) hx hb dX11_count_89 (by decide) ?_
    exact end_i hx hb hr hlocks dX11_count_90 rfl () (by decide) hP hD hS [] rfl (by decide) rfl (Nat.le_of_ble_eq_true rfl) (Nat.le_of_ble_eq_true rfl)
  · refine lv_tableIn (off := 90) (tgt := 91) hx hb dX11_count_1 (by decide) (by decide) (by decide) (by decide) ?_
    refine lv_aload_n hx hb dX11_count_91 rfl (lv_at hl 0 rfl) ?_
    refine va_get (D := D) (ci := 11) (v := .int 0) (C := RX11) (T := TX11) (N := 14) hx hb (htX11 hn) (fun _ h => h) hown hK hP 0 rfl rfl 8 (by decide) (hn.get mw_389 rfl) (fun _ h9 => h9) rfl dX11_count_92 ?_
    refine lv_if_eq (tgt := 108) hx hb dX11_count_95 (by decide) (fun c_3 => ?_) (fun c_3 => absurd (by decide) c_3)
    refine lv_iconst (v := 0) hx hb dX11_count_108 (by decide) ?_
    exact end_i hx hb hr hlocks dX11_count_109 rfl () (by decide) hP hD hS [] rfl (by decide) rfl (Nat.le_of_ble_eq_true rfl) (Nat.le_of_ble_eq_true rfl)
  · refine lv_tableOut (tgt := 110) hx hb dX11_count_1 h_1 (by decide) ?_
    refine lv_iconst (v := (-1)) hx hb dX11_count_110 (by decide) ?_
    exact end_i hx hb hr hlocks dX11_count_111 rfl () (by rw [exCount, if_pos h_1]) hP hD hS [] rfl (by decide) rfl (Nat.le_of_ble_eq_true rfl) (Nat.le_of_ble_eq_true rfl)
