/-! what the rows of bytes hold, told alike for both sides -/
def TB (f w : Nat → Int32) : Prop := ∀ j : Nat, (f j).toInt % 256 = (w j).toInt % 256
def EQF (f g : Nat → Int32) : Prop := ∀ j : Nat, (g j).toInt = (f j).toInt
theorem EQF.rf {f : Nat → Int32} : EQF f f := fun _ => rfl
def PT4 (f g : Nat → Int32) (n v : Int) : Prop := ∀ j : Nat, ((j : Int) = n → (g j).toInt % 256 = v / 16777216 % 256) ∧ ((j : Int) = n + 1 → (g j).toInt % 256 = v / 65536 % 256) ∧ ((j : Int) = n + 2 → (g j).toInt % 256 = v / 256 % 256) ∧ ((j : Int) = n + 3 → (g j).toInt % 256 = v % 256) ∧ ((j : Int) < n ∨ n + 3 < (j : Int) → (g j).toInt % 256 = (f j).toInt % 256)
theorem nar_mod (x : Int32) : (vp_nar .byte x).toInt % 256 = x.toInt % 256 := by
  rw [vp_nar_byte, Int8.toInt_toInt32, Int32.toInt_toInt8]
  exact Int.bmod_emod
theorem i2b_mod {x z : Int32} (e : z = x.toInt8.toInt32) : z.toInt % 256 = x.toInt % 256 := by
  rw [e, Int8.toInt_toInt32, Int32.toInt_toInt8]
  exact Int.bmod_emod
theorem upd_at {f : Nat → Int32} {k j : Nat} {x : Int32} (h : j = k) : upd f k x j = x := by
  subst h; unfold upd; rw [if_pos rfl]
theorem upd_ne {f : Nat → Int32} {k j : Nat} {x : Int32} (h : j ≠ k) : upd f k x j = f j := by
  unfold upd; rw [if_neg h]
theorem PT4.of {f f1 f2 f3 f4 : Nat → Int32} {i0 i1 i2 i3 x0 x1 x2 x3 : Int32} {n v : Int} (e1 : f1 = upd f i0.toNatClampNeg x0) (e2 : f2 = upd f1 i1.toNatClampNeg x1) (e3 : f3 = upd f2 i2.toNatClampNeg x2) (e4 : f4 = upd f3 i3.toNatClampNeg x3)
    (hn : 0 ≤ n) (h0 : i0.toInt = n) (h1 : i1.toInt = n + 1) (h2 : i2.toInt = n + 2) (h3 : i3.toInt = n + 3) (b0 : x0.toInt % 256 = v / 16777216 % 256) (b1 : x1.toInt % 256 = v / 65536 % 256) (b2 : x2.toInt % 256 = v / 256 % 256) (b3 : x3.toInt % 256 = v % 256) : PT4 f f4 n v := fun j => by
  have t0 := tn_nat (i := i0) (by omega)
  have t1 := tn_nat (i := i1) (by omega)
  have t2 := tn_nat (i := i2) (by omega)
  have t3 := tn_nat (i := i3) (by omega)
  subst e1 e2 e3 e4
  refine ⟨fun h => ?_, fun h => ?_, fun h => ?_, fun h => ?_, fun h => ?_⟩
  · rw [upd_ne (by omega), upd_ne (by omega), upd_ne (by omega), upd_at (by omega)]; exact b0
  · rw [upd_ne (by omega), upd_ne (by omega), upd_at (by omega)]; exact b1
  · rw [upd_ne (by omega), upd_at (by omega)]; exact b2
  · rw [upd_at (by omega)]; exact b3
  · rw [upd_ne (by omega), upd_ne (by omega), upd_ne (by omega), upd_ne (by omega)]
theorem PT4.tb {f g w u : Nat → Int32} {n v : Int} (h : TB f w) (h1 : PT4 f g n v) (h2 : PT4 w u n v) : TB g u := fun j => by
  have q0 := h j
  obtain ⟨a1, a2, a3, a4, a5⟩ := h1 j
  obtain ⟨c1, c2, c3, c4, c5⟩ := h2 j
  by_cases k0 : (j : Int) = n
  · rw [a1 k0, c1 k0]
  by_cases k1 : (j : Int) = n + 1
  · rw [a2 k1, c2 k1]
  by_cases k2 : (j : Int) = n + 2
  · rw [a3 k2, c3 k2]
  by_cases k3 : (j : Int) = n + 3
  · rw [a4 k3, c4 k3]
  have k4 : (j : Int) < n ∨ n + 3 < (j : Int) := by omega
  rw [a5 k4, c5 k4]; exact q0
def PT20 (f g : Nat → Int32) (n a b c d e : Int) : Prop := ∃ f1 f2 f3 f4 : Nat → Int32, PT4 f f1 n a ∧ PT4 f1 f2 (n + 4) b ∧ PT4 f2 f3 (n + 8) c ∧ PT4 f3 f4 (n + 12) d ∧ PT4 f4 g (n + 16) e
theorem PT20.of {f f1 f2 f3 f4 g : Nat → Int32} {n n1 n2 n3 n4 a b c d e : Int} (h0 : PT4 f f1 n a) (h1 : PT4 f1 f2 n1 b) (h2 : PT4 f2 f3 n2 c) (h3 : PT4 f3 f4 n3 d) (h4 : PT4 f4 g n4 e) (e1 : n1 = n + 4) (e2 : n2 = n + 8) (e3 : n3 = n + 12) (e4 : n4 = n + 16) : PT20 f g n a b c d e := by
  subst e1 e2 e3 e4
  exact ⟨f1, f2, f3, f4, h0, h1, h2, h3, h4⟩
theorem PT20.tb {f g w u : Nat → Int32} {n a b c d e : Int} (h : TB f w) (h1 : PT20 f g n a b c d e) (h2 : PT20 w u n a b c d e) : TB g u := by
  obtain ⟨f1, f2, f3, f4, p0, p1, p2, p3, p4⟩ := h1
  obtain ⟨w1, w2, w3, w4, q0, q1, q2, q3, q4⟩ := h2
  exact PT4.tb (PT4.tb (PT4.tb (PT4.tb (PT4.tb h p0 q0) p1 q1) p2 q2) p3 q3) p4 q4
theorem TB.eqf {f g w u : Nat → Int32} (h : TB f w) (h1 : EQF f g) (h2 : EQF w u) : TB g u := fun j => by rw [h1 j, h2 j]; exact h j
theorem TB.zero : TB (fun _ => 0) (fun _ => 0) := fun _ => rfl
/-! a packet laid behind the others -/
def CP (f g t : Nat → Int32) (b n : Int) : Prop := ∀ j : Nat, (b ≤ (j : Int) ∧ (j : Int) < b + n → (g j).toInt % 256 = (t ((j : Int) - b).toNat).toInt % 256) ∧ ((j : Int) < b ∨ b + n ≤ (j : Int) → (g j).toInt % 256 = (f j).toInt % 256)
theorem CP.zero {f t : Nat → Int32} {b n : Int} (h : n ≤ 0) : CP f f t b n := fun j => ⟨fun q => by omega, fun _ => rfl⟩
theorem CP.step {f g g' t : Nat → Int32} {b n m : Int} {i l x : Int32} (h : CP f g t b n) (e : g' = upd g i.toNatClampNeg x) (hb : 0 ≤ b) (hn : 0 ≤ n) (hi : i.toInt = b + n) (hl : l.toInt = n) (hx : x.toInt % 256 = (t l.toNatClampNeg).toInt % 256) (hm : m = n + 1) : CP f g' t b m := fun j => by
  have ti := tn_nat (i := i) (by omega)
  have tl := tn_nat (i := l) (by omega)
  obtain ⟨h1, h2⟩ := h j
  subst e hm
  by_cases hj : j = i.toNatClampNeg
  · refine ⟨fun _ => ?_, fun q => by omega⟩
    rw [upd_at hj]
    have h3 : ((j : Int) - b).toNat = l.toNatClampNeg := by omega
    rw [h3]; exact hx
  · refine ⟨fun q => ?_, fun q => ?_⟩
    · rw [upd_ne hj]; exact h1 (by omega)
    · rw [upd_ne hj]; exact h2 (by omega)
theorem CP.tb {f g t w u s : Nat → Int32} {b n : Int} (h : TB f w) (ht : TB t s) (h1 : CP f g t b n) (h2 : CP w u s b n) : TB g u := fun j => by
  obtain ⟨a1, a2⟩ := h1 j
  obtain ⟨c1, c2⟩ := h2 j
  by_cases k0 : b ≤ (j : Int) ∧ (j : Int) < b + n
  · rw [a1 k0, c1 k0]; exact ht _
  · have k1 : (j : Int) < b ∨ b + n ≤ (j : Int) := by omega
    rw [a2 k1, c2 k1]; exact h j
def UPE (f g : Nat → Int32) (i v : Int) : Prop := ∀ j : Nat, ((j : Int) = i → (g j).toInt = v) ∧ ((j : Int) ≠ i → (g j).toInt = (f j).toInt)
theorem UPE.of {f g : Nat → Int32} {i x : Int32} {k v : Int} (e : g = upd f i.toNatClampNeg x) (h0 : 0 ≤ i.toInt) (hk : i.toInt = k) (hv : x.toInt = v) : UPE f g k v := fun j => by
  have ti := tn_nat h0
  subst e
  refine ⟨fun q => ?_, fun q => ?_⟩
  · rw [upd_at (by omega)]; exact hv
  · rw [upd_ne (by omega)]
theorem UPE.eqf {f g w u : Nat → Int32} {i v : Int} (h : EQF f w) (h1 : UPE f g i v) (h2 : UPE w u i v) : EQF g u := fun j => by
  obtain ⟨a1, a2⟩ := h1 j
  obtain ⟨c1, c2⟩ := h2 j
  by_cases k : (j : Int) = i
  · rw [a1 k, c1 k]
  · rw [a2 k, c2 k]; exact h j
theorem EQF.eqf {f g w u : Nat → Int32} (h : EQF f w) (h1 : EQF f g) (h2 : EQF w u) : EQF g u := fun j => by rw [h1 j, h2 j]; exact h j
/-! eight bytes of a packet -/
def ATQ (f : Nat → Int32) (q r : Int) : Prop := r = (f q.toNat).toInt % 256
theorem ATQ.of {f : Nat → Int32} {q r : Int} {i : Int32} (hi : i.toInt = q) (h0 : 0 ≤ i.toInt) (hr : r = (f i.toNatClampNeg).toInt % 256) : ATQ f q r := by
  have ti := tn_nat h0
  have h1 : q.toNat = i.toNatClampNeg := by omega
  unfold ATQ
  rw [h1]; exact hr
def CELL (f : Nat → Int32) (b n i : Int) (k : Nat) : Int := if i + (k : Int) < n then (f (b + i + (k : Int)).toNat).toInt % 256 else 0
def ACC (f : Nat → Int32) (b n i : Int) : Nat → Int64
  | 0 => 0
  | k + 1 => (ACC f b n i k <<< ((8 : Int32).toInt64 &&& 63)) ||| (Int32.ofInt (CELL f b n i k)).toInt64
def ACR (f : Nat → Int32) (b n i k : Int) (x : Int64) : Prop := 0 ≤ k ∧ x = ACC f b n i k.toNat
theorem ACR.zero {f : Nat → Int32} {b n i k : Int} (h : k = 0) : ACR f b n i k 0 := by subst h; exact ⟨Int.le_refl _, rfl⟩
theorem ACR.step {f : Nat → Int32} {b n i k m : Int} {x z y w : Int64} {c : Int32} (h : ACR f b n i k x) (e1 : z = x <<< ((8 : Int32).toInt64 &&& 63)) (e2 : y = c.toInt64) (e3 : w = z ||| y) (h1 : i + k < n → ATQ f (b + i + k) c.toInt) (h2 : n ≤ i + k → c.toInt = 0) (hm : m = k + 1) : ACR f b n i m w := by
  obtain ⟨h0, h3⟩ := h
  refine ⟨by omega, ?_⟩
  have h4 : m.toNat = k.toNat + 1 := by omega
  have h5 : ((k.toNat : Nat) : Int) = k := by omega
  have h6 : c = Int32.ofInt (CELL f b n i k.toNat) := by
    apply Int32.toInt_inj.mp
    unfold CELL
    rw [h5]
    by_cases hk : i + k < n
    · rw [if_pos hk, Int32.toInt_ofInt_of_le (by omega) (by omega)]; exact h1 hk
    · rw [if_neg hk, h2 (by omega)]; decide
  rw [h4, e3, e2, e1, h3, h6]
  rfl
theorem ACC_tb {f w : Nat → Int32} {b n i : Int} (h : TB f w) : ∀ k : Nat, ACC f b n i k = ACC w b n i k
  | 0 => rfl
  | k + 1 => by
    have h1 : CELL f b n i k = CELL w b n i k := by
      unfold CELL
      split
      · exact h _
      · rfl
    unfold ACC
    rw [ACC_tb h k, h1]
theorem ACR.tb {f w : Nat → Int32} {b n i k : Int} {x y : Int64} (h : TB f w) (h1 : ACR f b n i k x) (h2 : ACR w b n i k y) : x = y := by
  rw [h1.2, h2.2, ACC_tb h]
/-! what the rows of bytes hold -/
set_option maxHeartbeats 2000000 in
theorem c_X9_put_w (l : Launch) (D : va_G) (ct : Nat → ClassId) (t0 : Nat) (v0 : Int32) (t0r : Nat) (x_t0_1 : Int32) (g_t0r : Nat → Int32) (h_x_t0_1 : rg x_t0_1 0 2000) (h_g_t0r : Rg g_t0r 2000 (-128) 127) : KV (S := Int32 × (Nat → Int32)) l yX9_put cX9_put 3 none 2 41 D ct [.ref t0, .int v0] [(t0, .inr (9, [.ref t0r, .int x_t0_1])), (t0r, .inl (ct 0, 2000, .inl g_t0r))] 0 0 (fun (u : Int32 × (Nat → Int32)) => match u with | (y_t0_1, k_t0r) => rg y_t0_1 0 2004 ∧ Rg k_t0r 2000 (-128) 127 ∧ (x_t0_1.toInt + 0 ≤ y_t0_1.toInt ∧ y_t0_1.toInt ≤ x_t0_1.toInt + 4) ∧ (x_t0_1.toInt ≤ 1996 → y_t0_1.toInt = x_t0_1.toInt + 4) ∧ (x_t0_1.toInt ≤ 1996 → PT4 g_t0r k_t0r x_t0_1.toInt v0.toInt)) (fun (u : Int32 × (Nat → Int32)) => match u with | (y_t0_1, k_t0r) => [(t0, .inr (9, [.ref t0r, .int y_t0_1])), (t0r, .inl (ct 0, 2000, .inl k_t0r))]) := by
  refine KVq_of (by decide) (Nat.le_of_ble_eq_true rfl) (fun p e s m below meth c A Q C0 hA H locs hS hP hD hQ ls hl => ?_)
  obtain ⟨hx, hb, hr, hown, hin, hml, hlocks, hn, hK, hZ, hSK⟩ := C0
  have hl : lv_has ls 3 [(0, .ref t0), (1, .int v0)] := hl
  refine lv_aload_n hx hb dX9_put_0 rfl (lv_at hl 0 rfl) ?_
  refine lv_iconst (v := 4) hx hb dX9_put_1 (by decide) ?_
  refine go_i (k1 := 0) (n1 := 0) (wr := [(t0r, .inl (ct 0, 2000, .inl g_t0r))]) [0] [1] (rn_V (As := [.int 4]) (rest := []) (c_X9_hasRoom l D ct t0 (4 : Int32) t0r x_t0_1 (rg_w (show rg (4 : Int32) 4 4 from rg_l (by decide)) (by decide)) h_x_t0_1 _) (cb_of (n := 1) hn mw_431 mw_2 mw_436 mhX9_hasRoom ⟨(Nat.le_of_ble_eq_true rfl), (Nat.le_of_ble_eq_true rfl)⟩) hx hb hml hown hn hK hSK hZ hS mw_430 mw_s0 (ci := 9) (q0 := 0) rfl rfl rfl rfl hl.1 (Nat.le_of_ble_eq_true rfl) dX9_put_2 ⟨(Nat.le_of_ble_eq_true rfl), (Nat.le_of_ble_eq_true rfl)⟩) hP hD hS hA rfl rfl (by decide) (by decide) (by decide) (Nat.le_of_ble_eq_true rfl) (Nat.le_of_ble_eq_true rfl) (fun r2_1 u2_2 H locs hp2_3 hP hD hS => ?_)
  obtain ⟨hp2_4, hp2_5, hp2_6⟩ := hp2_3
  have hp2_4 : rg r2_1 0 1 := hp2_4
  replace hp2_5 : FF (r2_1.toInt = 1 → x_t0_1.toInt + (4 : Int32).toInt ≤ 2000) := hp2_5
  replace hp2_6 : FF (x_t0_1.toInt + (4 : Int32).toInt ≤ 2000 → r2_1.toInt = 1) := hp2_6
  have hP : va_P D vwCl [(t0r, .inl (ct 0, 2000, .inl g_t0r)), (t0, .inr (9, [.ref t0r, .int x_t0_1]))] _ := hP
  have hD : va_D A [(t0r, .inl (ct 0, 2000, .inl g_t0r)), (t0, .inr (9, [.ref t0r, .int x_t0_1]))] := hD
  refine lv_if_ne (tgt := 9) hx hb dX9_put_5 (by decide) (fun c5_1 => ?_) (fun c5_1 => ?_)
  · have t5_2 := FF.mk (i_ne c5_1)
    have r5_3 : rg r2_1 1 1 := rg_neAl t5_2 hp2_4 (show rg (0 : Int32) 0 0 from rg_l (by decide)) (by decide)
    refine lv_bipush (v := 24) hx hb dX9_put_9 (by decide) ?_
    refine lv_istore_n (lv' := [(2, .int 24), (0, .ref t0), (1, .int v0)]) hx hb dX9_put_11 rfl hl (by decide) rfl (fun ls hl => ?_)
    refine lv_iload_n hx hb dX9_put_12 rfl (lv_at hl 0 rfl) ?_
    refine lv_if_lt (tgt := 45) hx hb dX9_put_13 (by decide) (fun c13_101 => absurd c13_101 (by decide)) (fun c13_101 => ?_)
    refine lv_aload_n hx hb dX9_put_16 rfl (lv_at hl 1 rfl) ?_
    refine va_get (D := D) (ci := 9) (v := .ref t0r) (C := RX9) (T := TX9) (N := 2) hx hb (htX9 hn) (fun _ h => h) hown hK hP 1 rfl rfl 0 (by decide) (hn.get mw_42 rfl) (fun _ h9 => h9) rfl dX9_put_17 ?_
    refine lv_aload_n hx hb dX9_put_20 rfl (lv_at hl 1 rfl) ?_
    refine va_get (D := D) (ci := 9) (v := .int x_t0_1) (C := RX9) (T := TX9) (N := 2) hx hb (htX9 hn) (fun _ h => h) hown hK hP 1 rfl rfl 1 (by decide) (hn.get mw_43 rfl) (fun _ h9 => h9) rfl dX9_put_21 ?_
    refine lv_iload_n hx hb dX9_put_24 rfl (lv_at hl 2 rfl) ?_
    refine lv_iload_n hx hb dX9_put_25 rfl (lv_at hl 0 rfl) ?_
    refine lv_ishr hx hb dX9_put_26 ?_
    refine lv_topi (fun z26_101 ez26_101 => ?_)
    have r26_102 : rg z26_101 (-128) 127 := rg_shr (k := 24) ez26_101 (by decide) (rg_any v0) (by decide)
    refine lv_i2b hx hb dX9_put_27 rfl ?_
    refine lv_topi (fun z27_101 ez27_101 => ?_)
    have r27_102 : rg z27_101 (-128) 127 := rg_i2b ez27_101
    have hi28_101 : vp_in x_t0_1 2000 := (in_of (show 0 ≤ x_t0_1.toInt ∧ x_t0_1.toInt < 2000 by have q0 := h_x_t0_1.1; have q1 := r5_3.1; have q2 := r5_3.2; have q3 := FF.out hp2_5; have q4 := (show (4 : Int32).toInt = 4 from by decide); omega))
    refine va_bast hx hb hK hP hD hS 0 0 rfl rfl hi28_101 dX9_put_28 (fun H locs hP hD hS => ?_)
    have hP : va_P D vwCl [(t0r, .inl (ct 0, 2000, .inl (upd g_t0r x_t0_1.toNatClampNeg (vp_nar .byte z27_101)))), (t0, .inr (9, [.ref t0r, .int x_t0_1]))] _ := hP
    have hD : va_D A [(t0r, .inl (ct 0, 2000, .inl (upd g_t0r x_t0_1.toNatClampNeg (vp_nar .byte z27_101)))), (t0, .inr (9, [.ref t0r, .int x_t0_1]))] := hD
    obtain ⟨f28_102, ef28_102⟩ : ∃ z, z = (upd g_t0r x_t0_1.toNatClampNeg (vp_nar .byte z27_101)) := ⟨_, rfl⟩
    rw [← ef28_102] at hP hD
    have hc28_103 : Rg f28_102 2000 (-128) 127 := Rg_upd ef28_102 h_g_t0r (rg_narB z27_101)
    refine lv_aload_n hx hb dX9_put_29 rfl (lv_at hl 1 rfl) ?_
    refine lv_dup hx hb dX9_put_30 rfl ?_
    refine va_get (D := D) (ci := 9) (v := .int x_t0_1) (C := RX9) (T := TX9) (N := 2) hx hb (htX9 hn) (fun _ h => h) hown hK hP 1 rfl rfl 1 (by decide) (hn.get mw_43 rfl) (fun _ h9 => h9) rfl dX9_put_31 ?_
    refine lv_iconst (v := 1) hx hb dX9_put_34 (by decide) ?_
    refine lv_iadd hx hb dX9_put_35 ?_
    refine lv_topi (fun z35_101 ez35_101 => ?_)
    have r35_102 : rg z35_101 1 2001 := rg_add ez35_101 h_x_t0_1 (show rg (1 : Int32) 1 1 from rg_l (by decide)) (by decide)
    refine va_put (D := D) (ci := 9) (v := .int z35_101) (ty := .int) (C := RX9) (T := TX9) (N := 2) hx hb (htX9 hn) (fun _ h => h) tyX9 tyX9_ok nmX9 hown hK hP hD hS 1 rfl rfl 1 (by decide) (hn.get mw_43 rfl) (fun _ h9 => h9) rfl (by decide +kernel) rfl rfl (Nat.le_of_ble_eq_true rfl) dX9_put_36 (fun H locs hP hD hS => ?_)
    have hP : va_P D vwCl [(t0r, .inl (ct 0, 2000, .inl f28_102)), (t0, .inr (9, [.ref t0r, .int z35_101]))] _ := hP
    have hD : va_D A [(t0r, .inl (ct 0, 2000, .inl f28_102)), (t0, .inr (9, [.ref t0r, .int z35_101]))] := hD
    refine lv_iinc (v := 16) (lv' := [(2, .int 16), (0, .ref t0), (1, .int v0)]) hx hb dX9_put_39 hl (k := 0) rfl (by decide) (by decide) rfl (fun ls hl => ?_)
    refine lv_goto (tgt := 12) hx hb dX9_put_42 (by decide) ?_
    refine lv_iload_n hx hb dX9_put_12 rfl (lv_at hl 0 rfl) ?_
    refine lv_if_lt (tgt := 45) hx hb dX9_put_13 (by decide) (fun c13_201 => absurd c13_201 (by decide)) (fun c13_201 => ?_)
    refine lv_aload_n hx hb dX9_put_16 rfl (lv_at hl 1 rfl) ?_
    refine va_get (D := D) (ci := 9) (v := .ref t0r) (C := RX9) (T := TX9) (N := 2) hx hb (htX9 hn) (fun _ h => h) hown hK hP 1 rfl rfl 0 (by decide) (hn.get mw_42 rfl) (fun _ h9 => h9) rfl dX9_put_17 ?_
    refine lv_aload_n hx hb dX9_put_20 rfl (lv_at hl 1 rfl) ?_
    refine va_get (D := D) (ci := 9) (v := .int z35_101) (C := RX9) (T := TX9) (N := 2) hx hb (htX9 hn) (fun _ h => h) hown hK hP 1 rfl rfl 1 (by decide) (hn.get mw_43 rfl) (fun _ h9 => h9) rfl dX9_put_21 ?_
    refine lv_iload_n hx hb dX9_put_24 rfl (lv_at hl 2 rfl) ?_
    refine lv_iload_n hx hb dX9_put_25 rfl (lv_at hl 0 rfl) ?_
    refine lv_ishr hx hb dX9_put_26 ?_
    refine lv_topi (fun z26_201 ez26_201 => ?_)
    have r26_202 : rg z26_201 (-32768) 32767 := rg_shr (k := 16) ez26_201 (by decide) (rg_any v0) (by decide)
    refine lv_i2b hx hb dX9_put_27 rfl ?_
    refine lv_topi (fun z27_201 ez27_201 => ?_)
    have r27_202 : rg z27_201 (-128) 127 := rg_i2b ez27_201
    have hi28_201 : vp_in z35_101 2000 := (in_of (show 0 ≤ z35_101.toInt ∧ z35_101.toInt < 2000 by have q0 := r35_102.1; have q1 := (eq_add ez35_101 h_x_t0_1 (show rg (1 : Int32) 1 1 from rg_l (by decide)) (by decide)); have q2 := r5_3.1; have q3 := r5_3.2; have q4 := FF.out hp2_5; have q5 := (show (1 : Int32).toInt = 1 from by decide); have q6 := (show (4 : Int32).toInt = 4 from by decide); omega))
    refine va_bast hx hb hK hP hD hS 0 0 rfl rfl hi28_201 dX9_put_28 (fun H locs hP hD hS => ?_)
    have hP : va_P D vwCl [(t0r, .inl (ct 0, 2000, .inl (upd f28_102 z35_101.toNatClampNeg (vp_nar .byte z27_201)))), (t0, .inr (9, [.ref t0r, .int z35_101]))] _ := hP
    have hD : va_D A [(t0r, .inl (ct 0, 2000, .inl (upd f28_102 z35_101.toNatClampNeg (vp_nar .byte z27_201)))), (t0, .inr (9, [.ref t0r, .int z35_101]))] := hD
    obtain ⟨f28_202, ef28_202⟩ : ∃ z, z = (upd f28_102 z35_101.toNatClampNeg (vp_nar .byte z27_201)) := ⟨_, rfl⟩
    rw [← ef28_202] at hP hD
    have hc28_203 : Rg f28_202 2000 (-128) 127 := Rg_upd ef28_202 hc28_103 (rg_narB z27_201)
    refine lv_aload_n hx hb dX9_put_29 rfl (lv_at hl 1 rfl) ?_
    refine lv_dup hx hb dX9_put_30 rfl ?_
    refine va_get (D := D) (ci := 9) (v := .int z35_101) (C := RX9) (T := TX9) (N := 2) hx hb (htX9 hn) (fun _ h => h) hown hK hP 1 rfl rfl 1 (by decide) (hn.get mw_43 rfl) (fun _ h9 => h9) rfl dX9_put_31 ?_
    refine lv_iconst (v := 1) hx hb dX9_put_34 (by decide) ?_
    refine lv_iadd hx hb dX9_put_35 ?_
    refine lv_topi (fun z35_201 ez35_201 => ?_)
    have r35_202 : rg z35_201 2 2002 := rg_add ez35_201 r35_102 (show rg (1 : Int32) 1 1 from rg_l (by decide)) (by decide)
    refine va_put (D := D) (ci := 9) (v := .int z35_201) (ty := .int) (C := RX9) (T := TX9) (N := 2) hx hb (htX9 hn) (fun _ h => h) tyX9 tyX9_ok nmX9 hown hK hP hD hS 1 rfl rfl 1 (by decide) (hn.get mw_43 rfl) (fun _ h9 => h9) rfl (by decide +kernel) rfl rfl (Nat.le_of_ble_eq_true rfl) dX9_put_36 (fun H locs hP hD hS => ?_)
    have hP : va_P D vwCl [(t0r, .inl (ct 0, 2000, .inl f28_202)), (t0, .inr (9, [.ref t0r, .int z35_201]))] _ := hP
    have hD : va_D A [(t0r, .inl (ct 0, 2000, .inl f28_202)), (t0, .inr (9, [.ref t0r, .int z35_201]))] := hD
    refine lv_iinc (v := 8) (lv' := [(2, .int 8), (0, .ref t0), (1, .int v0)]) hx hb dX9_put_39 hl (k := 0) rfl (by decide) (by decide) rfl (fun ls hl => ?_)
    refine lv_goto (tgt := 12) hx hb dX9_put_42 (by decide) ?_
    refine lv_iload_n hx hb dX9_put_12 rfl (lv_at hl 0 rfl) ?_
    refine lv_if_lt (tgt := 45) hx hb dX9_put_13 (by decide) (fun c13_301 => absurd c13_301 (by decide)) (fun c13_301 => ?_)
    refine lv_aload_n hx hb dX9_put_16 rfl (lv_at hl 1 rfl) ?_
    refine va_get (D := D) (ci := 9) (v := .ref t0r) (C := RX9) (T := TX9) (N := 2) hx hb (htX9 hn) (fun _ h => h) hown hK hP 1 rfl rfl 0 (by decide) (hn.get mw_42 rfl) (fun _ h9 => h9) rfl dX9_put_17 ?_
    refine lv_aload_n hx hb dX9_put_20 rfl (lv_at hl 1 rfl) ?_
    refine va_get (D := D) (ci := 9) (v := .int z35_201) (C := RX9) (T := TX9) (N := 2) hx hb (htX9 hn) (fun _ h => h) hown hK hP 1 rfl rfl 1 (by decide) (hn.get mw_43 rfl) (fun _ h9 => h9) rfl dX9_put_21 ?_
    refine lv_iload_n hx hb dX9_put_24 rfl (lv_at hl 2 rfl) ?_
    refine lv_iload_n hx hb dX9_put_25 rfl (lv_at hl 0 rfl) ?_
    refine lv_ishr hx hb dX9_put_26 ?_
    refine lv_topi (fun z26_301 ez26_301 => ?_)
    have r26_302 : rg z26_301 (-8388608) 8388607 := rg_shr (k := 8) ez26_301 (by decide) (rg_any v0) (by decide)
    refine lv_i2b hx hb dX9_put_27 rfl ?_
    refine lv_topi (fun z27_301 ez27_301 => ?_)
    have r27_302 : rg z27_301 (-128) 127 := rg_i2b ez27_301
    have hi28_301 : vp_in z35_201 2000 := (in_of (show 0 ≤ z35_201.toInt ∧ z35_201.toInt < 2000 by have q0 := r35_202.1; have q1 := (eq_add ez35_201 r35_102 (show rg (1 : Int32) 1 1 from rg_l (by decide)) (by decide)); have q2 := (eq_add ez35_101 h_x_t0_1 (show rg (1 : Int32) 1 1 from rg_l (by decide)) (by decide)); have q3 := r5_3.1; have q4 := r5_3.2; have q5 := FF.out hp2_5; have q6 := (show (1 : Int32).toInt = 1 from by decide); have q7 := (show (4 : Int32).toInt = 4 from by decide); omega))
    refine va_bast hx hb hK hP hD hS 0 0 rfl rfl hi28_301 dX9_put_28 (fun H locs hP hD hS => ?_)
    have hP : va_P D vwCl [(t0r, .inl (ct 0, 2000, .inl (upd f28_202 z35_201.toNatClampNeg (vp_nar .byte z27_301)))), (t0, .inr (9, [.ref t0r, .int z35_201]))] _ := hP
    have hD : va_D A [(t0r, .inl (ct 0, 2000, .inl (upd f28_202 z35_201.toNatClampNeg (vp_nar .byte z27_301)))), (t0, .inr (9, [.ref t0r, .int z35_201]))] := hD
    obtain ⟨f28_302, ef28_302⟩ : ∃ z, z = (upd f28_202 z35_201.toNatClampNeg (vp_nar .byte z27_301)) := ⟨_, rfl⟩
    rw [← ef28_302] at hP hD
    have hc28_303 : Rg f28_302 2000 (-128) 127 := Rg_upd ef28_302 hc28_203 (rg_narB z27_301)
    refine lv_aload_n hx hb dX9_put_29 rfl (lv_at hl 1 rfl) ?_
    refine lv_dup hx hb dX9_put_30 rfl ?_
    refine va_get (D := D) (ci := 9) (v := .int z35_201) (C := RX9) (T := TX9) (N := 2) hx hb (htX9 hn) (fun _ h => h) hown hK hP 1 rfl rfl 1 (by decide) (hn.get mw_43 rfl) (fun _ h9 => h9) rfl dX9_put_31 ?_
    refine lv_iconst (v := 1) hx hb dX9_put_34 (by decide) ?_
    refine lv_iadd hx hb dX9_put_35 ?_
    refine lv_topi (fun z35_301 ez35_301 => ?_)
    have r35_302 : rg z35_301 3 2003 := rg_add ez35_301 r35_202 (show rg (1 : Int32) 1 1 from rg_l (by decide)) (by decide)
    refine va_put (D := D) (ci := 9) (v := .int z35_301) (ty := .int) (C := RX9) (T := TX9) (N := 2) hx hb (htX9 hn) (fun _ h => h) tyX9 tyX9_ok nmX9 hown hK hP hD hS 1 rfl rfl 1 (by decide) (hn.get mw_43 rfl) (fun _ h9 => h9) rfl (by decide +kernel) rfl rfl (Nat.le_of_ble_eq_true rfl) dX9_put_36 (fun H locs hP hD hS => ?_)
    have hP : va_P D vwCl [(t0r, .inl (ct 0, 2000, .inl f28_302)), (t0, .inr (9, [.ref t0r, .int z35_301]))] _ := hP
    have hD : va_D A [(t0r, .inl (ct 0, 2000, .inl f28_302)), (t0, .inr (9, [.ref t0r, .int z35_301]))] := hD
    refine lv_iinc (v := 0) (lv' := [(2, .int 0), (0, .ref t0), (1, .int v0)]) hx hb dX9_put_39 hl (k := 0) rfl (by decide) (by decide) rfl (fun ls hl => ?_)
    refine lv_goto (tgt := 12) hx hb dX9_put_42 (by decide) ?_
    refine lv_iload_n hx hb dX9_put_12 rfl (lv_at hl 0 rfl) ?_
    refine lv_if_lt (tgt := 45) hx hb dX9_put_13 (by decide) (fun c13_401 => absurd c13_401 (by decide)) (fun c13_401 => ?_)
    refine lv_aload_n hx hb dX9_put_16 rfl (lv_at hl 1 rfl) ?_
    refine va_get (D := D) (ci := 9) (v := .ref t0r) (C := RX9) (T := TX9) (N := 2) hx hb (htX9 hn) (fun _ h => h) hown hK hP 1 rfl rfl 0 (by decide) (hn.get mw_42 rfl) (fun _ h9 => h9) rfl dX9_put_17 ?_
    refine lv_aload_n hx hb dX9_put_20 rfl (lv_at hl 1 rfl) ?_
    refine va_get (D := D) (ci := 9) (v := .int z35_301) (C := RX9) (T := TX9) (N := 2) hx hb (htX9 hn) (fun _ h => h) hown hK hP 1 rfl rfl 1 (by decide) (hn.get mw_43 rfl) (fun _ h9 => h9) rfl dX9_put_21 ?_
    refine lv_iload_n hx hb dX9_put_24 rfl (lv_at hl 2 rfl) ?_
    refine lv_iload_n hx hb dX9_put_25 rfl (lv_at hl 0 rfl) ?_
    refine lv_ishr hx hb dX9_put_26 ?_
    refine lv_topi (fun z26_401 ez26_401 => ?_)
    have r26_402 : rg z26_401 (-2147483648) 2147483647 := rg_shr (k := 0) ez26_401 (by decide) (rg_any v0) (by decide)
    refine lv_i2b hx hb dX9_put_27 rfl ?_
    refine lv_topi (fun z27_401 ez27_401 => ?_)
    have r27_402 : rg z27_401 (-128) 127 := rg_i2b ez27_401
    have hi28_401 : vp_in z35_301 2000 := (in_of (show 0 ≤ z35_301.toInt ∧ z35_301.toInt < 2000 by have q0 := r35_302.1; have q1 := (eq_add ez35_301 r35_202 (show rg (1 : Int32) 1 1 from rg_l (by decide)) (by decide)); have q2 := (eq_add ez35_201 r35_102 (show rg (1 : Int32) 1 1 from rg_l (by decide)) (by decide)); have q3 := (eq_add ez35_101 h_x_t0_1 (show rg (1 : Int32) 1 1 from rg_l (by decide)) (by decide)); have q4 := r5_3.1; have q5 := r5_3.2; have q6 := FF.out hp2_5; have q7 := (show (1 : Int32).toInt = 1 from by decide); have q8 := (show (4 : Int32).toInt = 4 from by decide); omega))
    refine va_bast hx hb hK hP hD hS 0 0 rfl rfl hi28_401 dX9_put_28 (fun H locs hP hD hS => ?_)
    have hP : va_P D vwCl [(t0r, .inl (ct 0, 2000, .inl (upd f28_302 z35_301.toNatClampNeg (vp_nar .byte z27_401)))), (t0, .inr (9, [.ref t0r, .int z35_301]))] _ := hP
    have hD : va_D A [(t0r, .inl (ct 0, 2000, .inl (upd f28_302 z35_301.toNatClampNeg (vp_nar .byte z27_401)))), (t0, .inr (9, [.ref t0r, .int z35_301]))] := hD
    obtain ⟨f28_402, ef28_402⟩ : ∃ z, z = (upd f28_302 z35_301.toNatClampNeg (vp_nar .byte z27_401)) := ⟨_, rfl⟩
    rw [← ef28_402] at hP hD
    have hc28_403 : Rg f28_402 2000 (-128) 127 := Rg_upd ef28_402 hc28_303 (rg_narB z27_401)
    refine lv_aload_n hx hb dX9_put_29 rfl (lv_at hl 1 rfl) ?_
    refine lv_dup hx hb dX9_put_30 rfl ?_
    refine va_get (D := D) (ci := 9) (v := .int z35_301) (C := RX9) (T := TX9) (N := 2) hx hb (htX9 hn) (fun _ h => h) hown hK hP 1 rfl rfl 1 (by decide) (hn.get mw_43 rfl) (fun _ h9 => h9) rfl dX9_put_31 ?_
    refine lv_iconst (v := 1) hx hb dX9_put_34 (by decide) ?_
    refine lv_iadd hx hb dX9_put_35 ?_
    refine lv_topi (fun z35_401 ez35_401 => ?_)
    have r35_402 : rg z35_401 4 2004 := rg_add ez35_401 r35_302 (show rg (1 : Int32) 1 1 from rg_l (by decide)) (by decide)
    refine va_put (D := D) (ci := 9) (v := .int z35_401) (ty := .int) (C := RX9) (T := TX9) (N := 2) hx hb (htX9 hn) (fun _ h => h) tyX9 tyX9_ok nmX9 hown hK hP hD hS 1 rfl rfl 1 (by decide) (hn.get mw_43 rfl) (fun _ h9 => h9) rfl (by decide +kernel) rfl rfl (Nat.le_of_ble_eq_true rfl) dX9_put_36 (fun H locs hP hD hS => ?_)
    have hP : va_P D vwCl [(t0r, .inl (ct 0, 2000, .inl f28_402)), (t0, .inr (9, [.ref t0r, .int z35_401]))] _ := hP
    have hD : va_D A [(t0r, .inl (ct 0, 2000, .inl f28_402)), (t0, .inr (9, [.ref t0r, .int z35_401]))] := hD
    refine lv_iinc (v := (-8)) (lv' := [(2, .int (-8)), (0, .ref t0), (1, .int v0)]) hx hb dX9_put_39 hl (k := 0) rfl (by decide) (by decide) rfl (fun ls hl => ?_)
    refine lv_goto (tgt := 12) hx hb dX9_put_42 (by decide) ?_
    refine lv_iload_n hx hb dX9_put_12 rfl (lv_at hl 0 rfl) ?_
    refine lv_if_lt (tgt := 45) hx hb dX9_put_13 (by decide) (fun c13_501 => ?_) (fun c13_501 => absurd (by decide) c13_501)
    exact endq_v hQ hx hb hr hlocks dX9_put_45 (z35_401, f28_402) ⟨(rg_w r35_402 (by decide)), hc28_403, (show x_t0_1.toInt + 0 ≤ z35_401.toInt ∧ z35_401.toInt ≤ x_t0_1.toInt + 4 by have q0 := (eq_add ez35_401 r35_302 (show rg (1 : Int32) 1 1 from rg_l (by decide)) (by decide)); have q1 := (eq_add ez35_301 r35_202 (show rg (1 : Int32) 1 1 from rg_l (by decide)) (by decide)); have q2 := (eq_add ez35_201 r35_102 (show rg (1 : Int32) 1 1 from rg_l (by decide)) (by decide)); have q3 := (eq_add ez35_101 h_x_t0_1 (show rg (1 : Int32) 1 1 from rg_l (by decide)) (by decide)); have q4 := (show (1 : Int32).toInt = 1 from by decide); omega), (show x_t0_1.toInt ≤ 1996 → z35_401.toInt = x_t0_1.toInt + 4 by have q0 := (eq_add ez35_401 r35_302 (show rg (1 : Int32) 1 1 from rg_l (by decide)) (by decide)); have q1 := (eq_add ez35_301 r35_202 (show rg (1 : Int32) 1 1 from rg_l (by decide)) (by decide)); have q2 := (eq_add ez35_201 r35_102 (show rg (1 : Int32) 1 1 from rg_l (by decide)) (by decide)); have q3 := (eq_add ez35_101 h_x_t0_1 (show rg (1 : Int32) 1 1 from rg_l (by decide)) (by decide)); have q4 := (show (1 : Int32).toInt = 1 from by decide); omega), (fun hc9 => (PT4.of ef28_102 ef28_202 ef28_302 ef28_402 (show 0 ≤ x_t0_1.toInt by have q0 := h_x_t0_1.1; omega) (show x_t0_1.toInt = x_t0_1.toInt by omega) (show z35_101.toInt = x_t0_1.toInt + 1 by have q0 := (eq_add ez35_101 h_x_t0_1 (show rg (1 : Int32) 1 1 from rg_l (by decide)) (by decide)); have q1 := (show (1 : Int32).toInt = 1 from by decide); omega) (show z35_201.toInt = x_t0_1.toInt + 2 by have q0 := (eq_add ez35_201 r35_102 (show rg (1 : Int32) 1 1 from rg_l (by decide)) (by decide)); have q1 := (eq_add ez35_101 h_x_t0_1 (show rg (1 : Int32) 1 1 from rg_l (by decide)) (by decide)); have q2 := (show (1 : Int32).toInt = 1 from by decide); omega) (show z35_301.toInt = x_t0_1.toInt + 3 by have q0 := (eq_add ez35_301 r35_202 (show rg (1 : Int32) 1 1 from rg_l (by decide)) (by decide)); have q1 := (eq_add ez35_201 r35_102 (show rg (1 : Int32) 1 1 from rg_l (by decide)) (by decide)); have q2 := (eq_add ez35_101 h_x_t0_1 (show rg (1 : Int32) 1 1 from rg_l (by decide)) (by decide)); have q3 := (show (1 : Int32).toInt = 1 from by decide); omega) ((nar_mod z27_101).trans ((i2b_mod ez27_101).trans (show z26_101.toInt % 256 = v0.toInt / 16777216 % 256 by have q0 := (rg_any v0).1; have q1 := (rg_any v0).2; have q2 := r26_102.1; have q3 := r26_102.2; have q4 := (eq_shr (c := 16777216) (k := 24) ez26_101 (by decide) (by decide)); have q5 := (show (1 : Int32).toInt = 1 from by decide); omega))) ((nar_mod z27_201).trans ((i2b_mod ez27_201).trans (show z26_201.toInt % 256 = v0.toInt / 65536 % 256 by have q0 := (eq_shr (c := 65536) (k := 16) ez26_201 (by decide) (by decide)); omega))) ((nar_mod z27_301).trans ((i2b_mod ez27_301).trans (show z26_301.toInt % 256 = v0.toInt / 256 % 256 by have q0 := (eq_shr (c := 256) (k := 8) ez26_301 (by decide) (by decide)); omega))) ((nar_mod z27_401).trans ((i2b_mod ez27_401).trans (show z26_401.toInt % 256 = v0.toInt % 256 by have q0 := (eq_shr (c := 1) (k := 0) ez26_401 (by decide) (by decide)); omega)))))⟩ hP hD hS [1, 0] rfl (by decide) rfl (Nat.le_of_ble_eq_true rfl) (Nat.le_of_ble_eq_true rfl)
  · have t5_2 := FF.mk (i_eq c5_1)
    have r5_3 : rg r2_1 0 0 := rg_eqA t5_2 hp2_4 (show rg (0 : Int32) 0 0 from rg_l (by decide)) (by decide)
    exact endq_v hQ hx hb hr hlocks dX9_put_8 (x_t0_1, g_t0r) ⟨(rg_w h_x_t0_1 (by decide)), h_g_t0r, (show x_t0_1.toInt + 0 ≤ x_t0_1.toInt ∧ x_t0_1.toInt ≤ x_t0_1.toInt + 4 by omega), (show x_t0_1.toInt ≤ 1996 → x_t0_1.toInt = x_t0_1.toInt + 4 by have q0 := r5_3.2; have q1 := FF.out hp2_6; have q2 := (show (4 : Int32).toInt = 4 from by decide); omega), (fun hc => absurd hc (show ¬ (x_t0_1.toInt ≤ 1996) by have q0 := r5_3.2; have q1 := FF.out hp2_6; have q2 := (show (4 : Int32).toInt = 4 from by decide); omega))⟩ hP hD hS [1, 0] rfl (by decide) rfl (Nat.le_of_ble_eq_true rfl) (Nat.le_of_ble_eq_true rfl)
set_option maxHeartbeats 2000000 in
theorem c_X11_feed_w (l : Launch) (D : va_G) (ct : Nat → ClassId) (ff : Nat) (v0 : Int32) (v1 : Int32) (v2 : Int32) (v3 : Int32) (v4 : Int32) (t0 : Nat) (k0 : Nat) (m0 : Nat) (o0 : Nat) (f0 : Nat) (f1 : Nat) (p0 : Nat) (p1 : Nat) (x_ff_8 : Int32) (rd : Nat) (cd : Nat) (tl : Nat) (in0 : Nat) (in1 : Nat) (t0r : Nat) (x_t0_1 : Int32) (g_t0r : Nat → Int32) (h_x_ff_8 : rg x_ff_8 0 1) (h_x_t0_1 : rg x_t0_1 0 2000) (h_g_t0r : Rg g_t0r 2000 (-128) 127) : KI (S := Int32 × (Nat → Int32)) l yX11_feed cX11_feed 6 (some .int) 3 63 D ct [.ref ff, .int v0, .int v1, .int v2, .int v3, .int v4] [(ff, .inr (11, [.ref t0, .ref k0, .ref m0, .ref o0, .ref f0, .ref f1, .ref p0, .ref p1, .int x_ff_8, .ref rd, .ref cd, .ref tl, .ref in0, .ref in1])), (t0, .inr (9, [.ref t0r, .int x_t0_1])), (t0r, .inl (ct 0, 2000, .inl g_t0r))] 0 0 (fun (r : Int32) (u : Int32 × (Nat → Int32)) => match u with | (y_t0_1, k_t0r) => rg r (-1) 2004 ∧ rg y_t0_1 0 2004 ∧ Rg k_t0r 2000 (-128) 127 ∧ (x_t0_1.toInt + 0 ≤ y_t0_1.toInt ∧ y_t0_1.toInt ≤ x_t0_1.toInt + 20) ∧ (x_t0_1.toInt ≤ 1980 → r.toInt = x_t0_1.toInt + 20 ∧ y_t0_1.toInt = x_t0_1.toInt + 20) ∧ (1980 < x_t0_1.toInt → r.toInt = -1 ∧ y_t0_1.toInt = x_t0_1.toInt) ∧ (x_t0_1.toInt ≤ 1980 → PT20 g_t0r k_t0r x_t0_1.toInt v0.toInt v1.toInt v2.toInt v3.toInt v4.toInt) ∧ (1980 < x_t0_1.toInt → EQF g_t0r k_t0r)) (fun (u : Int32 × (Nat → Int32)) => match u with | (y_t0_1, k_t0r) => [(ff, .inr (11, [.ref t0, .ref k0, .ref m0, .ref o0, .ref f0, .ref f1, .ref p0, .ref p1, .int x_ff_8, .ref rd, .ref cd, .ref tl, .ref in0, .ref in1])), (t0, .inr (9, [.ref t0r, .int y_t0_1])), (t0r, .inl (ct 0, 2000, .inl k_t0r))]) := by
  refine KIq_of (by decide) (Nat.le_of_ble_eq_true rfl) (fun p e s m below meth c A Q C0 hA H locs hS hP hD hQ ls hl => ?_)
  obtain ⟨hx, hb, hr, hown, hin, hml, hlocks, hn, hK, hZ, hSK⟩ := C0
  have hl : lv_has ls 6 [(0, .ref ff), (1, .int v0), (2, .int v1), (3, .int v2), (4, .int v3), (5, .int v4)] := hl
  refine lv_aload_n hx hb dX11_feed_0 rfl (lv_at hl 0 rfl) ?_
  refine va_get (D := D) (ci := 11) (v := .ref t0) (C := RX11) (T := TX11) (N := 14) hx hb (htX11 hn) (fun _ h => h) hown hK hP 0 rfl rfl 0 (by decide) (hn.get mw_381 rfl) (fun _ h9 => h9) rfl dX11_feed_1 ?_
  refine lv_bipush (v := 20) hx hb dX11_feed_4 (by decide) ?_
  refine go_i (k1 := 0) (n1 := 0) (wr := [(ff, .inr (11, [.ref t0, .ref k0, .ref m0, .ref o0, .ref f0, .ref f1, .ref p0, .ref p1, .int x_ff_8, .ref rd, .ref cd, .ref tl, .ref in0, .ref in1])), (t0r, .inl (ct 0, 2000, .inl g_t0r))]) [1] [0, 2] (rn_VN (As := [.int 20]) (rest := []) (c_X9_hasRoom l D ct t0 (20 : Int32) t0r x_t0_1 (rg_w (show rg (20 : Int32) 20 20 from rg_l (by decide)) (by decide)) h_x_t0_1 _) (cn_of (n := 1) hn mw_431 mw_2 mw_428 mhX9_hasRoom ⟨(Nat.le_of_ble_eq_true rfl), (Nat.le_of_ble_eq_true rfl)⟩) hx hb hml hown hn hK hSK hZ hS mw_430 mw_s0 (ci := 9) (q0 := 0) rfl rfl rfl rfl hl.1 (Nat.le_of_ble_eq_true rfl) dX11_feed_6 ⟨(Nat.le_of_ble_eq_true rfl), (Nat.le_of_ble_eq_true rfl)⟩) hP hD hS hA rfl rfl (by decide) (by decide) (by decide) (Nat.le_of_ble_eq_true rfl) (Nat.le_of_ble_eq_true rfl) (fun r6_1 u6_2 H locs hp6_3 hP hD hS => ?_)
  obtain ⟨hp6_4, hp6_5, hp6_6⟩ := hp6_3
  have hp6_4 : rg r6_1 0 1 := hp6_4
  replace hp6_5 : FF (r6_1.toInt = 1 → x_t0_1.toInt + (20 : Int32).toInt ≤ 2000) := hp6_5
  replace hp6_6 : FF (x_t0_1.toInt + (20 : Int32).toInt ≤ 2000 → r6_1.toInt = 1) := hp6_6
  have hP : va_P D vwCl [(ff, .inr (11, [.ref t0, .ref k0, .ref m0, .ref o0, .ref f0, .ref f1, .ref p0, .ref p1, .int x_ff_8, .ref rd, .ref cd, .ref tl, .ref in0, .ref in1])), (t0r, .inl (ct 0, 2000, .inl g_t0r)), (t0, .inr (9, [.ref t0r, .int x_t0_1]))] _ := hP
  have hD : va_D A [(ff, .inr (11, [.ref t0, .ref k0, .ref m0, .ref o0, .ref f0, .ref f1, .ref p0, .ref p1, .int x_ff_8, .ref rd, .ref cd, .ref tl, .ref in0, .ref in1])), (t0r, .inl (ct 0, 2000, .inl g_t0r)), (t0, .inr (9, [.ref t0r, .int x_t0_1]))] := hD
  refine lv_if_ne (tgt := 14) hx hb dX11_feed_9 (by decide) (fun c9_1 => ?_) (fun c9_1 => ?_)
  · have t9_2 := FF.mk (i_ne c9_1)
    have r9_3 : rg r6_1 1 1 := rg_neAl t9_2 hp6_4 (show rg (0 : Int32) 0 0 from rg_l (by decide)) (by decide)
    refine lv_aload_n hx hb dX11_feed_14 rfl (lv_at hl 0 rfl) ?_
    refine va_get (D := D) (ci := 11) (v := .ref t0) (C := RX11) (T := TX11) (N := 14) hx hb (htX11 hn) (fun _ h => h) hown hK hP 0 rfl rfl 0 (by decide) (hn.get mw_381 rfl) (fun _ h9 => h9) rfl dX11_feed_15 ?_
    refine lv_iload_n hx hb dX11_feed_18 rfl (lv_at hl 1 rfl) ?_
    refine go_v (k1 := 0) (n1 := 0) (wr := [(ff, .inr (11, [.ref t0, .ref k0, .ref m0, .ref o0, .ref f0, .ref f1, .ref p0, .ref p1, .int x_ff_8, .ref rd, .ref cd, .ref tl, .ref in0, .ref in1]))]) [2, 1] [0] (rn_VN (As := [.int v0]) (rest := []) (c_X9_put_w l D ct t0 v0 t0r x_t0_1 g_t0r h_x_t0_1 h_g_t0r _) (cn_of (n := 1) hn mw_435 mw_2 mw_432 mhX9_put ⟨(Nat.le_of_ble_eq_true rfl), (Nat.le_of_ble_eq_true rfl)⟩) hx hb hml hown hn hK hSK hZ hS mw_434 mw_s1 (ci := 9) (q0 := 0) rfl rfl rfl rfl hl.1 (Nat.le_of_ble_eq_true rfl) dX11_feed_19 ⟨(Nat.le_of_ble_eq_true rfl), (Nat.le_of_ble_eq_true rfl)⟩) hP hD hS hA rfl rfl (by decide) (by decide) (by decide) (Nat.le_of_ble_eq_true rfl) (Nat.le_of_ble_eq_true rfl) (fun u19_2 H locs hp19_3 hP hD hS => ?_)
    obtain ⟨y_t0_119_4, k_t0r19_5⟩ := u19_2
    obtain ⟨hp19_6, hp19_7, hp19_8, hp19_9, hp19_10⟩ := hp19_3
    have hp19_6 : rg y_t0_119_4 0 2004 := hp19_6
    replace hp19_8 : FF (x_t0_1.toInt + 0 ≤ y_t0_119_4.toInt ∧ y_t0_119_4.toInt ≤ x_t0_1.toInt + 4) := hp19_8
    replace hp19_9 : FF (x_t0_1.toInt ≤ 1996 → y_t0_119_4.toInt = x_t0_1.toInt + 4) := hp19_9
    have hp19_10 : x_t0_1.toInt ≤ 1996 → PT4 g_t0r k_t0r19_5 x_t0_1.toInt v0.toInt := hp19_10
    have hP : va_P D vwCl [(ff, .inr (11, [.ref t0, .ref k0, .ref m0, .ref o0, .ref f0, .ref f1, .ref p0, .ref p1, .int x_ff_8, .ref rd, .ref cd, .ref tl, .ref in0, .ref in1])), (t0, .inr (9, [.ref t0r, .int y_t0_119_4])), (t0r, .inl (ct 0, 2000, .inl k_t0r19_5))] _ := hP
    have hD : va_D A [(ff, .inr (11, [.ref t0, .ref k0, .ref m0, .ref o0, .ref f0, .ref f1, .ref p0, .ref p1, .int x_ff_8, .ref rd, .ref cd, .ref tl, .ref in0, .ref in1])), (t0, .inr (9, [.ref t0r, .int y_t0_119_4])), (t0r, .inl (ct 0, 2000, .inl k_t0r19_5))] := hD
    refine lv_aload_n hx hb dX11_feed_22 rfl (lv_at hl 0 rfl) ?_
    refine va_get (D := D) (ci := 11) (v := .ref t0) (C := RX11) (T := TX11) (N := 14) hx hb (htX11 hn) (fun _ h => h) hown hK hP 0 rfl rfl 0 (by decide) (hn.get mw_381 rfl) (fun _ h9 => h9) rfl dX11_feed_23 ?_
    refine lv_iload_n hx hb dX11_feed_26 rfl (lv_at hl 2 rfl) ?_
    refine go_v (k1 := 0) (n1 := 0) (wr := [(ff, .inr (11, [.ref t0, .ref k0, .ref m0, .ref o0, .ref f0, .ref f1, .ref p0, .ref p1, .int x_ff_8, .ref rd, .ref cd, .ref tl, .ref in0, .ref in1]))]) [1, 2] [0] (rn_VN (As := [.int v1]) (rest := []) (c_X9_put_w l D ct t0 v1 t0r y_t0_119_4 k_t0r19_5 (rg_of (show 0 ≤ y_t0_119_4.toInt ∧ y_t0_119_4.toInt ≤ 2000 by have q0 := h_x_t0_1.1; have q1 := r9_3.1; have q2 := r9_3.2; have q3 := FF.out hp6_5; have q4 := FF.out hp19_8; have q5 := FF.out hp19_9; have q6 := (show (20 : Int32).toInt = 20 from by decide); omega)) hp19_7 _) (cn_of (n := 1) hn mw_435 mw_2 mw_432 mhX9_put ⟨(Nat.le_of_ble_eq_true rfl), (Nat.le_of_ble_eq_true rfl)⟩) hx hb hml hown hn hK hSK hZ hS mw_434 mw_s1 (ci := 9) (q0 := 0) rfl rfl rfl rfl hl.1 (Nat.le_of_ble_eq_true rfl) dX11_feed_27 ⟨(Nat.le_of_ble_eq_true rfl), (Nat.le_of_ble_eq_true rfl)⟩) hP hD hS hA rfl rfl (by decide) (by decide) (by decide) (Nat.le_of_ble_eq_true rfl) (Nat.le_of_ble_eq_true rfl) (fun u27_2 H locs hp27_3 hP hD hS => ?_)
    obtain ⟨y_t0_127_4, k_t0r27_5⟩ := u27_2
    obtain ⟨hp27_6, hp27_7, hp27_8, hp27_9, hp27_10⟩ := hp27_3
    have hp27_6 : rg y_t0_127_4 0 2004 := hp27_6
    replace hp27_8 : FF (y_t0_119_4.toInt + 0 ≤ y_t0_127_4.toInt ∧ y_t0_127_4.toInt ≤ y_t0_119_4.toInt + 4) := hp27_8
    replace hp27_9 : FF (y_t0_119_4.toInt ≤ 1996 → y_t0_127_4.toInt = y_t0_119_4.toInt + 4) := hp27_9
    have hp27_10 : y_t0_119_4.toInt ≤ 1996 → PT4 k_t0r19_5 k_t0r27_5 y_t0_119_4.toInt v1.toInt := hp27_10
    have hP : va_P D vwCl [(ff, .inr (11, [.ref t0, .ref k0, .ref m0, .ref o0, .ref f0, .ref f1, .ref p0, .ref p1, .int x_ff_8, .ref rd, .ref cd, .ref tl, .ref in0, .ref in1])), (t0, .inr (9, [.ref t0r, .int y_t0_127_4])), (t0r, .inl (ct 0, 2000, .inl k_t0r27_5))] _ := hP
    have hD : va_D A [(ff, .inr (11, [.ref t0, .ref k0, .ref m0, .ref o0, .ref f0, .ref f1, .ref p0, .ref p1, .int x_ff_8, .ref rd, .ref cd, .ref tl, .ref in0, .ref in1])), (t0, .inr (9, [.ref t0r, .int y_t0_127_4])), (t0r, .inl (ct 0, 2000, .inl k_t0r27_5))] := hD
    refine lv_aload_n hx hb dX11_feed_30 rfl (lv_at hl 0 rfl) ?_
    refine va_get (D := D) (ci := 11) (v := .ref t0) (C := RX11) (T := TX11) (N := 14) hx hb (htX11 hn) (fun _ h => h) hown hK hP 0 rfl rfl 0 (by decide) (hn.get mw_381 rfl) (fun _ h9 => h9) rfl dX11_feed_31 ?_
    refine lv_iload_n hx hb dX11_feed_34 rfl (lv_at hl 3 rfl) ?_
    refine go_v (k1 := 0) (n1 := 0) (wr := [(ff, .inr (11, [.ref t0, .ref k0, .ref m0, .ref o0, .ref f0, .ref f1, .ref p0, .ref p1, .int x_ff_8, .ref rd, .ref cd, .ref tl, .ref in0, .ref in1]))]) [1, 2] [0] (rn_VN (As := [.int v2]) (rest := []) (c_X9_put_w l D ct t0 v2 t0r y_t0_127_4 k_t0r27_5 (rg_of (show 0 ≤ y_t0_127_4.toInt ∧ y_t0_127_4.toInt ≤ 2000 by have q0 := h_x_t0_1.1; have q1 := r9_3.1; have q2 := r9_3.2; have q3 := FF.out hp6_5; have q4 := FF.out hp19_8; have q5 := FF.out hp19_9; have q6 := FF.out hp27_8; have q7 := FF.out hp27_9; have q8 := (show (20 : Int32).toInt = 20 from by decide); omega)) hp27_7 _) (cn_of (n := 1) hn mw_435 mw_2 mw_432 mhX9_put ⟨(Nat.le_of_ble_eq_true rfl), (Nat.le_of_ble_eq_true rfl)⟩) hx hb hml hown hn hK hSK hZ hS mw_434 mw_s1 (ci := 9) (q0 := 0) rfl rfl rfl rfl hl.1 (Nat.le_of_ble_eq_true rfl) dX11_feed_35 ⟨(Nat.le_of_ble_eq_true rfl), (Nat.le_of_ble_eq_true rfl)⟩) hP hD hS hA rfl rfl (by decide) (by decide) (by decide) (Nat.le_of_ble_eq_true rfl) (Nat.le_of_ble_eq_true rfl) (fun u35_2 H locs hp35_3 hP hD hS => ?_)
    obtain ⟨y_t0_135_4, k_t0r35_5⟩ := u35_2
    obtain ⟨hp35_6, hp35_7, hp35_8, hp35_9, hp35_10⟩ := hp35_3
    have hp35_6 : rg y_t0_135_4 0 2004 := hp35_6
    replace hp35_8 : FF (y_t0_127_4.toInt + 0 ≤ y_t0_135_4.toInt ∧ y_t0_135_4.toInt ≤ y_t0_127_4.toInt + 4) := hp35_8
    replace hp35_9 : FF (y_t0_127_4.toInt ≤ 1996 → y_t0_135_4.toInt = y_t0_127_4.toInt + 4) := hp35_9
    have hp35_10 : y_t0_127_4.toInt ≤ 1996 → PT4 k_t0r27_5 k_t0r35_5 y_t0_127_4.toInt v2.toInt := hp35_10
    have hP : va_P D vwCl [(ff, .inr (11, [.ref t0, .ref k0, .ref m0, .ref o0, .ref f0, .ref f1, .ref p0, .ref p1, .int x_ff_8, .ref rd, .ref cd, .ref tl, .ref in0, .ref in1])), (t0, .inr (9, [.ref t0r, .int y_t0_135_4])), (t0r, .inl (ct 0, 2000, .inl k_t0r35_5))] _ := hP
    have hD : va_D A [(ff, .inr (11, [.ref t0, .ref k0, .ref m0, .ref o0, .ref f0, .ref f1, .ref p0, .ref p1, .int x_ff_8, .ref rd, .ref cd, .ref tl, .ref in0, .ref in1])), (t0, .inr (9, [.ref t0r, .int y_t0_135_4])), (t0r, .inl (ct 0, 2000, .inl k_t0r35_5))] := hD
    refine lv_aload_n hx hb dX11_feed_38 rfl (lv_at hl 0 rfl) ?_
    refine va_get (D := D) (ci := 11) (v := .ref t0) (C := RX11) (T := TX11) (N := 14) hx hb (htX11 hn) (fun _ h => h) hown hK hP 0 rfl rfl 0 (by decide) (hn.get mw_381 rfl) (fun _ h9 => h9) rfl dX11_feed_39 ?_
    refine lv_iload hx hb dX11_feed_42 (lv_at hl 4 rfl) ?_
    refine go_v (k1 := 0) (n1 := 0) (wr := [(ff, .inr (11, [.ref t0, .ref k0, .ref m0, .ref o0, .ref f0, .ref f1, .ref p0, .ref p1, .int x_ff_8, .ref rd, .ref cd, .ref tl, .ref in0, .ref in1]))]) [1, 2] [0] (rn_VN (As := [.int v3]) (rest := []) (c_X9_put_w l D ct t0 v3 t0r y_t0_135_4 k_t0r35_5 (rg_of (show 0 ≤ y_t0_135_4.toInt ∧ y_t0_135_4.toInt ≤ 2000 by have q0 := h_x_t0_1.1; have q1 := r9_3.1; have q2 := r9_3.2; have q3 := FF.out hp6_5; have q4 := FF.out hp19_8; have q5 := FF.out hp19_9; have q6 := FF.out hp27_8; have q7 := FF.out hp27_9; have q8 := FF.out hp35_8; have q9 := FF.out hp35_9; have q10 := (show (20 : Int32).toInt = 20 from by decide); omega)) hp35_7 _) (cn_of (n := 1) hn mw_435 mw_2 mw_432 mhX9_put ⟨(Nat.le_of_ble_eq_true rfl), (Nat.le_of_ble_eq_true rfl)⟩) hx hb hml hown hn hK hSK hZ hS mw_434 mw_s1 (ci := 9) (q0 := 0) rfl rfl rfl rfl hl.1 (Nat.le_of_ble_eq_true rfl) dX11_feed_44 ⟨(Nat.le_of_ble_eq_true rfl), (Nat.le_of_ble_eq_true rfl)⟩) hP hD hS hA rfl rfl (by decide) (by decide) (by decide) (Nat.le_of_ble_eq_true rfl) (Nat.le_of_ble_eq_true rfl) (fun u44_2 H locs hp44_3 hP hD hS => ?_)
    obtain ⟨y_t0_144_4, k_t0r44_5⟩ := u44_2
    obtain ⟨hp44_6, hp44_7, hp44_8, hp44_9, hp44_10⟩ := hp44_3
    have hp44_6 : rg y_t0_144_4 0 2004 := hp44_6
    replace hp44_8 : FF (y_t0_135_4.toInt + 0 ≤ y_t0_144_4.toInt ∧ y_t0_144_4.toInt ≤ y_t0_135_4.toInt + 4) := hp44_8
    replace hp44_9 : FF (y_t0_135_4.toInt ≤ 1996 → y_t0_144_4.toInt = y_t0_135_4.toInt + 4) := hp44_9
    have hp44_10 : y_t0_135_4.toInt ≤ 1996 → PT4 k_t0r35_5 k_t0r44_5 y_t0_135_4.toInt v3.toInt := hp44_10
    have hP : va_P D vwCl [(ff, .inr (11, [.ref t0, .ref k0, .ref m0, .ref o0, .ref f0, .ref f1, .ref p0, .ref p1, .int x_ff_8, .ref rd, .ref cd, .ref tl, .ref in0, .ref in1])), (t0, .inr (9, [.ref t0r, .int y_t0_144_4])), (t0r, .inl (ct 0, 2000, .inl k_t0r44_5))] _ := hP
    have hD : va_D A [(ff, .inr (11, [.ref t0, .ref k0, .ref m0, .ref o0, .ref f0, .ref f1, .ref p0, .ref p1, .int x_ff_8, .ref rd, .ref cd, .ref tl, .ref in0, .ref in1])), (t0, .inr (9, [.ref t0r, .int y_t0_144_4])), (t0r, .inl (ct 0, 2000, .inl k_t0r44_5))] := hD
    refine lv_aload_n hx hb dX11_feed_47 rfl (lv_at hl 0 rfl) ?_
    refine va_get (D := D) (ci := 11) (v := .ref t0) (C := RX11) (T := TX11) (N := 14) hx hb (htX11 hn) (fun _ h => h) hown hK hP 0 rfl rfl 0 (by decide) (hn.get mw_381 rfl) (fun _ h9 => h9) rfl dX11_feed_48 ?_
    refine lv_iload hx hb dX11_feed_51 (lv_at hl 5 rfl) ?_
    refine go_v (k1 := 0) (n1 := 0) (wr := [(ff, .inr (11, [.ref t0, .ref k0, .ref m0, .ref o0, .ref f0, .ref f1, .ref p0, .ref p1, .int x_ff_8, .ref rd, .ref cd, .ref tl, .ref in0, .ref in1]))]) [1, 2] [0] (rn_VN (As := [.int v4]) (rest := []) (c_X9_put_w l D ct t0 v4 t0r y_t0_144_4 k_t0r44_5 (rg_of (show 0 ≤ y_t0_144_4.toInt ∧ y_t0_144_4.toInt ≤ 2000 by have q0 := h_x_t0_1.1; have q1 := r9_3.1; have q2 := r9_3.2; have q3 := FF.out hp6_5; have q4 := FF.out hp19_8; have q5 := FF.out hp19_9; have q6 := FF.out hp27_8; have q7 := FF.out hp27_9; have q8 := FF.out hp35_8; have q9 := FF.out hp35_9; have q10 := FF.out hp44_8; have q11 := FF.out hp44_9; have q12 := (show (20 : Int32).toInt = 20 from by decide); omega)) hp44_7 _) (cn_of (n := 1) hn mw_435 mw_2 mw_432 mhX9_put ⟨(Nat.le_of_ble_eq_true rfl), (Nat.le_of_ble_eq_true rfl)⟩) hx hb hml hown hn hK hSK hZ hS mw_434 mw_s1 (ci := 9) (q0 := 0) rfl rfl rfl rfl hl.1 (Nat.le_of_ble_eq_true rfl) dX11_feed_53 ⟨(Nat.le_of_ble_eq_true rfl), (Nat.le_of_ble_eq_true rfl)⟩) hP hD hS hA rfl rfl (by decide) (by decide) (by decide) (Nat.le_of_ble_eq_true rfl) (Nat.le_of_ble_eq_true rfl) (fun u53_2 H locs hp53_3 hP hD hS => ?_)
    obtain ⟨y_t0_153_4, k_t0r53_5⟩ := u53_2
    obtain ⟨hp53_6, hp53_7, hp53_8, hp53_9, hp53_10⟩ := hp53_3
    have hp53_6 : rg y_t0_153_4 0 2004 := hp53_6
    replace hp53_8 : FF (y_t0_144_4.toInt + 0 ≤ y_t0_153_4.toInt ∧ y_t0_153_4.toInt ≤ y_t0_144_4.toInt + 4) := hp53_8
    replace hp53_9 : FF (y_t0_144_4.toInt ≤ 1996 → y_t0_153_4.toInt = y_t0_144_4.toInt + 4) := hp53_9
    have hp53_10 : y_t0_144_4.toInt ≤ 1996 → PT4 k_t0r44_5 k_t0r53_5 y_t0_144_4.toInt v4.toInt := hp53_10
    have hP : va_P D vwCl [(ff, .inr (11, [.ref t0, .ref k0, .ref m0, .ref o0, .ref f0, .ref f1, .ref p0, .ref p1, .int x_ff_8, .ref rd, .ref cd, .ref tl, .ref in0, .ref in1])), (t0, .inr (9, [.ref t0r, .int y_t0_153_4])), (t0r, .inl (ct 0, 2000, .inl k_t0r53_5))] _ := hP
    have hD : va_D A [(ff, .inr (11, [.ref t0, .ref k0, .ref m0, .ref o0, .ref f0, .ref f1, .ref p0, .ref p1, .int x_ff_8, .ref rd, .ref cd, .ref tl, .ref in0, .ref in1])), (t0, .inr (9, [.ref t0r, .int y_t0_153_4])), (t0r, .inl (ct 0, 2000, .inl k_t0r53_5))] := hD
    refine lv_aload_n hx hb dX11_feed_56 rfl (lv_at hl 0 rfl) ?_
    refine va_get (D := D) (ci := 11) (v := .ref t0) (C := RX11) (T := TX11) (N := 14) hx hb (htX11 hn) (fun _ h => h) hown hK hP 0 rfl rfl 0 (by decide) (hn.get mw_381 rfl) (fun _ h9 => h9) rfl dX11_feed_57 ?_
    refine va_getN (D := D) (ci := 9) (v := .int y_t0_153_4) (C := RX9) (T := TX9) (N := 2) hx hb (htX9 hn) (fun _ h => h) hown hK hP 1 rfl rfl 1 (by decide) (hn.get mw_47 rfl) (fun _ h9 => h9) rfl dX11_feed_60 ?_
    exact endq_i hQ hx hb hr hlocks dX11_feed_63 rfl (y_t0_153_4, k_t0r53_5) ⟨(rg_w hp53_6 (by decide)), hp53_6, hp53_7, (show x_t0_1.toInt + 0 ≤ y_t0_153_4.toInt ∧ y_t0_153_4.toInt ≤ x_t0_1.toInt + 20 by have q0 := hp53_6.2; have q1 := FF.out hp19_8; have q2 := FF.out hp19_9; have q3 := FF.out hp27_8; have q4 := FF.out hp27_9; have q5 := FF.out hp35_8; have q6 := FF.out hp35_9; have q7 := FF.out hp44_8; have q8 := FF.out hp44_9; have q9 := FF.out hp53_8; omega), (show x_t0_1.toInt ≤ 1980 → y_t0_153_4.toInt = x_t0_1.toInt + 20 ∧ y_t0_153_4.toInt = x_t0_1.toInt + 20 by have q0 := FF.out hp19_8; have q1 := FF.out hp19_9; have q2 := FF.out hp27_8; have q3 := FF.out hp27_9; have q4 := FF.out hp35_8; have q5 := FF.out hp35_9; have q6 := FF.out hp44_8; have q7 := FF.out hp44_9; have q8 := FF.out hp53_8; have q9 := FF.out hp53_9; omega), (show 1980 < x_t0_1.toInt → y_t0_153_4.toInt = -1 ∧ y_t0_153_4.toInt = x_t0_1.toInt by have q0 := r9_3.1; have q1 := r9_3.2; have q2 := FF.out hp6_5; have q3 := (show (20 : Int32).toInt = 20 from by decide); omega), (fun hc9 => (PT20.of (hp19_10 (show x_t0_1.toInt ≤ 1996 by have q0 := r9_3.1; have q1 := r9_3.2; have q2 := FF.out hp6_5; have q3 := (show (20 : Int32).toInt = 20 from by decide); omega)) (hp27_10 (show y_t0_119_4.toInt ≤ 1996 by have q0 := r9_3.1; have q1 := r9_3.2; have q2 := FF.out hp6_5; have q3 := FF.out hp19_8; have q4 := (show (20 : Int32).toInt = 20 from by decide); omega)) (hp35_10 (show y_t0_127_4.toInt ≤ 1996 by have q0 := r9_3.1; have q1 := r9_3.2; have q2 := FF.out hp6_5; have q3 := FF.out hp19_8; have q4 := FF.out hp27_8; have q5 := (show (20 : Int32).toInt = 20 from by decide); omega)) (hp44_10 (show y_t0_135_4.toInt ≤ 1996 by have q0 := r9_3.1; have q1 := r9_3.2; have q2 := FF.out hp6_5; have q3 := FF.out hp19_8; have q4 := FF.out hp27_8; have q5 := FF.out hp35_8; have q6 := (show (20 : Int32).toInt = 20 from by decide); omega)) (hp53_10 (show y_t0_144_4.toInt ≤ 1996 by have q0 := r9_3.1; have q1 := r9_3.2; have q2 := FF.out hp6_5; have q3 := FF.out hp19_8; have q4 := FF.out hp27_8; have q5 := FF.out hp35_8; have q6 := FF.out hp44_8; have q7 := (show (20 : Int32).toInt = 20 from by decide); omega)) (show y_t0_119_4.toInt = x_t0_1.toInt + 4 by have q0 := r9_3.1; have q1 := r9_3.2; have q2 := FF.out hp6_5; have q3 := FF.out hp19_8; have q4 := FF.out hp19_9; have q5 := (show (20 : Int32).toInt = 20 from by decide); omega) (show y_t0_127_4.toInt = x_t0_1.toInt + 8 by have q0 := r9_3.1; have q1 := r9_3.2; have q2 := FF.out hp6_5; have q3 := FF.out hp19_8; have q4 := FF.out hp19_9; have q5 := FF.out hp27_8; have q6 := FF.out hp27_9; have q7 := (show (20 : Int32).toInt = 20 from by decide); omega) (show y_t0_135_4.toInt = x_t0_1.toInt + 12 by have q0 := r9_3.1; have q1 := r9_3.2; have q2 := FF.out hp6_5; have q3 := FF.out hp19_8; have q4 := FF.out hp19_9; have q5 := FF.out hp27_8; have q6 := FF.out hp27_9; have q7 := FF.out hp35_8; have q8 := FF.out hp35_9; have q9 := (show (20 : Int32).toInt = 20 from by decide); omega) (show y_t0_144_4.toInt = x_t0_1.toInt + 16 by have q0 := r9_3.1; have q1 := r9_3.2; have q2 := FF.out hp6_5; have q3 := FF.out hp19_8; have q4 := FF.out hp19_9; have q5 := FF.out hp27_8; have q6 := FF.out hp27_9; have q7 := FF.out hp35_8; have q8 := FF.out hp35_9; have q9 := FF.out hp44_8; have q10 := FF.out hp44_9; have q11 := (show (20 : Int32).toInt = 20 from by decide); omega))), (fun hc => absurd hc (show ¬ (1980 < x_t0_1.toInt) by have q0 := r9_3.1; have q1 := r9_3.2; have q2 := FF.out hp6_5; have q3 := (show (20 : Int32).toInt = 20 from by decide); omega))⟩ hP hD hS [0, 1, 2] rfl (by decide) rfl (Nat.le_of_ble_eq_true rfl) (Nat.le_of_ble_eq_true rfl)
  · have t9_2 := FF.mk (i_eq c9_1)
    have r9_3 : rg r6_1 0 0 := rg_eqA t9_2 hp6_4 (show rg (0 : Int32) 0 0 from rg_l (by decide)) (by decide)
    refine lv_iconst (v := (-1)) hx hb dX11_feed_12 (by decide) ?_
    exact endq_i hQ hx hb hr hlocks dX11_feed_13 rfl (x_t0_1, g_t0r) ⟨(rg_w (show rg ((-1) : Int32) (-1) (-1) from rg_l (by decide)) (by decide)), (rg_w h_x_t0_1 (by decide)), h_g_t0r, (show x_t0_1.toInt + 0 ≤ x_t0_1.toInt ∧ x_t0_1.toInt ≤ x_t0_1.toInt + 20 by omega), (show x_t0_1.toInt ≤ 1980 → (-1 : Int32).toInt = x_t0_1.toInt + 20 ∧ x_t0_1.toInt = x_t0_1.toInt + 20 by have q0 := r9_3.2; have q1 := FF.out hp6_6; have q2 := (show (-1 : Int32).toInt = -1 from by decide); have q3 := (show (20 : Int32).toInt = 20 from by decide); omega), (show 1980 < x_t0_1.toInt → (-1 : Int32).toInt = -1 ∧ x_t0_1.toInt = x_t0_1.toInt by have q0 := (show (-1 : Int32).toInt = -1 from by decide); omega), (fun hc => absurd hc (show ¬ (x_t0_1.toInt ≤ 1980) by have q0 := r9_3.2; have q1 := FF.out hp6_6; have q2 := (show (20 : Int32).toInt = 20 from by decide); omega)), (fun hc9 => EQF.rf)⟩ hP hD hS [0, 2, 1] rfl (by decide) rfl (Nat.le_of_ble_eq_true rfl) (Nat.le_of_ble_eq_true rfl)
set_option maxHeartbeats 2000000 in
theorem c_X16_feedOne_w (l : Launch) (D : va_G) (ct : Nat → ClassId) (mm : Nat) (v0 : Int32) (fs_mm : List Value) (utape : Nat) (x_mm_1 : Int32) (g_utape : Nat → Int32) (hlen_mm : fs_mm.length = 78) (hf_mm_0 : fs_mm[0]? = some (.ref utape)) (h_x_mm_1 : rg x_mm_1 0 1996) (hf_mm_1 : fs_mm[1]? = some (.int x_mm_1)) (h_g_utape : Rg g_utape 2000 0 255) : KV (S := List Value × Int32 × (Nat → Int32)) l yX16_feedOne cX16_feedOne 3 none 1 20 D ct [.ref mm, .int v0] [(mm, .inr (16, fs_mm)), (utape, .inl (ct 1, 2000, .inl g_utape))] 0 0 (fun (u : List Value × Int32 × (Nat → Int32)) => match u with | (fs2_mm, y_mm_1, k_utape) => SB fs_mm fs2_mm [1] ∧ rg y_mm_1 4 2000 ∧ fs2_mm[1]? = some (.int y_mm_1) ∧ Rg k_utape 2000 0 255 ∧ (y_mm_1.toInt = x_mm_1.toInt + 4) ∧ (PT4 g_utape k_utape x_mm_1.toInt v0.toInt)) (fun (u : List Value × Int32 × (Nat → Int32)) => match u with | (fs2_mm, y_mm_1, k_utape) => [(mm, .inr (16, fs2_mm)), (utape, .inl (ct 1, 2000, .inl k_utape))]) := by
  refine KVq_of (by decide) (Nat.le_of_ble_eq_true rfl) (fun p e s m below meth c A Q C0 hA H locs hS hP hD hQ ls hl => ?_)
  obtain ⟨hx, hb, hr, hown, hin, hml, hlocks, hn, hK, hZ, hSK⟩ := C0
  have hl : lv_has ls 3 [(0, .ref mm), (1, .int v0)] := hl
  refine lv_bipush (v := 24) hx hb dX16_feedOne_0 (by decide) ?_
  refine lv_istore_n (lv' := [(2, .int 24), (0, .ref mm), (1, .int v0)]) hx hb dX16_feedOne_2 rfl hl (by decide) rfl (fun ls hl => ?_)
  refine lv_iload_n hx hb dX16_feedOne_3 rfl (lv_at hl 0 rfl) ?_
  refine lv_if_lt (tgt := 39) hx hb dX16_feedOne_4 (by decide) (fun c4_101 => absurd c4_101 (by decide)) (fun c4_101 => ?_)
  refine lv_aload_n hx hb dX16_feedOne_7 rfl (lv_at hl 1 rfl) ?_
  refine va_get (D := D) (ci := 16) (v := .ref utape) (C := RX16) (T := TX16) (N := 78) hx hb (htX16 hn) (fun _ h => h) hown hK hP 0 rfl rfl 0 (by decide) (hn.get mw_1539 rfl) (fun _ h9 => h9) hf_mm_0 dX16_feedOne_8 ?_
  refine lv_aload_n hx hb dX16_feedOne_11 rfl (lv_at hl 1 rfl) ?_
  refine va_get (D := D) (ci := 16) (v := .int x_mm_1) (C := RX16) (T := TX16) (N := 78) hx hb (htX16 hn) (fun _ h => h) hown hK hP 0 rfl rfl 1 (by decide) (hn.get mw_1540 rfl) (fun _ h9 => h9) hf_mm_1 dX16_feedOne_12 ?_
  refine lv_iload_n hx hb dX16_feedOne_15 rfl (lv_at hl 2 rfl) ?_
  refine lv_iload_n hx hb dX16_feedOne_16 rfl (lv_at hl 0 rfl) ?_
  refine lv_ishr hx hb dX16_feedOne_17 ?_
  refine lv_topi (fun z17_101 ez17_101 => ?_)
  have r17_102 : rg z17_101 (-128) 127 := rg_shr (k := 24) ez17_101 (by decide) (rg_any v0) (by decide)
  refine lv_sipush (v := 255) hx hb dX16_feedOne_18 (by decide) ?_
  refine lv_iand hx hb dX16_feedOne_21 ?_
  refine lv_topi (fun z21_101 ez21_101 => ?_)
  have r21_102 : rg z21_101 0 255 := rg_andr ez21_101 (show rg (255 : Int32) 255 255 from rg_l (by decide)) (by decide)
  have hi22_101 : vp_in x_mm_1 2000 := (in_rg h_x_mm_1 (by decide))
  refine va_iast hx hb hK hP hD hS 1 1 rfl rfl hi22_101 dX16_feedOne_22 (fun H locs hP hD hS => ?_)
  have hP : va_P D vwCl [(mm, .inr (16, fs_mm)), (utape, .inl (ct 1, 2000, .inl (upd g_utape x_mm_1.toNatClampNeg z21_101)))] _ := hP
  have hD : va_D A [(mm, .inr (16, fs_mm)), (utape, .inl (ct 1, 2000, .inl (upd g_utape x_mm_1.toNatClampNeg z21_101)))] := hD
  obtain ⟨f22_102, ef22_102⟩ : ∃ z, z = (upd g_utape x_mm_1.toNatClampNeg z21_101) := ⟨_, rfl⟩
  rw [← ef22_102] at hP hD
  have hc22_103 : Rg f22_102 2000 0 255 := Rg_upd ef22_102 h_g_utape r21_102
  refine lv_aload_n hx hb dX16_feedOne_23 rfl (lv_at hl 1 rfl) ?_
  refine lv_dup hx hb dX16_feedOne_24 rfl ?_
  refine va_get (D := D) (ci := 16) (v := .int x_mm_1) (C := RX16) (T := TX16) (N := 78) hx hb (htX16 hn) (fun _ h => h) hown hK hP 0 rfl rfl 1 (by decide) (hn.get mw_1540 rfl) (fun _ h9 => h9) hf_mm_1 dX16_feedOne_25 ?_
  refine lv_iconst (v := 1) hx hb dX16_feedOne_28 (by decide) ?_
  refine lv_iadd hx hb dX16_feedOne_29 ?_
  refine lv_topi (fun z29_101 ez29_101 => ?_)
  have r29_102 : rg z29_101 1 1997 := rg_add ez29_101 h_x_mm_1 (show rg (1 : Int32) 1 1 from rg_l (by decide)) (by decide)
  refine va_put (D := D) (ci := 16) (v := .int z29_101) (ty := .int) (C := RX16) (T := TX16) (N := 78) hx hb (htX16 hn) (fun _ h => h) tyX16 tyX16_ok nmX16 hown hK hP hD hS 0 rfl rfl 1 (by decide) (hn.get mw_1540 rfl) (fun _ h9 => h9) rfl (by decide +kernel) rfl rfl (by rw [hlen_mm]; decide) dX16_feedOne_30 (fun H locs hP hD hS => ?_)
  have hP : va_P D vwCl [(mm, .inr (16, (fs_mm.set 1 (.int z29_101)))), (utape, .inl (ct 1, 2000, .inl f22_102))] _ := hP
  have hD : va_D A [(mm, .inr (16, (fs_mm.set 1 (.int z29_101)))), (utape, .inl (ct 1, 2000, .inl f22_102))] := hD
  obtain ⟨m30_101, em30_101⟩ : ∃ z, z = (fs_mm.set 1 (.int z29_101)) := ⟨_, rfl⟩
  rw [← em30_101] at hP hD
  have hsm30_101 : SB fs_mm m30_101 [1] := by rw [em30_101]; exact SB.set (SB.rf _ _) (by decide)
  have hfm30_101_1 : m30_101[1]? = some (.int z29_101) := by rw [em30_101]; exact fs_eq (by rw [hlen_mm]; decide)
  have hP : va_P D vwCl [(mm, .inr (16, m30_101)), (utape, .inl (ct 1, 2000, .inl f22_102))] _ := hP
  have hD : va_D A [(mm, .inr (16, m30_101)), (utape, .inl (ct 1, 2000, .inl f22_102))] := hD
  refine lv_iinc (v := 16) (lv' := [(2, .int 16), (0, .ref mm), (1, .int v0)]) hx hb dX16_feedOne_33 hl (k := 0) rfl (by decide) (by decide) rfl (fun ls hl => ?_)
  refine lv_goto (tgt := 3) hx hb dX16_feedOne_36 (by decide) ?_
  refine lv_iload_n hx hb dX16_feedOne_3 rfl (lv_at hl 0 rfl) ?_
  refine lv_if_lt (tgt := 39) hx hb dX16_feedOne_4 (by decide) (fun c4_201 => absurd c4_201 (by decide)) (fun c4_201 => ?_)
  refine lv_aload_n hx hb dX16_feedOne_7 rfl (lv_at hl 1 rfl) ?_
  refine va_get (D := D) (ci := 16) (v := .ref utape) (C := RX16) (T := TX16) (N := 78) hx hb (htX16 hn) (fun _ h => h) hown hK hP 0 rfl rfl 0 (by decide) (hn.get mw_1539 rfl) (fun _ h9 => h9) (SB.get hsm30_101 (by decide) hf_mm_0) dX16_feedOne_8 ?_
  refine lv_aload_n hx hb dX16_feedOne_11 rfl (lv_at hl 1 rfl) ?_
  refine va_get (D := D) (ci := 16) (v := .int z29_101) (C := RX16) (T := TX16) (N := 78) hx hb (htX16 hn) (fun _ h => h) hown hK hP 0 rfl rfl 1 (by decide) (hn.get mw_1540 rfl) (fun _ h9 => h9) hfm30_101_1 dX16_feedOne_12 ?_
  refine lv_iload_n hx hb dX16_feedOne_15 rfl (lv_at hl 2 rfl) ?_
  refine lv_iload_n hx hb dX16_feedOne_16 rfl (lv_at hl 0 rfl) ?_
  refine lv_ishr hx hb dX16_feedOne_17 ?_
  refine lv_topi (fun z17_201 ez17_201 => ?_)
  have r17_202 : rg z17_201 (-32768) 32767 := rg_shr (k := 16) ez17_201 (by decide) (rg_any v0) (by decide)
  refine lv_sipush (v := 255) hx hb dX16_feedOne_18 (by decide) ?_
  refine lv_iand hx hb dX16_feedOne_21 ?_
  refine lv_topi (fun z21_201 ez21_201 => ?_)
  have r21_202 : rg z21_201 0 255 := rg_andr ez21_201 (show rg (255 : Int32) 255 255 from rg_l (by decide)) (by decide)
  have hi22_201 : vp_in z29_101 2000 := (in_rg r29_102 (by decide))
  refine va_iast hx hb hK hP hD hS 1 1 rfl rfl hi22_201 dX16_feedOne_22 (fun H locs hP hD hS => ?_)
  have hP : va_P D vwCl [(mm, .inr (16, m30_101)), (utape, .inl (ct 1, 2000, .inl (upd f22_102 z29_101.toNatClampNeg z21_201)))] _ := hP
  have hD : va_D A [(mm, .inr (16, m30_101)), (utape, .inl (ct 1, 2000, .inl (upd f22_102 z29_101.toNatClampNeg z21_201)))] := hD
  obtain ⟨f22_202, ef22_202⟩ : ∃ z, z = (upd f22_102 z29_101.toNatClampNeg z21_201) := ⟨_, rfl⟩
  rw [← ef22_202] at hP hD
  have hc22_203 : Rg f22_202 2000 0 255 := Rg_upd ef22_202 hc22_103 r21_202
  refine lv_aload_n hx hb dX16_feedOne_23 rfl (lv_at hl 1 rfl) ?_
  refine lv_dup hx hb dX16_feedOne_24 rfl ?_
  refine va_get (D := D) (ci := 16) (v := .int z29_101) (C := RX16) (T := TX16) (N := 78) hx hb (htX16 hn) (fun _ h => h) hown hK hP 0 rfl rfl 1 (by decide) (hn.get mw_1540 rfl) (fun _ h9 => h9) hfm30_101_1 dX16_feedOne_25 ?_
  refine lv_iconst (v := 1) hx hb dX16_feedOne_28 (by decide) ?_
  refine lv_iadd hx hb dX16_feedOne_29 ?_
  refine lv_topi (fun z29_201 ez29_201 => ?_)
  have r29_202 : rg z29_201 2 1998 := rg_add ez29_201 r29_102 (show rg (1 : Int32) 1 1 from rg_l (by decide)) (by decide)
  refine va_put (D := D) (ci := 16) (v := .int z29_201) (ty := .int) (C := RX16) (T := TX16) (N := 78) hx hb (htX16 hn) (fun _ h => h) tyX16 tyX16_ok nmX16 hown hK hP hD hS 0 rfl rfl 1 (by decide) (hn.get mw_1540 rfl) (fun _ h9 => h9) rfl (by decide +kernel) rfl rfl (by rw [hsm30_101.1, hlen_mm]; decide) dX16_feedOne_30 (fun H locs hP hD hS => ?_)
  have hP : va_P D vwCl [(mm, .inr (16, (m30_101.set 1 (.int z29_201)))), (utape, .inl (ct 1, 2000, .inl f22_202))] _ := hP
  have hD : va_D A [(mm, .inr (16, (m30_101.set 1 (.int z29_201)))), (utape, .inl (ct 1, 2000, .inl f22_202))] := hD
  obtain ⟨m30_201, em30_201⟩ : ∃ z, z = (m30_101.set 1 (.int z29_201)) := ⟨_, rfl⟩
  rw [← em30_201] at hP hD
  have hsm30_201 : SB fs_mm m30_201 [1] := by rw [em30_201]; exact SB.set hsm30_101 (by decide)
  have hfm30_201_1 : m30_201[1]? = some (.int z29_201) := by rw [em30_201]; exact fs_eq (by rw [hsm30_101.1, hlen_mm]; decide)
  have hP : va_P D vwCl [(mm, .inr (16, m30_201)), (utape, .inl (ct 1, 2000, .inl f22_202))] _ := hP
  have hD : va_D A [(mm, .inr (16, m30_201)), (utape, .inl (ct 1, 2000, .inl f22_202))] := hD
  refine lv_iinc (v := 8) (lv' := [(2, .int 8), (0, .ref mm), (1, .int v0)]) hx hb dX16_feedOne_33 hl (k := 0) rfl (by decide) (by decide) rfl (fun ls hl => ?_)
  refine lv_goto (tgt := 3) hx hb dX16_feedOne_36 (by decide) ?_
  refine lv_iload_n hx hb dX16_feedOne_3 rfl (lv_at hl 0 rfl) ?_
  refine lv_if_lt (tgt := 39) hx hb dX16_feedOne_4 (by decide) (fun c4_301 => absurd c4_301 (by decide)) (fun c4_301 => ?_)
  refine lv_aload_n hx hb dX16_feedOne_7 rfl (lv_at hl 1 rfl) ?_
  refine va_get (D := D) (ci := 16) (v := .ref utape) (C := RX16) (T := TX16) (N := 78) hx hb (htX16 hn) (fun _ h => h) hown hK hP 0 rfl rfl 0 (by decide) (hn.get mw_1539 rfl) (fun _ h9 => h9) (SB.get hsm30_201 (by decide) hf_mm_0) dX16_feedOne_8 ?_
  refine lv_aload_n hx hb dX16_feedOne_11 rfl (lv_at hl 1 rfl) ?_
  refine va_get (D := D) (ci := 16) (v := .int z29_201) (C := RX16) (T := TX16) (N := 78) hx hb (htX16 hn) (fun _ h => h) hown hK hP 0 rfl rfl 1 (by decide) (hn.get mw_1540 rfl) (fun _ h9 => h9) hfm30_201_1 dX16_feedOne_12 ?_
  refine lv_iload_n hx hb dX16_feedOne_15 rfl (lv_at hl 2 rfl) ?_
  refine lv_iload_n hx hb dX16_feedOne_16 rfl (lv_at hl 0 rfl) ?_
  refine lv_ishr hx hb dX16_feedOne_17 ?_
  refine lv_topi (fun z17_301 ez17_301 => ?_)
  have r17_302 : rg z17_301 (-8388608) 8388607 := rg_shr (k := 8) ez17_301 (by decide) (rg_any v0) (by decide)
  refine lv_sipush (v := 255) hx hb dX16_feedOne_18 (by decide) ?_
  refine lv_iand hx hb dX16_feedOne_21 ?_
  refine lv_topi (fun z21_301 ez21_301 => ?_)
  have r21_302 : rg z21_301 0 255 := rg_andr ez21_301 (show rg (255 : Int32) 255 255 from rg_l (by decide)) (by decide)
  have hi22_301 : vp_in z29_201 2000 := (in_rg r29_202 (by decide))
  refine va_iast hx hb hK hP hD hS 1 1 rfl rfl hi22_301 dX16_feedOne_22 (fun H locs hP hD hS => ?_)
  have hP : va_P D vwCl [(mm, .inr (16, m30_201)), (utape, .inl (ct 1, 2000, .inl (upd f22_202 z29_201.toNatClampNeg z21_301)))] _ := hP
  have hD : va_D A [(mm, .inr (16, m30_201)), (utape, .inl (ct 1, 2000, .inl (upd f22_202 z29_201.toNatClampNeg z21_301)))] := hD
  obtain ⟨f22_302, ef22_302⟩ : ∃ z, z = (upd f22_202 z29_201.toNatClampNeg z21_301) := ⟨_, rfl⟩
  rw [← ef22_302] at hP hD
  have hc22_303 : Rg f22_302 2000 0 255 := Rg_upd ef22_302 hc22_203 r21_302
  refine lv_aload_n hx hb dX16_feedOne_23 rfl (lv_at hl 1 rfl) ?_
  refine lv_dup hx hb dX16_feedOne_24 rfl ?_
  refine va_get (D := D) (ci := 16) (v := .int z29_201) (C := RX16) (T := TX16) (N := 78) hx hb (htX16 hn) (fun _ h => h) hown hK hP 0 rfl rfl 1 (by decide) (hn.get mw_1540 rfl) (fun _ h9 => h9) hfm30_201_1 dX16_feedOne_25 ?_
  refine lv_iconst (v := 1) hx hb dX16_feedOne_28 (by decide) ?_
  refine lv_iadd hx hb dX16_feedOne_29 ?_
  refine lv_topi (fun z29_301 ez29_301 => ?_)
  have r29_302 : rg z29_301 3 1999 := rg_add ez29_301 r29_202 (show rg (1 : Int32) 1 1 from rg_l (by decide)) (by decide)
  refine va_put (D := D) (ci := 16) (v := .int z29_301) (ty := .int) (C := RX16) (T := TX16) (N := 78) hx hb (htX16 hn) (fun _ h => h) tyX16 tyX16_ok nmX16 hown hK hP hD hS 0 rfl rfl 1 (by decide) (hn.get mw_1540 rfl) (fun _ h9 => h9) rfl (by decide +kernel) rfl rfl (by rw [hsm30_201.1, hlen_mm]; decide) dX16_feedOne_30 (fun H locs hP hD hS => ?_)
  have hP : va_P D vwCl [(mm, .inr (16, (m30_201.set 1 (.int z29_301)))), (utape, .inl (ct 1, 2000, .inl f22_302))] _ := hP
  have hD : va_D A [(mm, .inr (16, (m30_201.set 1 (.int z29_301)))), (utape, .inl (ct 1, 2000, .inl f22_302))] := hD
  obtain ⟨m30_301, em30_301⟩ : ∃ z, z = (m30_201.set 1 (.int z29_301)) := ⟨_, rfl⟩
  rw [← em30_301] at hP hD
  have hsm30_301 : SB fs_mm m30_301 [1] := by rw [em30_301]; exact SB.set hsm30_201 (by decide)
  have hfm30_301_1 : m30_301[1]? = some (.int z29_301) := by rw [em30_301]; exact fs_eq (by rw [hsm30_201.1, hlen_mm]; decide)
  have hP : va_P D vwCl [(mm, .inr (16, m30_301)), (utape, .inl (ct 1, 2000, .inl f22_302))] _ := hP
  have hD : va_D A [(mm, .inr (16, m30_301)), (utape, .inl (ct 1, 2000, .inl f22_302))] := hD
  refine lv_iinc (v := 0) (lv' := [(2, .int 0), (0, .ref mm), (1, .int v0)]) hx hb dX16_feedOne_33 hl (k := 0) rfl (by decide) (by decide) rfl (fun ls hl => ?_)
  refine lv_goto (tgt := 3) hx hb dX16_feedOne_36 (by decide) ?_
  refine lv_iload_n hx hb dX16_feedOne_3 rfl (lv_at hl 0 rfl) ?_
  refine lv_if_lt (tgt := 39) hx hb dX16_feedOne_4 (by decide) (fun c4_401 => absurd c4_401 (by decide)) (fun c4_401 => ?_)
  refine lv_aload_n hx hb dX16_feedOne_7 rfl (lv_at hl 1 rfl) ?_
  refine va_get (D := D) (ci := 16) (v := .ref utape) (C := RX16) (T := TX16) (N := 78) hx hb (htX16 hn) (fun _ h => h) hown hK hP 0 rfl rfl 0 (by decide) (hn.get mw_1539 rfl) (fun _ h9 => h9) (SB.get hsm30_301 (by decide) hf_mm_0) dX16_feedOne_8 ?_
  refine lv_aload_n hx hb dX16_feedOne_11 rfl (lv_at hl 1 rfl) ?_
  refine va_get (D := D) (ci := 16) (v := .int z29_301) (C := RX16) (T := TX16) (N := 78) hx hb (htX16 hn) (fun _ h => h) hown hK hP 0 rfl rfl 1 (by decide) (hn.get mw_1540 rfl) (fun _ h9 => h9) hfm30_301_1 dX16_feedOne_12 ?_
  refine lv_iload_n hx hb dX16_feedOne_15 rfl (lv_at hl 2 rfl) ?_
  refine lv_iload_n hx hb dX16_feedOne_16 rfl (lv_at hl 0 rfl) ?_
  refine lv_ishr hx hb dX16_feedOne_17 ?_
  refine lv_topi (fun z17_401 ez17_401 => ?_)
  have r17_402 : rg z17_401 (-2147483648) 2147483647 := rg_shr (k := 0) ez17_401 (by decide) (rg_any v0) (by decide)
  refine lv_sipush (v := 255) hx hb dX16_feedOne_18 (by decide) ?_
  refine lv_iand hx hb dX16_feedOne_21 ?_
  refine lv_topi (fun z21_401 ez21_401 => ?_)
  have r21_402 : rg z21_401 0 255 := rg_andr ez21_401 (show rg (255 : Int32) 255 255 from rg_l (by decide)) (by decide)
  have hi22_401 : vp_in z29_301 2000 := (in_rg r29_302 (by decide))
  refine va_iast hx hb hK hP hD hS 1 1 rfl rfl hi22_401 dX16_feedOne_22 (fun H locs hP hD hS => ?_)
  have hP : va_P D vwCl [(mm, .inr (16, m30_301)), (utape, .inl (ct 1, 2000, .inl (upd f22_302 z29_301.toNatClampNeg z21_401)))] _ := hP
  have hD : va_D A [(mm, .inr (16, m30_301)), (utape, .inl (ct 1, 2000, .inl (upd f22_302 z29_301.toNatClampNeg z21_401)))] := hD
  obtain ⟨f22_402, ef22_402⟩ : ∃ z, z = (upd f22_302 z29_301.toNatClampNeg z21_401) := ⟨_, rfl⟩
  rw [← ef22_402] at hP hD
  have hc22_403 : Rg f22_402 2000 0 255 := Rg_upd ef22_402 hc22_303 r21_402
  refine lv_aload_n hx hb dX16_feedOne_23 rfl (lv_at hl 1 rfl) ?_
  refine lv_dup hx hb dX16_feedOne_24 rfl ?_
  refine va_get (D := D) (ci := 16) (v := .int z29_301) (C := RX16) (T := TX16) (N := 78) hx hb (htX16 hn) (fun _ h => h) hown hK hP 0 rfl rfl 1 (by decide) (hn.get mw_1540 rfl) (fun _ h9 => h9) hfm30_301_1 dX16_feedOne_25 ?_
  refine lv_iconst (v := 1) hx hb dX16_feedOne_28 (by decide) ?_
  refine lv_iadd hx hb dX16_feedOne_29 ?_
  refine lv_topi (fun z29_401 ez29_401 => ?_)
  have r29_402 : rg z29_401 4 2000 := rg_add ez29_401 r29_302 (show rg (1 : Int32) 1 1 from rg_l (by decide)) (by decide)
  refine va_put (D := D) (ci := 16) (v := .int z29_401) (ty := .int) (C := RX16) (T := TX16) (N := 78) hx hb (htX16 hn) (fun _ h => h) tyX16 tyX16_ok nmX16 hown hK hP hD hS 0 rfl rfl 1 (by decide) (hn.get mw_1540 rfl) (fun _ h9 => h9) rfl (by decide +kernel) rfl rfl (by rw [hsm30_301.1, hlen_mm]; decide) dX16_feedOne_30 (fun H locs hP hD hS => ?_)
  have hP : va_P D vwCl [(mm, .inr (16, (m30_301.set 1 (.int z29_401)))), (utape, .inl (ct 1, 2000, .inl f22_402))] _ := hP
  have hD : va_D A [(mm, .inr (16, (m30_301.set 1 (.int z29_401)))), (utape, .inl (ct 1, 2000, .inl f22_402))] := hD
  obtain ⟨m30_401, em30_401⟩ : ∃ z, z = (m30_301.set 1 (.int z29_401)) := ⟨_, rfl⟩
  rw [← em30_401] at hP hD
  have hsm30_401 : SB fs_mm m30_401 [1] := by rw [em30_401]; exact SB.set hsm30_301 (by decide)
  have hfm30_401_1 : m30_401[1]? = some (.int z29_401) := by rw [em30_401]; exact fs_eq (by rw [hsm30_301.1, hlen_mm]; decide)
  have hP : va_P D vwCl [(mm, .inr (16, m30_401)), (utape, .inl (ct 1, 2000, .inl f22_402))] _ := hP
  have hD : va_D A [(mm, .inr (16, m30_401)), (utape, .inl (ct 1, 2000, .inl f22_402))] := hD
  refine lv_iinc (v := (-8)) (lv' := [(2, .int (-8)), (0, .ref mm), (1, .int v0)]) hx hb dX16_feedOne_33 hl (k := 0) rfl (by decide) (by decide) rfl (fun ls hl => ?_)
  refine lv_goto (tgt := 3) hx hb dX16_feedOne_36 (by decide) ?_
  refine lv_iload_n hx hb dX16_feedOne_3 rfl (lv_at hl 0 rfl) ?_
  refine lv_if_lt (tgt := 39) hx hb dX16_feedOne_4 (by decide) (fun c4_501 => ?_) (fun c4_501 => absurd (by decide) c4_501)
  exact endq_v hQ hx hb hr hlocks dX16_feedOne_39 (m30_401, z29_401, f22_402) ⟨hsm30_401, r29_402, hfm30_401_1, hc22_403, (show z29_401.toInt = x_mm_1.toInt + 4 by have q0 := (eq_add ez29_401 r29_302 (show rg (1 : Int32) 1 1 from rg_l (by decide)) (by decide)); have q1 := (eq_add ez29_301 r29_202 (show rg (1 : Int32) 1 1 from rg_l (by decide)) (by decide)); have q2 := (eq_add ez29_201 r29_102 (show rg (1 : Int32) 1 1 from rg_l (by decide)) (by decide)); have q3 := (eq_add ez29_101 h_x_mm_1 (show rg (1 : Int32) 1 1 from rg_l (by decide)) (by decide)); have q4 := (show (1 : Int32).toInt = 1 from by decide); omega), (PT4.of ef22_102 ef22_202 ef22_302 ef22_402 (show 0 ≤ x_mm_1.toInt by have q0 := h_x_mm_1.1; omega) (show x_mm_1.toInt = x_mm_1.toInt by omega) (show z29_101.toInt = x_mm_1.toInt + 1 by have q0 := (eq_add ez29_101 h_x_mm_1 (show rg (1 : Int32) 1 1 from rg_l (by decide)) (by decide)); have q1 := (show (1 : Int32).toInt = 1 from by decide); omega) (show z29_201.toInt = x_mm_1.toInt + 2 by have q0 := (eq_add ez29_201 r29_102 (show rg (1 : Int32) 1 1 from rg_l (by decide)) (by decide)); have q1 := (eq_add ez29_101 h_x_mm_1 (show rg (1 : Int32) 1 1 from rg_l (by decide)) (by decide)); have q2 := (show (1 : Int32).toInt = 1 from by decide); omega) (show z29_301.toInt = x_mm_1.toInt + 3 by have q0 := (eq_add ez29_301 r29_202 (show rg (1 : Int32) 1 1 from rg_l (by decide)) (by decide)); have q1 := (eq_add ez29_201 r29_102 (show rg (1 : Int32) 1 1 from rg_l (by decide)) (by decide)); have q2 := (eq_add ez29_101 h_x_mm_1 (show rg (1 : Int32) 1 1 from rg_l (by decide)) (by decide)); have q3 := (show (1 : Int32).toInt = 1 from by decide); omega) (show z21_101.toInt % 256 = v0.toInt / 16777216 % 256 by have q0 := (rg_any v0).1; have q1 := (rg_any v0).2; have q2 := r21_102.1; have q3 := r21_102.2; have q4 := (eq_and (c := 256) (k := 8) ez21_101 (by decide) (by decide)); have q5 := r17_102.1; have q6 := r17_102.2; have q7 := (eq_shr (c := 16777216) (k := 24) ez17_101 (by decide) (by decide)); have q8 := (show (1 : Int32).toInt = 1 from by decide); omega) (show z21_201.toInt % 256 = v0.toInt / 65536 % 256 by have q0 := (eq_and (c := 256) (k := 8) ez21_201 (by decide) (by decide)); have q1 := (eq_shr (c := 65536) (k := 16) ez17_201 (by decide) (by decide)); omega) (show z21_301.toInt % 256 = v0.toInt / 256 % 256 by have q0 := (eq_and (c := 256) (k := 8) ez21_301 (by decide) (by decide)); have q1 := (eq_shr (c := 256) (k := 8) ez17_301 (by decide) (by decide)); omega) (show z21_401.toInt % 256 = v0.toInt % 256 by have q0 := (rg_any v0).1; have q1 := (rg_any v0).2; have q2 := r21_402.1; have q3 := r21_402.2; have q4 := (eq_and (c := 256) (k := 8) ez21_401 (by decide) (by decide)); have q5 := r17_402.1; have q6 := r17_402.2; have q7 := (eq_shr (c := 1) (k := 0) ez17_401 (by decide) (by decide)); have q8 := (show (1 : Int32).toInt = 1 from by decide); omega))⟩ hP hD hS [0, 1] rfl (by decide) rfl (Nat.le_of_ble_eq_true rfl) (Nat.le_of_ble_eq_true rfl)
set_option maxHeartbeats 2000000 in
theorem c_X16_feed_w (l : Launch) (D : va_G) (ct : Nat → ClassId) (mm : Nat) (v0 : Int32) (v1 : Int32) (v2 : Int32) (v3 : Int32) (v4 : Int32) (fs_mm : List Value) (utape : Nat) (x_mm_1 : Int32) (g_utape : Nat → Int32) (hlen_mm : fs_mm.length = 78) (hf_mm_0 : fs_mm[0]? = some (.ref utape)) (h_x_mm_1 : rg x_mm_1 0 2000) (hf_mm_1 : fs_mm[1]? = some (.int x_mm_1)) (h_g_utape : Rg g_utape 2000 0 255) : KI (S := List Value × Int32 × (Nat → Int32)) l yX16_feed cX16_feed 6 (some .int) 2 42 D ct [.ref mm, .int v0, .int v1, .int v2, .int v3, .int v4] [(mm, .inr (16, fs_mm)), (utape, .inl (ct 1, 2000, .inl g_utape))] 0 0 (fun (r : Int32) (u : List Value × Int32 × (Nat → Int32)) => match u with | (fs2_mm, y_mm_1, k_utape) => rg r (-1) 2000 ∧ SB fs_mm fs2_mm [1] ∧ rg y_mm_1 0 2000 ∧ fs2_mm[1]? = some (.int y_mm_1) ∧ Rg k_utape 2000 0 255 ∧ (x_mm_1.toInt ≤ 1980 → r.toInt = x_mm_1.toInt + 20 ∧ y_mm_1.toInt = x_mm_1.toInt + 20) ∧ (1980 < x_mm_1.toInt → r.toInt = -1 ∧ y_mm_1.toInt = x_mm_1.toInt) ∧ (x_mm_1.toInt ≤ 1980 → PT20 g_utape k_utape x_mm_1.toInt v0.toInt v1.toInt v2.toInt v3.toInt v4.toInt) ∧ (1980 < x_mm_1.toInt → EQF g_utape k_utape)) (fun (u : List Value × Int32 × (Nat → Int32)) => match u with | (fs2_mm, y_mm_1, k_utape) => [(mm, .inr (16, fs2_mm)), (utape, .inl (ct 1, 2000, .inl k_utape))]) := by
  refine KIq_of (by decide) (Nat.le_of_ble_eq_true rfl) (fun p e s m below meth c A Q C0 hA H locs hS hP hD hQ ls hl => ?_)
  obtain ⟨hx, hb, hr, hown, hin, hml, hlocks, hn, hK, hZ, hSK⟩ := C0
  have hl : lv_has ls 6 [(0, .ref mm), (1, .int v0), (2, .int v1), (3, .int v2), (4, .int v3), (5, .int v4)] := hl
  refine lv_aload_n hx hb dX16_feed_0 rfl (lv_at hl 0 rfl) ?_
  refine va_get (D := D) (ci := 16) (v := .int x_mm_1) (C := RX16) (T := TX16) (N := 78) hx hb (htX16 hn) (fun _ h => h) hown hK hP 0 rfl rfl 1 (by decide) (hn.get mw_1540 rfl) (fun _ h9 => h9) hf_mm_1 dX16_feed_1 ?_
  refine lv_bipush (v := 20) hx hb dX16_feed_4 (by decide) ?_
  refine lv_iadd hx hb dX16_feed_6 ?_
  refine lv_topi (fun z6_1 ez6_1 => ?_)
  have r6_2 : rg z6_1 20 2020 := rg_add ez6_1 h_x_mm_1 (show rg (20 : Int32) 20 20 from rg_l (by decide)) (by decide)
  refine lv_sipush (v := 2000) hx hb dX16_feed_7 (by decide) ?_
  refine lv_icmp_le (tgt := 15) hx hb dX16_feed_10 (by decide) (fun c10_1 => ?_) (fun c10_1 => ?_)
  · have t10_2 := FF.mk (i_le c10_1)
    have r10_3 : rg z6_1 20 2000 := rg_leA t10_2 r6_2 (show rg (2000 : Int32) 2000 2000 from rg_l (by decide)) (by decide)
    refine lv_aload_n hx hb dX16_feed_15 rfl (lv_at hl 0 rfl) ?_
    refine lv_iload_n hx hb dX16_feed_16 rfl (lv_at hl 1 rfl) ?_
    refine go_v (k1 := 0) (n1 := 0) (wr := []) [0, 1] [] (rn_V (As := [.int v0]) (rest := []) (c_X16_feedOne_w l D ct mm v0 fs_mm utape x_mm_1 g_utape hlen_mm hf_mm_0 (rg_of (show 0 ≤ x_mm_1.toInt ∧ x_mm_1.toInt ≤ 1996 by have q0 := h_x_mm_1.1; have q1 := r10_3.2; have q2 := (eq_add ez6_1 h_x_mm_1 (show rg (20 : Int32) 20 20 from rg_l (by decide)) (by decide)); have q3 := (show (20 : Int32).toInt = 20 from by decide); omega)) hf_mm_1 h_g_utape _) (cb_of (n := 1) hn mw_1781 mw_13 mw_1778 mhX16_feedOne ⟨(Nat.le_of_ble_eq_true rfl), (Nat.le_of_ble_eq_true rfl)⟩) hx hb hml hown hn hK hSK hZ hS mw_1780 mw_s169 (ci := 16) (q0 := 0) rfl rfl rfl rfl hl.1 (Nat.le_of_ble_eq_true rfl) dX16_feed_17 ⟨(Nat.le_of_ble_eq_true rfl), (Nat.le_of_ble_eq_true rfl)⟩) hP hD hS hA rfl rfl (by decide) (by decide) (by decide) (Nat.le_of_ble_eq_true rfl) (Nat.le_of_ble_eq_true rfl) (fun u17_2 H locs hp17_3 hP hD hS => ?_)
    obtain ⟨fs2_mm17_4, y_mm_117_5, k_utape17_6⟩ := u17_2
    obtain ⟨hp17_7, hp17_8, hp17_9, hp17_10, hp17_11, hp17_12⟩ := hp17_3
    have hs17_13 : SB fs_mm fs2_mm17_4 [1] := SB.trans (SB.rf _ _) hp17_7 (by decide)
    have hp17_8 : rg y_mm_117_5 4 2000 := hp17_8
    replace hp17_11 : FF (y_mm_117_5.toInt = x_mm_1.toInt + 4) := hp17_11
    have hp17_12 : PT4 g_utape k_utape17_6 x_mm_1.toInt v0.toInt := hp17_12
    have hP : va_P D vwCl [(mm, .inr (16, fs2_mm17_4)), (utape, .inl (ct 1, 2000, .inl k_utape17_6))] _ := hP
    have hD : va_D A [(mm, .inr (16, fs2_mm17_4)), (utape, .inl (ct 1, 2000, .inl k_utape17_6))] := hD
    refine lv_aload_n hx hb dX16_feed_20 rfl (lv_at hl 0 rfl) ?_
    refine lv_iload_n hx hb dX16_feed_21 rfl (lv_at hl 2 rfl) ?_
    refine go_v (k1 := 0) (n1 := 0) (wr := []) [0, 1] [] (rn_V (As := [.int v1]) (rest := []) (c_X16_feedOne_w l D ct mm v1 fs2_mm17_4 utape y_mm_117_5 k_utape17_6 (hs17_13.1.trans hlen_mm) (SB.get hs17_13 (by decide) hf_mm_0) (rg_of (show 0 ≤ y_mm_117_5.toInt ∧ y_mm_117_5.toInt ≤ 1996 by have q0 := hp17_8.1; have q1 := r10_3.2; have q2 := (eq_add ez6_1 h_x_mm_1 (show rg (20 : Int32) 20 20 from rg_l (by decide)) (by decide)); have q3 := FF.out hp17_11; have q4 := (show (20 : Int32).toInt = 20 from by decide); omega)) hp17_9 hp17_10 _) (cb_of (n := 1) hn mw_1781 mw_13 mw_1778 mhX16_feedOne ⟨(Nat.le_of_ble_eq_true rfl), (Nat.le_of_ble_eq_true rfl)⟩) hx hb hml hown hn hK hSK hZ hS mw_1780 mw_s169 (ci := 16) (q0 := 0) rfl rfl rfl rfl hl.1 (Nat.le_of_ble_eq_true rfl) dX16_feed_22 ⟨(Nat.le_of_ble_eq_true rfl), (Nat.le_of_ble_eq_true rfl)⟩) hP hD hS hA rfl rfl (by decide) (by decide) (by decide) (Nat.le_of_ble_eq_true rfl) (Nat.le_of_ble_eq_true rfl) (fun u22_2 H locs hp22_3 hP hD hS => ?_)
    obtain ⟨fs2_mm22_4, y_mm_122_5, k_utape22_6⟩ := u22_2
    obtain ⟨hp22_7, hp22_8, hp22_9, hp22_10, hp22_11, hp22_12⟩ := hp22_3
    have hs22_13 : SB fs_mm fs2_mm22_4 [1] := SB.trans hs17_13 hp22_7 (by decide)
    have hp22_8 : rg y_mm_122_5 4 2000 := hp22_8
    replace hp22_11 : FF (y_mm_122_5.toInt = y_mm_117_5.toInt + 4) := hp22_11
    have hp22_12 : PT4 k_utape17_6 k_utape22_6 y_mm_117_5.toInt v1.toInt := hp22_12
    have hP : va_P D vwCl [(mm, .inr (16, fs2_mm22_4)), (utape, .inl (ct 1, 2000, .inl k_utape22_6))] _ := hP
    have hD : va_D A [(mm, .inr (16, fs2_mm22_4)), (utape, .inl (ct 1, 2000, .inl k_utape22_6))] := hD
    refine lv_aload_n hx hb dX16_feed_25 rfl (lv_at hl 0 rfl) ?_
    refine lv_iload_n hx hb dX16_feed_26 rfl (lv_at hl 3 rfl) ?_
    refine go_v (k1 := 0) (n1 := 0) (wr := []) [0, 1] [] (rn_V (As := [.int v2]) (rest := []) (c_X16_feedOne_w l D ct mm v2 fs2_mm22_4 utape y_mm_122_5 k_utape22_6 (hs22_13.1.trans hlen_mm) (SB.get hs22_13 (by decide) hf_mm_0) (rg_of (show 0 ≤ y_mm_122_5.toInt ∧ y_mm_122_5.toInt ≤ 1996 by have q0 := hp17_8.1; have q1 := r10_3.2; have q2 := (eq_add ez6_1 h_x_mm_1 (show rg (20 : Int32) 20 20 from rg_l (by decide)) (by decide)); have q3 := FF.out hp17_11; have q4 := FF.out hp22_11; have q5 := (show (20 : Int32).toInt = 20 from by decide); omega)) hp22_9 hp22_10 _) (cb_of (n := 1) hn mw_1781 mw_13 mw_1778 mhX16_feedOne ⟨(Nat.le_of_ble_eq_true rfl), (Nat.le_of_ble_eq_true rfl)⟩) hx hb hml hown hn hK hSK hZ hS mw_1780 mw_s169 (ci := 16) (q0 := 0) rfl rfl rfl rfl hl.1 (Nat.le_of_ble_eq_true rfl) dX16_feed_27 ⟨(Nat.le_of_ble_eq_true rfl), (Nat.le_of_ble_eq_true rfl)⟩) hP hD hS hA rfl rfl (by decide) (by decide) (by decide) (Nat.le_of_ble_eq_true rfl) (Nat.le_of_ble_eq_true rfl) (fun u27_2 H locs hp27_3 hP hD hS => ?_)
    obtain ⟨fs2_mm27_4, y_mm_127_5, k_utape27_6⟩ := u27_2
    obtain ⟨hp27_7, hp27_8, hp27_9, hp27_10, hp27_11, hp27_12⟩ := hp27_3
    have hs27_13 : SB fs_mm fs2_mm27_4 [1] := SB.trans hs22_13 hp27_7 (by decide)
    have hp27_8 : rg y_mm_127_5 4 2000 := hp27_8
    replace hp27_11 : FF (y_mm_127_5.toInt = y_mm_122_5.toInt + 4) := hp27_11
    have hp27_12 : PT4 k_utape22_6 k_utape27_6 y_mm_122_5.toInt v2.toInt := hp27_12
    have hP : va_P D vwCl [(mm, .inr (16, fs2_mm27_4)), (utape, .inl (ct 1, 2000, .inl k_utape27_6))] _ := hP
    have hD : va_D A [(mm, .inr (16, fs2_mm27_4)), (utape, .inl (ct 1, 2000, .inl k_utape27_6))] := hD
    refine lv_aload_n hx hb dX16_feed_30 rfl (lv_at hl 0 rfl) ?_
    refine lv_iload hx hb dX16_feed_31 (lv_at hl 4 rfl) ?_
    refine go_v (k1 := 0) (n1 := 0) (wr := []) [0, 1] [] (rn_V (As := [.int v3]) (rest := []) (c_X16_feedOne_w l D ct mm v3 fs2_mm27_4 utape y_mm_127_5 k_utape27_6 (hs27_13.1.trans hlen_mm) (SB.get hs27_13 (by decide) hf_mm_0) (rg_of (show 0 ≤ y_mm_127_5.toInt ∧ y_mm_127_5.toInt ≤ 1996 by have q0 := hp17_8.1; have q1 := r10_3.2; have q2 := (eq_add ez6_1 h_x_mm_1 (show rg (20 : Int32) 20 20 from rg_l (by decide)) (by decide)); have q3 := FF.out hp17_11; have q4 := FF.out hp22_11; have q5 := FF.out hp27_11; have q6 := (show (20 : Int32).toInt = 20 from by decide); omega)) hp27_9 hp27_10 _) (cb_of (n := 1) hn mw_1781 mw_13 mw_1778 mhX16_feedOne ⟨(Nat.le_of_ble_eq_true rfl), (Nat.le_of_ble_eq_true rfl)⟩) hx hb hml hown hn hK hSK hZ hS mw_1780 mw_s169 (ci := 16) (q0 := 0) rfl rfl rfl rfl hl.1 (Nat.le_of_ble_eq_true rfl) dX16_feed_33 ⟨(Nat.le_of_ble_eq_true rfl), (Nat.le_of_ble_eq_true rfl)⟩) hP hD hS hA rfl rfl (by decide) (by decide) (by decide) (Nat.le_of_ble_eq_true rfl) (Nat.le_of_ble_eq_true rfl) (fun u33_2 H locs hp33_3 hP hD hS => ?_)
    obtain ⟨fs2_mm33_4, y_mm_133_5, k_utape33_6⟩ := u33_2
    obtain ⟨hp33_7, hp33_8, hp33_9, hp33_10, hp33_11, hp33_12⟩ := hp33_3
    have hs33_13 : SB fs_mm fs2_mm33_4 [1] := SB.trans hs27_13 hp33_7 (by decide)
    have hp33_8 : rg y_mm_133_5 4 2000 := hp33_8
    replace hp33_11 : FF (y_mm_133_5.toInt = y_mm_127_5.toInt + 4) := hp33_11
    have hp33_12 : PT4 k_utape27_6 k_utape33_6 y_mm_127_5.toInt v3.toInt := hp33_12
    have hP : va_P D vwCl [(mm, .inr (16, fs2_mm33_4)), (utape, .inl (ct 1, 2000, .inl k_utape33_6))] _ := hP
    have hD : va_D A [(mm, .inr (16, fs2_mm33_4)), (utape, .inl (ct 1, 2000, .inl k_utape33_6))] := hD
    refine lv_aload_n hx hb dX16_feed_36 rfl (lv_at hl 0 rfl) ?_
    refine lv_iload hx hb dX16_feed_37 (lv_at hl 5 rfl) ?_
    refine go_v (k1 := 0) (n1 := 0) (wr := []) [0, 1] [] (rn_V (As := [.int v4]) (rest := []) (c_X16_feedOne_w l D ct mm v4 fs2_mm33_4 utape y_mm_133_5 k_utape33_6 (hs33_13.1.trans hlen_mm) (SB.get hs33_13 (by decide) hf_mm_0) (rg_of (show 0 ≤ y_mm_133_5.toInt ∧ y_mm_133_5.toInt ≤ 1996 by have q0 := hp17_8.1; have q1 := r10_3.2; have q2 := (eq_add ez6_1 h_x_mm_1 (show rg (20 : Int32) 20 20 from rg_l (by decide)) (by decide)); have q3 := FF.out hp17_11; have q4 := FF.out hp22_11; have q5 := FF.out hp27_11; have q6 := FF.out hp33_11; have q7 := (show (20 : Int32).toInt = 20 from by decide); omega)) hp33_9 hp33_10 _) (cb_of (n := 1) hn mw_1781 mw_13 mw_1778 mhX16_feedOne ⟨(Nat.le_of_ble_eq_true rfl), (Nat.le_of_ble_eq_true rfl)⟩) hx hb hml hown hn hK hSK hZ hS mw_1780 mw_s169 (ci := 16) (q0 := 0) rfl rfl rfl rfl hl.1 (Nat.le_of_ble_eq_true rfl) dX16_feed_39 ⟨(Nat.le_of_ble_eq_true rfl), (Nat.le_of_ble_eq_true rfl)⟩) hP hD hS hA rfl rfl (by decide) (by decide) (by decide) (Nat.le_of_ble_eq_true rfl) (Nat.le_of_ble_eq_true rfl) (fun u39_2 H locs hp39_3 hP hD hS => ?_)
    obtain ⟨fs2_mm39_4, y_mm_139_5, k_utape39_6⟩ := u39_2
    obtain ⟨hp39_7, hp39_8, hp39_9, hp39_10, hp39_11, hp39_12⟩ := hp39_3
    have hs39_13 : SB fs_mm fs2_mm39_4 [1] := SB.trans hs33_13 hp39_7 (by decide)
    have hp39_8 : rg y_mm_139_5 4 2000 := hp39_8
    replace hp39_11 : FF (y_mm_139_5.toInt = y_mm_133_5.toInt + 4) := hp39_11
    have hp39_12 : PT4 k_utape33_6 k_utape39_6 y_mm_133_5.toInt v4.toInt := hp39_12
    have hP : va_P D vwCl [(mm, .inr (16, fs2_mm39_4)), (utape, .inl (ct 1, 2000, .inl k_utape39_6))] _ := hP
    have hD : va_D A [(mm, .inr (16, fs2_mm39_4)), (utape, .inl (ct 1, 2000, .inl k_utape39_6))] := hD
    refine lv_aload_n hx hb dX16_feed_42 rfl (lv_at hl 0 rfl) ?_
    refine va_get (D := D) (ci := 16) (v := .int y_mm_139_5) (C := RX16) (T := TX16) (N := 78) hx hb (htX16 hn) (fun _ h => h) hown hK hP 0 rfl rfl 1 (by decide) (hn.get mw_1540 rfl) (fun _ h9 => h9) hp39_9 dX16_feed_43 ?_
    exact endq_i hQ hx hb hr hlocks dX16_feed_46 rfl (fs2_mm39_4, y_mm_139_5, k_utape39_6) ⟨(rg_w hp39_8 (by decide)), hs39_13, (rg_w hp39_8 (by decide)), hp39_9, hp39_10, (show x_mm_1.toInt ≤ 1980 → y_mm_139_5.toInt = x_mm_1.toInt + 20 ∧ y_mm_139_5.toInt = x_mm_1.toInt + 20 by have q0 := FF.out hp17_11; have q1 := FF.out hp22_11; have q2 := FF.out hp27_11; have q3 := FF.out hp33_11; have q4 := FF.out hp39_11; omega), (show 1980 < x_mm_1.toInt → y_mm_139_5.toInt = -1 ∧ y_mm_139_5.toInt = x_mm_1.toInt by have q0 := r10_3.2; have q1 := (eq_add ez6_1 h_x_mm_1 (show rg (20 : Int32) 20 20 from rg_l (by decide)) (by decide)); have q2 := (show (20 : Int32).toInt = 20 from by decide); omega), (fun hc9 => (PT20.of hp17_12 hp22_12 hp27_12 hp33_12 hp39_12 (show y_mm_117_5.toInt = x_mm_1.toInt + 4 by have q0 := FF.out hp17_11; omega) (show y_mm_122_5.toInt = x_mm_1.toInt + 8 by have q0 := FF.out hp17_11; have q1 := FF.out hp22_11; omega) (show y_mm_127_5.toInt = x_mm_1.toInt + 12 by have q0 := FF.out hp17_11; have q1 := FF.out hp22_11; have q2 := FF.out hp27_11; omega) (show y_mm_133_5.toInt = x_mm_1.toInt + 16 by have q0 := FF.out hp17_11; have q1 := FF.out hp22_11; have q2 := FF.out hp27_11; have q3 := FF.out hp33_11; omega))), (fun hc => absurd hc (show ¬ (1980 < x_mm_1.toInt) by have q0 := r10_3.2; have q1 := (eq_add ez6_1 h_x_mm_1 (show rg (20 : Int32) 20 20 from rg_l (by decide)) (by decide)); have q2 := (show (20 : Int32).toInt = 20 from by decide); omega))⟩ hP hD hS [0, 1] rfl (by decide) rfl (Nat.le_of_ble_eq_true rfl) (Nat.le_of_ble_eq_true rfl)
  · have t10_2 := FF.mk (i_nle c10_1)
    have r10_3 : rg z6_1 2001 2020 := rg_ltB t10_2 (show rg (2000 : Int32) 2000 2000 from rg_l (by decide)) r6_2 (by decide)
    refine lv_iconst (v := (-1)) hx hb dX16_feed_13 (by decide) ?_
    exact endq_i hQ hx hb hr hlocks dX16_feed_14 rfl (fs_mm, x_mm_1, g_utape) ⟨(rg_w (show rg ((-1) : Int32) (-1) (-1) from rg_l (by decide)) (by decide)), (SB.rf _ _), h_x_mm_1, hf_mm_1, h_g_utape, (show x_mm_1.toInt ≤ 1980 → (-1 : Int32).toInt = x_mm_1.toInt + 20 ∧ x_mm_1.toInt = x_mm_1.toInt + 20 by have q0 := r10_3.1; have q1 := (eq_add ez6_1 h_x_mm_1 (show rg (20 : Int32) 20 20 from rg_l (by decide)) (by decide)); have q2 := (show (-1 : Int32).toInt = -1 from by decide); have q3 := (show (20 : Int32).toInt = 20 from by decide); omega), (show 1980 < x_mm_1.toInt → (-1 : Int32).toInt = -1 ∧ x_mm_1.toInt = x_mm_1.toInt by have q0 := (show (-1 : Int32).toInt = -1 from by decide); omega), (fun hc => absurd hc (show ¬ (x_mm_1.toInt ≤ 1980) by have q0 := r10_3.1; have q1 := (eq_add ez6_1 h_x_mm_1 (show rg (20 : Int32) 20 20 from rg_l (by decide)) (by decide)); have q2 := (show (20 : Int32).toInt = 20 from by decide); omega)), (fun hc9 => EQF.rf)⟩ hP hD hS [0, 1] rfl (by decide) rfl (Nat.le_of_ble_eq_true rfl) (Nat.le_of_ble_eq_true rfl)
set_option maxHeartbeats 2000000 in
theorem c_X9_at_w (l : Launch) (D : va_G) (ct : Nat → ClassId) (t0 : Nat) (v0 : Int32) (t0r : Nat) (x_t0_1 : Int32) (g_t0r : Nat → Int32) (h_x_t0_1 : rg x_t0_1 0 2000) (h_g_t0r : Rg g_t0r 2000 (-128) 127) : KI (S := Unit) l yX9_at cX9_at 2 (some .int) 1 20 D ct [.ref t0, .int v0] [(t0, .inr (9, [.ref t0r, .int x_t0_1])), (t0r, .inl (ct 0, 2000, .inl g_t0r))] 0 0 (fun (r : Int32) (_ : Unit) => rg r (-1) 255 ∧ (0 ≤ v0.toInt ∧ v0.toInt < x_t0_1.toInt → r.toInt = (g_t0r v0.toNatClampNeg).toInt % 256)) (fun (_ : Unit) => [(t0, .inr (9, [.ref t0r, .int x_t0_1])), (t0r, .inl (ct 0, 2000, .inl g_t0r))]) := by
  refine KIq_of (by decide) (Nat.le_of_ble_eq_true rfl) (fun p e s m below meth c A Q C0 hA H locs hS hP hD hQ ls hl => ?_)
  obtain ⟨hx, hb, hr, hown, hin, hml, hlocks, hn, hK, hZ, hSK⟩ := C0
  have hl : lv_has ls 2 [(0, .ref t0), (1, .int v0)] := hl
  refine lv_iload_n hx hb dX9_at_0 rfl (lv_at hl 1 rfl) ?_
  refine lv_if_lt (tgt := 19) hx hb dX9_at_1 (by decide) (fun c1_1 => ?_) (fun c1_1 => ?_)
  · have t1_2 := FF.mk (i_lt c1_1)
    have r1_3 : rg v0 (-2147483648) (-1) := rg_ltA t1_2 (rg_any v0) (show rg (0 : Int32) 0 0 from rg_l (by decide)) (by decide)
    refine lv_iconst (v := (-1)) hx hb dX9_at_19 (by decide) ?_
    refine lv_goto (tgt := 33) hx hb dX9_at_20 (by decide) ?_
    exact endq_i hQ hx hb hr hlocks dX9_at_33 rfl () ⟨(rg_w (show rg ((-1) : Int32) (-1) (-1) from rg_l (by decide)) (by decide)), (show 0 ≤ v0.toInt ∧ v0.toInt < x_t0_1.toInt → (-1 : Int32).toInt = (g_t0r v0.toNatClampNeg).toInt % 256 by have q0 := FF.out t1_2; have q1 := (show (-1 : Int32).toInt = -1 from by decide); have q2 := (show (0 : Int32).toInt = 0 from by decide); omega)⟩ hP hD hS [0, 1] rfl (by decide) rfl (Nat.le_of_ble_eq_true rfl) (Nat.le_of_ble_eq_true rfl)
  · have t1_2 := FF.mk (i_nlt c1_1)
    have r1_3 : rg v0 0 2147483647 := rg_leB t1_2 (show rg (0 : Int32) 0 0 from rg_l (by decide)) (rg_any v0) (by decide)
    refine lv_iload_n hx hb dX9_at_4 rfl (lv_at hl 1 rfl) ?_
    refine lv_aload_n hx hb dX9_at_5 rfl (lv_at hl 0 rfl) ?_
    refine va_get (D := D) (ci := 9) (v := .int x_t0_1) (C := RX9) (T := TX9) (N := 2) hx hb (htX9 hn) (fun _ h => h) hown hK hP 0 rfl rfl 1 (by decide) (hn.get mw_43 rfl) (fun _ h9 => h9) rfl dX9_at_6 ?_
    refine lv_icmp_ge (tgt := 19) hx hb dX9_at_9 (by decide) (fun c9_1 => ?_) (fun c9_1 => ?_)
    · have t9_2 := FF.mk (i_le c9_1)
      refine lv_iconst (v := (-1)) hx hb dX9_at_19 (by decide) ?_
      refine lv_goto (tgt := 33) hx hb dX9_at_20 (by decide) ?_
      exact endq_i hQ hx hb hr hlocks dX9_at_33 rfl () ⟨(rg_w (show rg ((-1) : Int32) (-1) (-1) from rg_l (by decide)) (by decide)), (show 0 ≤ v0.toInt ∧ v0.toInt < x_t0_1.toInt → (-1 : Int32).toInt = (g_t0r v0.toNatClampNeg).toInt % 256 by have q0 := FF.out t9_2; have q1 := (show (-1 : Int32).toInt = -1 from by decide); omega)⟩ hP hD hS [0, 1] rfl (by decide) rfl (Nat.le_of_ble_eq_true rfl) (Nat.le_of_ble_eq_true rfl)
    · have t9_2 := FF.mk (i_nle c9_1)
      have r9_3 : rg v0 0 1999 := rg_ltA t9_2 r1_3 h_x_t0_1 (by decide)
      have r9_4 : rg x_t0_1 1 2000 := rg_ltB t9_2 r1_3 h_x_t0_1 (by decide)
      refine lv_iload_n hx hb dX9_at_12 rfl (lv_at hl 1 rfl) ?_
      refine lv_sipush (v := 2000) hx hb dX9_at_13 (by decide) ?_
      refine lv_icmp_lt (tgt := 23) hx hb dX9_at_16 (by decide) (fun c16_1 => ?_) (fun c16_1 => ?_)
      · have t16_2 := FF.mk (i_lt c16_1)
        refine lv_aload_n hx hb dX9_at_23 rfl (lv_at hl 0 rfl) ?_
        refine va_get (D := D) (ci := 9) (v := .ref t0r) (C := RX9) (T := TX9) (N := 2) hx hb (htX9 hn) (fun _ h => h) hown hK hP 0 rfl rfl 0 (by decide) (hn.get mw_42 rfl) (fun _ h9 => h9) rfl dX9_at_24 ?_
        refine lv_iload_n hx hb dX9_at_27 rfl (lv_at hl 1 rfl) ?_
        have hi28_1 : vp_in v0 2000 := (in_rg r9_3 (by decide))
        refine va_bald hx hb hK hP 1 0 rfl rfl hi28_1 dX9_at_28 ?_
        refine lv_topi (fun z28_2 ez28_2 => ?_)
        have r28_3 : rg z28_2 (-128) 127 := Rg_at h_g_t0r hi28_1 ez28_2
        refine lv_sipush (v := 255) hx hb dX9_at_29 (by decide) ?_
        refine lv_iand hx hb dX9_at_32 ?_
        refine lv_topi (fun z32_1 ez32_1 => ?_)
        have r32_2 : rg z32_1 0 255 := rg_andr ez32_1 (show rg (255 : Int32) 255 255 from rg_l (by decide)) (by decide)
        exact endq_i hQ hx hb hr hlocks dX9_at_33 rfl () ⟨(rg_w r32_2 (by decide)), (show 0 ≤ v0.toInt ∧ v0.toInt < x_t0_1.toInt → z32_1.toInt = (g_t0r v0.toNatClampNeg).toInt % 256 by have q0 := (eq_and (c := 256) (k := 8) ez32_1 (by decide) (by decide)); have q1 := (congrArg Int32.toInt ez28_2); omega)⟩ hP hD hS [0, 1] rfl (by decide) rfl (Nat.le_of_ble_eq_true rfl) (Nat.le_of_ble_eq_true rfl)
      · exact absurd (i_nlt c16_1) (rg_leX (show rg (2000 : Int32) 2000 2000 from rg_l (by decide)) r9_3 (by decide))
set_option maxHeartbeats 2000000 in
theorem c_X6_add_w (l : Launch) (D : va_G) (ct : Nat → ClassId) (k0 : Nat) (t0 : Nat) (k0c : Nat) (k0l : Nat) (x_k0_2 : Int32) (t0r : Nat) (x_t0_1 : Int32) (g_k0l : Nat → Int32) (g_t0r : Nat → Int32) (g_k0c : Nat → Int32) (h_x_k0_2 : rg x_k0_2 0 16) (h_x_t0_1 : rg x_t0_1 0 2000) (h_g_k0l : Rg g_k0l 16 0 256) (h_g_t0r : Rg g_t0r 2000 (-128) 127) (h_g_k0c : Rg g_k0c 4096 (-128) 127) : KI (S := Int32 × (Nat → Int32) × (Nat → Int32)) l yX6_add cX6_add 3 (some .int) 2 41 D ct [.ref k0, .ref t0] [(k0, .inr (6, [.ref k0c, .ref k0l, .int x_k0_2])), (t0, .inr (9, [.ref t0r, .int x_t0_1])), (k0l, .inl (ct 1, 16, .inl g_k0l)), (t0r, .inl (ct 0, 2000, .inl g_t0r)), (k0c, .inl (ct 0, 4096, .inl g_k0c))] 0 0 (fun (r : Int32) (u : Int32 × (Nat → Int32) × (Nat → Int32)) => match u with | (y_k0_2, k_k0l, k_k0c) => rg r (-2) 15 ∧ rg y_k0_2 0 16 ∧ Rg k_k0l 16 0 256 ∧ Rg k_k0c 4096 (-128) 127 ∧ (x_k0_2.toInt + 0 ≤ y_k0_2.toInt ∧ y_k0_2.toInt ≤ x_k0_2.toInt + 1) ∧ (16 ≤ x_k0_2.toInt → r.toInt = -1 ∧ y_k0_2.toInt = x_k0_2.toInt) ∧ (x_k0_2.toInt < 16 ∧ 256 < x_t0_1.toInt → r.toInt = -2 ∧ y_k0_2.toInt = x_k0_2.toInt) ∧ (x_k0_2.toInt < 16 ∧ x_t0_1.toInt ≤ 256 → r.toInt = x_k0_2.toInt ∧ y_k0_2.toInt = x_k0_2.toInt + 1) ∧ (x_k0_2.toInt < 16 ∧ x_t0_1.toInt ≤ 256 → CP g_k0c k_k0c g_t0r (256 * x_k0_2.toInt) x_t0_1.toInt) ∧ (x_k0_2.toInt < 16 ∧ x_t0_1.toInt ≤ 256 → UPE g_k0l k_k0l x_k0_2.toInt x_t0_1.toInt) ∧ (16 ≤ x_k0_2.toInt ∨ 256 < x_t0_1.toInt → EQF g_k0c k_k0c) ∧ (16 ≤ x_k0_2.toInt ∨ 256 < x_t0_1.toInt → EQF g_k0l k_k0l)) (fun (u : Int32 × (Nat → Int32) × (Nat → Int32)) => match u with | (y_k0_2, k_k0l, k_k0c) => [(k0, .inr (6, [.ref k0c, .ref k0l, .int y_k0_2])), (t0, .inr (9, [.ref t0r, .int x_t0_1])), (k0l, .inl (ct 1, 16, .inl k_k0l)), (t0r, .inl (ct 0, 2000, .inl g_t0r)), (k0c, .inl (ct 0, 4096, .inl k_k0c))]) := by
  refine KIq_of (by decide) (Nat.le_of_ble_eq_true rfl) (fun p e s m below meth c A Q C0 hA H locs hS hP hD hQ ls hl => ?_)
  obtain ⟨hx, hb, hr, hown, hin, hml, hlocks, hn, hK, hZ, hSK⟩ := C0
  have hl : lv_has ls 3 [(0, .ref k0), (1, .ref t0)] := hl
  refine lv_aload_n hx hb dX6_add_0 rfl (lv_at hl 0 rfl) ?_
  refine va_get (D := D) (ci := 6) (v := .int x_k0_2) (C := RX6) (T := TX6) (N := 3) hx hb (htX6 hn) (fun _ h => h) hown hK hP 0 rfl rfl 2 (by decide) (hn.get mw_63 rfl) (fun _ h9 => h9) rfl dX6_add_1 ?_
  refine lv_bipush (v := 16) hx hb dX6_add_4 (by decide) ?_
  refine lv_icmp_lt (tgt := 11) hx hb dX6_add_6 (by decide) (fun c6_1 => ?_) (fun c6_1 => ?_)
  · have t6_2 := FF.mk (i_lt c6_1)
    have r6_3 : rg x_k0_2 0 15 := rg_ltA t6_2 h_x_k0_2 (show rg (16 : Int32) 16 16 from rg_l (by decide)) (by decide)
    refine lv_aload_n hx hb dX6_add_11 rfl (lv_at hl 1 rfl) ?_
    refine va_getN (D := D) (ci := 9) (v := .int x_t0_1) (C := RX9) (T := TX9) (N := 2) hx hb (htX9 hn) (fun _ h => h) hown hK hP 1 rfl rfl 1 (by decide) (hn.get mw_46 rfl) (fun _ h9 => h9) rfl dX6_add_12 ?_
    refine lv_sipush (v := 256) hx hb dX6_add_15 (by decide) ?_
    refine lv_icmp_le (tgt := 24) hx hb dX6_add_18 (by decide) (fun c18_1 => ?_) (fun c18_1 => ?_)
    · have t18_2 := FF.mk (i_le c18_1)
      have r18_3 : rg x_t0_1 0 256 := rg_leA t18_2 h_x_t0_1 (show rg (256 : Int32) 256 256 from rg_l (by decide)) (by decide)
      refine lv_iconst (v := 0) hx hb dX6_add_24 (by decide) ?_
      refine lv_istore_n (lv' := [(2, .int 0), (0, .ref k0), (1, .ref t0)]) hx hb dX6_add_25 rfl hl (by decide) rfl (fun ls hl => ?_)
      have b26 : ∀ (n26 : Nat) (j26_l2 : Int32) (j26_ck0c : Nat → Int32) (H : Heap) (locs : List Loc) (ls : Array Slot), (rg j26_l2 0 256) → (Rg j26_ck0c 4096 (-128) 127) → (CP g_k0c j26_ck0c g_t0r (256 * x_k0_2.toInt) j26_l2.toInt) → (FF (j26_l2.toInt ≤ x_t0_1.toInt)) → ((2147483647 : Int) - j26_l2.toInt).toNat < n26 → lv_has ls 3 [(0, .ref k0), (1, .ref t0), (2, .int j26_l2)] → va_P D vwCl [(k0, .inr (6, [.ref k0c, .ref k0l, .int x_k0_2])), (t0, .inr (9, [.ref t0r, .int x_t0_1])), (k0l, .inl (ct 1, 16, .inl g_k0l)), (t0r, .inl (ct 0, 2000, .inl g_t0r)), (k0c, .inl (ct 0, 4096, .inl j26_ck0c))] H → va_D A [(k0, .inr (6, [.ref k0c, .ref k0l, .int x_k0_2])), (t0, .inr (9, [.ref t0r, .int x_t0_1])), (k0l, .inl (ct 1, 16, .inl g_k0l)), (t0r, .inl (ct 0, 2000, .inl g_t0r)), (k0c, .inl (ct 0, 4096, .inl j26_ck0c))] → va_S A s.heap H locs → W p l e ({ frames := 2, cells := 0, slots := 0, locals := 41 }) s m [.ref k0, .ref t0].toArray below meth c H locs 0 0 Q (F0 m 26 ls []) := by
        intro n26
        induction n26 with
        | zero => intros; rename_i hms _ _ _ _; exact absurd hms (Nat.not_lt_zero _)
        | succ n26 ih26 =>
          intro j26_l2 j26_ck0c H locs ls r26_1001 hc26_1002 hg26_1003 hi26_1004 hms26 hl hP hD hS
          refine lv_iload_n hx hb dX6_add_26 rfl (lv_at hl 2 rfl) ?_
          refine lv_aload_n hx hb dX6_add_27 rfl (lv_at hl 1 rfl) ?_
          refine va_getN (D := D) (ci := 9) (v := .int x_t0_1) (C := RX9) (T := TX9) (N := 2) hx hb (htX9 hn) (fun _ h => h) hown hK hP 1 rfl rfl 1 (by decide) (hn.get mw_46 rfl) (fun _ h9 => h9) rfl dX6_add_28 ?_
          refine lv_icmp_ge (tgt := 61) hx hb dX6_add_31 (by decide) (fun c31_1 => ?_) (fun c31_1 => ?_)
          · have t31_2 := FF.mk (i_le c31_1)
            refine lv_aload_n hx hb dX6_add_61 rfl (lv_at hl 0 rfl) ?_
            refine va_get (D := D) (ci := 6) (v := .ref k0l) (C := RX6) (T := TX6) (N := 3) hx hb (htX6 hn) (fun _ h => h) hown hK hP 0 rfl rfl 1 (by decide) (hn.get mw_62 rfl) (fun _ h9 => h9) rfl dX6_add_62 ?_
            refine lv_aload_n hx hb dX6_add_65 rfl (lv_at hl 0 rfl) ?_
            refine va_get (D := D) (ci := 6) (v := .int x_k0_2) (C := RX6) (T := TX6) (N := 3) hx hb (htX6 hn) (fun _ h => h) hown hK hP 0 rfl rfl 2 (by decide) (hn.get mw_63 rfl) (fun _ h9 => h9) rfl dX6_add_66 ?_
            refine lv_aload_n hx hb dX6_add_69 rfl (lv_at hl 1 rfl) ?_
            refine va_getN (D := D) (ci := 9) (v := .int x_t0_1) (C := RX9) (T := TX9) (N := 2) hx hb (htX9 hn) (fun _ h => h) hown hK hP 1 rfl rfl 1 (by decide) (hn.get mw_46 rfl) (fun _ h9 => h9) rfl dX6_add_70 ?_
            have hi73_1 : vp_in x_k0_2 16 := (in_rg r6_3 (by decide))
            refine va_iast hx hb hK hP hD hS 2 1 rfl rfl hi73_1 dX6_add_73 (fun H locs hP hD hS => ?_)
            have hP : va_P D vwCl [(k0, .inr (6, [.ref k0c, .ref k0l, .int x_k0_2])), (t0, .inr (9, [.ref t0r, .int x_t0_1])), (k0l, .inl (ct 1, 16, .inl (upd g_k0l x_k0_2.toNatClampNeg x_t0_1))), (t0r, .inl (ct 0, 2000, .inl g_t0r)), (k0c, .inl (ct 0, 4096, .inl j26_ck0c))] _ := hP
            have hD : va_D A [(k0, .inr (6, [.ref k0c, .ref k0l, .int x_k0_2])), (t0, .inr (9, [.ref t0r, .int x_t0_1])), (k0l, .inl (ct 1, 16, .inl (upd g_k0l x_k0_2.toNatClampNeg x_t0_1))), (t0r, .inl (ct 0, 2000, .inl g_t0r)), (k0c, .inl (ct 0, 4096, .inl j26_ck0c))] := hD
            obtain ⟨f73_2, ef73_2⟩ : ∃ z, z = (upd g_k0l x_k0_2.toNatClampNeg x_t0_1) := ⟨_, rfl⟩
            rw [← ef73_2] at hP hD
            have hc73_3 : Rg f73_2 16 0 256 := Rg_upd ef73_2 h_g_k0l r18_3
            refine lv_aload_n hx hb dX6_add_74 rfl (lv_at hl 0 rfl) ?_
            refine lv_dup hx hb dX6_add_75 rfl ?_
            refine va_get (D := D) (ci := 6) (v := .int x_k0_2) (C := RX6) (T := TX6) (N := 3) hx hb (htX6 hn) (fun _ h => h) hown hK hP 0 rfl rfl 2 (by decide) (hn.get mw_63 rfl) (fun _ h9 => h9) rfl dX6_add_76 ?_
            refine lv_iconst (v := 1) hx hb dX6_add_79 (by decide) ?_
            refine lv_iadd hx hb dX6_add_80 ?_
            refine lv_topi (fun z80_1 ez80_1 => ?_)
            have r80_2 : rg z80_1 1 16 := rg_add ez80_1 r6_3 (show rg (1 : Int32) 1 1 from rg_l (by decide)) (by decide)
            refine va_put (D := D) (ci := 6) (v := .int z80_1) (ty := .int) (C := RX6) (T := TX6) (N := 3) hx hb (htX6 hn) (fun _ h => h) tyX6 tyX6_ok nmX6 hown hK hP hD hS 0 rfl rfl 2 (by decide) (hn.get mw_63 rfl) (fun _ h9 => h9) rfl (by decide +kernel) rfl rfl (Nat.le_of_ble_eq_true rfl) dX6_add_81 (fun H locs hP hD hS => ?_)
            have hP : va_P D vwCl [(k0, .inr (6, [.ref k0c, .ref k0l, .int z80_1])), (t0, .inr (9, [.ref t0r, .int x_t0_1])), (k0l, .inl (ct 1, 16, .inl f73_2)), (t0r, .inl (ct 0, 2000, .inl g_t0r)), (k0c, .inl (ct 0, 4096, .inl j26_ck0c))] _ := hP
            have hD : va_D A [(k0, .inr (6, [.ref k0c, .ref k0l, .int z80_1])), (t0, .inr (9, [.ref t0r, .int x_t0_1])), (k0l, .inl (ct 1, 16, .inl f73_2)), (t0r, .inl (ct 0, 2000, .inl g_t0r)), (k0c, .inl (ct 0, 4096, .inl j26_ck0c))] := hD
            refine lv_aload_n hx hb dX6_add_84 rfl (lv_at hl 0 rfl) ?_
            refine va_get (D := D) (ci := 6) (v := .int z80_1) (C := RX6) (T := TX6) (N := 3) hx hb (htX6 hn) (fun _ h => h) hown hK hP 0 rfl rfl 2 (by decide) (hn.get mw_63 rfl) (fun _ h9 => h9) rfl dX6_add_85 ?_
            refine lv_iconst (v := 1) hx hb dX6_add_88 (by decide) ?_
            refine lv_isub hx hb dX6_add_89 ?_
            refine lv_topi (fun z89_1 ez89_1 => ?_)
            have r89_2 : rg z89_1 0 15 := rg_sub ez89_1 r80_2 (show rg (1 : Int32) 1 1 from rg_l (by decide)) (by decide)
            exact endq_i hQ hx hb hr hlocks dX6_add_90 rfl (z80_1, f73_2, j26_ck0c) ⟨(rg_w r89_2 (by decide)), (rg_w r80_2 (by decide)), hc73_3, hc26_1002, (show x_k0_2.toInt + 0 ≤ z80_1.toInt ∧ z80_1.toInt ≤ x_k0_2.toInt + 1 by have q0 := (eq_add ez80_1 r6_3 (show rg (1 : Int32) 1 1 from rg_l (by decide)) (by decide)); have q1 := (show (1 : Int32).toInt = 1 from by decide); omega), (show 16 ≤ x_k0_2.toInt → z89_1.toInt = -1 ∧ z80_1.toInt = x_k0_2.toInt by have q0 := r6_3.2; omega), (show x_k0_2.toInt < 16 ∧ 256 < x_t0_1.toInt → z89_1.toInt = -2 ∧ z80_1.toInt = x_k0_2.toInt by have q0 := r18_3.2; omega), (show x_k0_2.toInt < 16 ∧ x_t0_1.toInt ≤ 256 → z89_1.toInt = x_k0_2.toInt ∧ z80_1.toInt = x_k0_2.toInt + 1 by have q0 := (eq_add ez80_1 r6_3 (show rg (1 : Int32) 1 1 from rg_l (by decide)) (by decide)); have q1 := (eq_sub ez89_1 r80_2 (show rg (1 : Int32) 1 1 from rg_l (by decide)) (by decide)); have q2 := (show (1 : Int32).toInt = 1 from by decide); omega), (fun hc9 => (((show j26_l2.toInt = x_t0_1.toInt by have q0 := FF.out hi26_1004; have q1 := FF.out t31_2; omega) : j26_l2.toInt = x_t0_1.toInt) ▸ hg26_1003)), (fun hc9 => (UPE.of ef73_2 (show 0 ≤ x_k0_2.toInt by have q0 := r6_3.1; omega) (show x_k0_2.toInt = x_k0_2.toInt by omega) (show x_t0_1.toInt = x_t0_1.toInt by omega))), (fun hc => absurd hc (show ¬ (16 ≤ x_k0_2.toInt ∨ 256 < x_t0_1.toInt) by have q0 := r18_3.2; have q1 := r6_3.2; omega)), (fun hc => absurd hc (show ¬ (16 ≤ x_k0_2.toInt ∨ 256 < x_t0_1.toInt) by have q0 := r18_3.2; have q1 := r6_3.2; omega))⟩ hP hD hS [0, 1, 2, 3, 4] rfl (by decide) rfl (Nat.le_of_ble_eq_true rfl) (Nat.le_of_ble_eq_true rfl)
          · have t31_2 := FF.mk (i_nle c31_1)
            have r31_3 : rg j26_l2 0 255 := rg_ltA t31_2 r26_1001 r18_3 (by decide)
            have r31_4 : rg x_t0_1 1 256 := rg_ltB t31_2 r26_1001 r18_3 (by decide)
            refine lv_aload_n hx hb dX6_add_34 rfl (lv_at hl 0 rfl) ?_
            refine va_get (D := D) (ci := 6) (v := .ref k0c) (C := RX6) (T := TX6) (N := 3) hx hb (htX6 hn) (fun _ h => h) hown hK hP 0 rfl rfl 0 (by decide) (hn.get mw_61 rfl) (fun _ h9 => h9) rfl dX6_add_35 ?_
            refine lv_aload_n hx hb dX6_add_38 rfl (lv_at hl 0 rfl) ?_
            refine va_get (D := D) (ci := 6) (v := .int x_k0_2) (C := RX6) (T := TX6) (N := 3) hx hb (htX6 hn) (fun _ h => h) hown hK hP 0 rfl rfl 2 (by decide) (hn.get mw_63 rfl) (fun _ h9 => h9) rfl dX6_add_39 ?_
            refine lv_sipush (v := 256) hx hb dX6_add_42 (by decide) ?_
            refine lv_imul hx hb dX6_add_45 ?_
            refine lv_topi (fun z45_1 ez45_1 => ?_)
            have r45_2 : rg z45_1 0 3840 := rg_mul ez45_1 r6_3 (show rg (256 : Int32) 256 256 from rg_l (by decide)) (by decide)
            refine lv_iload_n hx hb dX6_add_46 rfl (lv_at hl 2 rfl) ?_
            refine lv_iadd hx hb dX6_add_47 ?_
            refine lv_topi (fun z47_1 ez47_1 => ?_)
            have r47_2 : rg z47_1 0 4095 := rg_add ez47_1 r45_2 r31_3 (by decide)
            refine lv_aload_n hx hb dX6_add_48 rfl (lv_at hl 1 rfl) ?_
            refine lv_iload_n hx hb dX6_add_49 rfl (lv_at hl 2 rfl) ?_
            refine go_i (k1 := 0) (n1 := 0) (wr := [(k0, .inr (6, [.ref k0c, .ref k0l, .int x_k0_2])), (k0l, .inl (ct 1, 16, .inl g_k0l)), (k0c, .inl (ct 0, 4096, .inl j26_ck0c))]) [1, 3] [0, 2, 4] (rn_VN (As := [.int j26_l2]) (rest := [.int z47_1, .ref k0c]) (c_X9_at_w l D ct t0 j26_l2 t0r x_t0_1 g_t0r (rg_w r31_4 (by decide)) h_g_t0r _) (cn_of (n := 1) hn mw_452 mw_2 mw_449 mhX9_at ⟨(Nat.le_of_ble_eq_true rfl), (Nat.le_of_ble_eq_true rfl)⟩) hx hb hml hown hn hK hSK hZ hS mw_451 mw_s3 (ci := 9) (q0 := 0) rfl rfl rfl rfl hl.1 (Nat.le_of_ble_eq_true rfl) dX6_add_50 ⟨(Nat.le_of_ble_eq_true rfl), (Nat.le_of_ble_eq_true rfl)⟩) hP hD hS hA rfl rfl (by decide) (by decide) (by decide) (Nat.le_of_ble_eq_true rfl) (Nat.le_of_ble_eq_true rfl) (fun r50_1 u50_2 H locs hp50_3 hP hD hS => ?_)
            obtain ⟨hp50_4, hp50_5⟩ := hp50_3
            have hp50_4 : rg r50_1 (-1) 255 := hp50_4
            replace hp50_5 : FF (0 ≤ j26_l2.toInt ∧ j26_l2.toInt < x_t0_1.toInt → r50_1.toInt = (g_t0r j26_l2.toNatClampNeg).toInt % 256) := hp50_5
            have hP : va_P D vwCl [(k0, .inr (6, [.ref k0c, .ref k0l, .int x_k0_2])), (k0l, .inl (ct 1, 16, .inl g_k0l)), (k0c, .inl (ct 0, 4096, .inl j26_ck0c)), (t0, .inr (9, [.ref t0r, .int x_t0_1])), (t0r, .inl (ct 0, 2000, .inl g_t0r))] _ := hP
            have hD : va_D A [(k0, .inr (6, [.ref k0c, .ref k0l, .int x_k0_2])), (k0l, .inl (ct 1, 16, .inl g_k0l)), (k0c, .inl (ct 0, 4096, .inl j26_ck0c)), (t0, .inr (9, [.ref t0r, .int x_t0_1])), (t0r, .inl (ct 0, 2000, .inl g_t0r))] := hD
            refine lv_i2b hx hb dX6_add_53 rfl ?_
            refine lv_topi (fun z53_1 ez53_1 => ?_)
            have r53_2 : rg z53_1 (-128) 127 := rg_i2b ez53_1
            have hi54_1 : vp_in z47_1 4096 := (in_rg r47_2 (by decide))
            refine va_bast hx hb hK hP hD hS 2 0 rfl rfl hi54_1 dX6_add_54 (fun H locs hP hD hS => ?_)
            have hP : va_P D vwCl [(k0, .inr (6, [.ref k0c, .ref k0l, .int x_k0_2])), (k0l, .inl (ct 1, 16, .inl g_k0l)), (k0c, .inl (ct 0, 4096, .inl (upd j26_ck0c z47_1.toNatClampNeg (vp_nar .byte z53_1)))), (t0, .inr (9, [.ref t0r, .int x_t0_1])), (t0r, .inl (ct 0, 2000, .inl g_t0r))] _ := hP
            have hD : va_D A [(k0, .inr (6, [.ref k0c, .ref k0l, .int x_k0_2])), (k0l, .inl (ct 1, 16, .inl g_k0l)), (k0c, .inl (ct 0, 4096, .inl (upd j26_ck0c z47_1.toNatClampNeg (vp_nar .byte z53_1)))), (t0, .inr (9, [.ref t0r, .int x_t0_1])), (t0r, .inl (ct 0, 2000, .inl g_t0r))] := hD
            obtain ⟨f54_2, ef54_2⟩ : ∃ z, z = (upd j26_ck0c z47_1.toNatClampNeg (vp_nar .byte z53_1)) := ⟨_, rfl⟩
            rw [← ef54_2] at hP hD
            have hc54_3 : Rg f54_2 4096 (-128) 127 := Rg_upd ef54_2 hc26_1002 (rg_narB z53_1)
            obtain ⟨x55_1, ex55_1⟩ : ∃ z : Int32, z = j26_l2 + 1 := ⟨_, rfl⟩
            have r55_2 : rg x55_1 1 256 := rg_add ex55_1 r31_3 (show rg (1 : Int32) 1 1 from rg_l (by decide)) (by decide)
            refine lv_iinc (v := x55_1) (lv' := [(2, .int x55_1), (0, .ref k0), (1, .ref t0)]) hx hb dX6_add_55 hl (k := 2) rfl (by rw [ex55_1]; rfl) (by decide) rfl (fun ls hl => ?_)
            refine lv_goto (tgt := 26) hx hb dX6_add_58 (by decide) ?_
            have hP := hP.sub (ws' := [(k0, .inr (6, [.ref k0c, .ref k0l, .int x_k0_2])), (t0, .inr (9, [.ref t0r, .int x_t0_1])), (k0l, .inl (ct 1, 16, .inl g_k0l)), (t0r, .inl (ct 0, 2000, .inl g_t0r)), (k0c, .inl (ct 0, 4096, .inl f54_2))]) [0, 3, 1, 4, 2] rfl
            have hD := hD.sub (ws' := [(k0, .inr (6, [.ref k0c, .ref k0l, .int x_k0_2])), (t0, .inr (9, [.ref t0r, .int x_t0_1])), (k0l, .inl (ct 1, 16, .inl g_k0l)), (t0r, .inl (ct 0, 2000, .inl g_t0r)), (k0c, .inl (ct 0, 4096, .inl f54_2))]) [0, 3, 1, 4, 2] (by decide) rfl
            exact ih26 x55_1 f54_2 H locs ls (rg_w r55_2 (by decide)) hc54_3 (CP.step hg26_1003 ef54_2 (show 0 ≤ (256 * x_k0_2.toInt) by have q0 := r6_3.1; omega) (show 0 ≤ j26_l2.toInt by have q0 := r31_3.1; omega) (show z47_1.toInt = (256 * x_k0_2.toInt) + j26_l2.toInt by have q0 := (eq_add ez47_1 r45_2 r31_3 (by decide)); have q1 := (eq_mulr ez45_1 r6_3 (show rg (256 : Int32) 256 256 from rg_l (by decide)) (by decide)); omega) (show j26_l2.toInt = j26_l2.toInt by omega) ((nar_mod z53_1).trans ((i2b_mod ez53_1).trans (show r50_1.toInt % 256 = (g_t0r j26_l2.toNatClampNeg).toInt % 256 by have q0 := r31_3.1; have q1 := FF.out t31_2; have q2 := FF.out hp50_5; omega))) (show x55_1.toInt = j26_l2.toInt + 1 by have q0 := (eq_add ex55_1 r31_3 (show rg (1 : Int32) 1 1 from rg_l (by decide)) (by decide)); have q1 := (show (1 : Int32).toInt = 1 from by decide); omega)) (show x55_1.toInt ≤ x_t0_1.toInt by have q0 := (eq_add ex55_1 r31_3 (show rg (1 : Int32) 1 1 from rg_l (by decide)) (by decide)); have q1 := FF.out t31_2; have q2 := (show (1 : Int32).toInt = 1 from by decide); omega) (show ((2147483647 : Int) - x55_1.toInt).toNat < n26 by have q0 := r31_3.2; have q1 := (eq_add ex55_1 r31_3 (show rg (1 : Int32) 1 1 from rg_l (by decide)) (by decide)); have q2 := (show (1 : Int32).toInt = 1 from by decide); have q3 := hms26; omega) (lv_sub hl [1, 2, 0] rfl) hP hD hS
      exact b26 _ (0 : Int32) g_k0c H locs ls (rg_w (show rg (0 : Int32) 0 0 from rg_l (by decide)) (by decide)) h_g_k0c (CP.zero (show (0 : Int32).toInt ≤ 0 by have q0 := (show (0 : Int32).toInt = 0 from by decide); omega)) (show (0 : Int32).toInt ≤ x_t0_1.toInt by have q0 := r18_3.1; have q1 := (show (0 : Int32).toInt = 0 from by decide); omega) (Nat.lt_succ_self _) (lv_sub hl [1, 2, 0] rfl) hP hD hS
    · have t18_2 := FF.mk (i_nle c18_1)
      have r18_3 : rg x_t0_1 257 2000 := rg_ltB t18_2 (show rg (256 : Int32) 256 256 from rg_l (by decide)) h_x_t0_1 (by decide)
      refine lv_bipush (v := (-2)) hx hb dX6_add_21 (by decide) ?_
      exact endq_i hQ hx hb hr hlocks dX6_add_23 rfl (x_k0_2, g_k0l, g_k0c) ⟨(rg_w (show rg ((-2) : Int32) (-2) (-2) from rg_l (by decide)) (by decide)), (rg_w r6_3 (by decide)), h_g_k0l, h_g_k0c, (show x_k0_2.toInt + 0 ≤ x_k0_2.toInt ∧ x_k0_2.toInt ≤ x_k0_2.toInt + 1 by omega), (show 16 ≤ x_k0_2.toInt → (-2 : Int32).toInt = -1 ∧ x_k0_2.toInt = x_k0_2.toInt by have q0 := r6_3.2; have q1 := (show (-2 : Int32).toInt = -2 from by decide); omega), (show x_k0_2.toInt < 16 ∧ 256 < x_t0_1.toInt → (-2 : Int32).toInt = -2 ∧ x_k0_2.toInt = x_k0_2.toInt by have q0 := (show (-2 : Int32).toInt = -2 from by decide); omega), (show x_k0_2.toInt < 16 ∧ x_t0_1.toInt ≤ 256 → (-2 : Int32).toInt = x_k0_2.toInt ∧ x_k0_2.toInt = x_k0_2.toInt + 1 by have q0 := r18_3.1; have q1 := (show (-2 : Int32).toInt = -2 from by decide); omega), (fun hc => absurd hc (show ¬ (x_k0_2.toInt < 16 ∧ x_t0_1.toInt ≤ 256) by have q0 := r18_3.1; omega)), (fun hc => absurd hc (show ¬ (x_k0_2.toInt < 16 ∧ x_t0_1.toInt ≤ 256) by have q0 := r18_3.1; omega)), (fun hc9 => EQF.rf), (fun hc9 => EQF.rf)⟩ hP hD hS [0, 1, 2, 3, 4] rfl (by decide) rfl (Nat.le_of_ble_eq_true rfl) (Nat.le_of_ble_eq_true rfl)
  · have t6_2 := FF.mk (i_nlt c6_1)
    have r6_3 : rg x_k0_2 16 16 := rg_leB t6_2 (show rg (16 : Int32) 16 16 from rg_l (by decide)) h_x_k0_2 (by decide)
    refine lv_iconst (v := (-1)) hx hb dX6_add_9 (by decide) ?_
    exact endq_i hQ hx hb hr hlocks dX6_add_10 rfl (x_k0_2, g_k0l, g_k0c) ⟨(rg_w (show rg ((-1) : Int32) (-1) (-1) from rg_l (by decide)) (by decide)), (rg_w r6_3 (by decide)), h_g_k0l, h_g_k0c, (show x_k0_2.toInt + 0 ≤ x_k0_2.toInt ∧ x_k0_2.toInt ≤ x_k0_2.toInt + 1 by omega), (show 16 ≤ x_k0_2.toInt → (-1 : Int32).toInt = -1 ∧ x_k0_2.toInt = x_k0_2.toInt by have q0 := (show (-1 : Int32).toInt = -1 from by decide); omega), (show x_k0_2.toInt < 16 ∧ 256 < x_t0_1.toInt → (-1 : Int32).toInt = -2 ∧ x_k0_2.toInt = x_k0_2.toInt by have q0 := r6_3.1; have q1 := (show (-1 : Int32).toInt = -1 from by decide); omega), (show x_k0_2.toInt < 16 ∧ x_t0_1.toInt ≤ 256 → (-1 : Int32).toInt = x_k0_2.toInt ∧ x_k0_2.toInt = x_k0_2.toInt + 1 by have q0 := r6_3.1; have q1 := (show (-1 : Int32).toInt = -1 from by decide); omega), (fun hc => absurd hc (show ¬ (x_k0_2.toInt < 16 ∧ x_t0_1.toInt ≤ 256) by have q0 := r6_3.1; omega)), (fun hc => absurd hc (show ¬ (x_k0_2.toInt < 16 ∧ x_t0_1.toInt ≤ 256) by have q0 := r6_3.1; omega)), (fun hc9 => EQF.rf), (fun hc9 => EQF.rf)⟩ hP hD hS [0, 1, 2, 3, 4] rfl (by decide) rfl (Nat.le_of_ble_eq_true rfl) (Nat.le_of_ble_eq_true rfl)
set_option maxHeartbeats 2000000 in
theorem c_X11_packet_w (l : Launch) (D : va_G) (ct : Nat → ClassId) (ff : Nat) (t0 : Nat) (k0 : Nat) (m0 : Nat) (o0 : Nat) (f0 : Nat) (f1 : Nat) (p0 : Nat) (p1 : Nat) (x_ff_8 : Int32) (rd : Nat) (cd : Nat) (tl : Nat) (in0 : Nat) (in1 : Nat) (k0c : Nat) (k0l : Nat) (x_k0_2 : Int32) (t0r : Nat) (x_t0_1 : Int32) (g_k0l : Nat → Int32) (g_t0r : Nat → Int32) (g_k0c : Nat → Int32) (h_x_ff_8 : rg x_ff_8 0 1) (h_x_k0_2 : rg x_k0_2 0 16) (h_x_t0_1 : rg x_t0_1 0 2000) (h_g_k0l : Rg g_k0l 16 0 256) (h_g_t0r : Rg g_t0r 2000 (-128) 127) (h_g_k0c : Rg g_k0c 4096 (-128) 127) : KI (S := Int32 × (Nat → Int32) × (Nat → Int32)) l yX11_packet cX11_packet 2 (some .int) 3 63 D ct [.ref ff] [(ff, .inr (11, [.ref t0, .ref k0, .ref m0, .ref o0, .ref f0, .ref f1, .ref p0, .ref p1, .int x_ff_8, .ref rd, .ref cd, .ref tl, .ref in0, .ref in1])), (k0, .inr (6, [.ref k0c, .ref k0l, .int x_k0_2])), (t0, .inr (9, [.ref t0r, .int x_t0_1])), (k0l, .inl (ct 1, 16, .inl g_k0l)), (t0r, .inl (ct 0, 2000, .inl g_t0r)), (k0c, .inl (ct 0, 4096, .inl g_k0c))] 0 0 (fun (r : Int32) (u : Int32 × (Nat → Int32) × (Nat → Int32)) => match u with | (y_k0_2, k_k0l, k_k0c) => rg r (-2) 15 ∧ rg y_k0_2 0 16 ∧ Rg k_k0l 16 0 256 ∧ Rg k_k0c 4096 (-128) 127 ∧ (x_k0_2.toInt + 0 ≤ y_k0_2.toInt ∧ y_k0_2.toInt ≤ x_k0_2.toInt + 1) ∧ (16 ≤ x_k0_2.toInt → r.toInt = -1 ∧ y_k0_2.toInt = x_k0_2.toInt) ∧ (x_k0_2.toInt < 16 ∧ 256 < x_t0_1.toInt → r.toInt = -2 ∧ y_k0_2.toInt = x_k0_2.toInt) ∧ (x_k0_2.toInt < 16 ∧ x_t0_1.toInt ≤ 256 → r.toInt = x_k0_2.toInt ∧ y_k0_2.toInt = x_k0_2.toInt + 1) ∧ (x_k0_2.toInt < 16 ∧ x_t0_1.toInt ≤ 256 → CP g_k0c k_k0c g_t0r (256 * x_k0_2.toInt) x_t0_1.toInt) ∧ (x_k0_2.toInt < 16 ∧ x_t0_1.toInt ≤ 256 → UPE g_k0l k_k0l x_k0_2.toInt x_t0_1.toInt) ∧ (16 ≤ x_k0_2.toInt ∨ 256 < x_t0_1.toInt → EQF g_k0c k_k0c) ∧ (16 ≤ x_k0_2.toInt ∨ 256 < x_t0_1.toInt → EQF g_k0l k_k0l)) (fun (u : Int32 × (Nat → Int32) × (Nat → Int32)) => match u with | (y_k0_2, k_k0l, k_k0c) => [(ff, .inr (11, [.ref t0, .ref k0, .ref m0, .ref o0, .ref f0, .ref f1, .ref p0, .ref p1, .int x_ff_8, .ref rd, .ref cd, .ref tl, .ref in0, .ref in1])), (k0, .inr (6, [.ref k0c, .ref k0l, .int y_k0_2])), (t0, .inr (9, [.ref t0r, .int 0])), (k0l, .inl (ct 1, 16, .inl k_k0l)), (t0r, .inl (ct 0, 2000, .inl g_t0r)), (k0c, .inl (ct 0, 4096, .inl k_k0c))]) := by
  refine KIq_of (by decide) (Nat.le_of_ble_eq_true rfl) (fun p e s m below meth c A Q C0 hA H locs hS hP hD hQ ls hl => ?_)
  obtain ⟨hx, hb, hr, hown, hin, hml, hlocks, hn, hK, hZ, hSK⟩ := C0
  have hl : lv_has ls 2 [(0, .ref ff)] := hl
  refine lv_aload_n hx hb dX11_packet_0 rfl (lv_at hl 0 rfl) ?_
  refine va_get (D := D) (ci := 11) (v := .ref k0) (C := RX11) (T := TX11) (N := 14) hx hb (htX11 hn) (fun _ h => h) hown hK hP 0 rfl rfl 1 (by decide) (hn.get mw_382 rfl) (fun _ h9 => h9) rfl dX11_packet_1 ?_
  refine lv_aload_n hx hb dX11_packet_4 rfl (lv_at hl 0 rfl) ?_
  refine va_get (D := D) (ci := 11) (v := .ref t0) (C := RX11) (T := TX11) (N := 14) hx hb (htX11 hn) (fun _ h => h) hown hK hP 0 rfl rfl 0 (by decide) (hn.get mw_381 rfl) (fun _ h9 => h9) rfl dX11_packet_5 ?_
  refine go_i (k1 := 0) (n1 := 0) (wr := [(ff, .inr (11, [.ref t0, .ref k0, .ref m0, .ref o0, .ref f0, .ref f1, .ref p0, .ref p1, .int x_ff_8, .ref rd, .ref cd, .ref tl, .ref in0, .ref in1]))]) [1, 2, 3, 4, 5] [0] (rn_VN (As := [.ref t0]) (rest := []) (c_X6_add_w l D ct k0 t0 k0c k0l x_k0_2 t0r x_t0_1 g_k0l g_t0r g_k0c h_x_k0_2 h_x_t0_1 h_g_k0l h_g_t0r h_g_k0c _) (cn_of (n := 1) hn mw_448 mw_3 mw_445 mhX6_add ⟨(Nat.le_of_ble_eq_true rfl), (Nat.le_of_ble_eq_true rfl)⟩) hx hb hml hown hn hK hSK hZ hS mw_447 mw_s2 (ci := 6) (q0 := 0) rfl rfl rfl rfl hl.1 (Nat.le_of_ble_eq_true rfl) dX11_packet_8 ⟨(Nat.le_of_ble_eq_true rfl), (Nat.le_of_ble_eq_true rfl)⟩) hP hD hS hA rfl rfl (by decide) (by decide) (by decide) (Nat.le_of_ble_eq_true rfl) (Nat.le_of_ble_eq_true rfl) (fun r8_1 u8_2 H locs hp8_3 hP hD hS => ?_)
  obtain ⟨y_k0_28_4, k_k0l8_5, k_k0c8_6⟩ := u8_2
  obtain ⟨hp8_7, hp8_8, hp8_9, hp8_10, hp8_11, hp8_12, hp8_13, hp8_14, hp8_15, hp8_16, hp8_17, hp8_18⟩ := hp8_3
  have hp8_7 : rg r8_1 (-2) 15 := hp8_7
  have hp8_8 : rg y_k0_28_4 0 16 := hp8_8
  replace hp8_11 : FF (x_k0_2.toInt + 0 ≤ y_k0_28_4.toInt ∧ y_k0_28_4.toInt ≤ x_k0_2.toInt + 1) := hp8_11
  replace hp8_12 : FF (16 ≤ x_k0_2.toInt → r8_1.toInt = -1 ∧ y_k0_28_4.toInt = x_k0_2.toInt) := hp8_12
  replace hp8_13 : FF (x_k0_2.toInt < 16 ∧ 256 < x_t0_1.toInt → r8_1.toInt = -2 ∧ y_k0_28_4.toInt = x_k0_2.toInt) := hp8_13
  replace hp8_14 : FF (x_k0_2.toInt < 16 ∧ x_t0_1.toInt ≤ 256 → r8_1.toInt = x_k0_2.toInt ∧ y_k0_28_4.toInt = x_k0_2.toInt + 1) := hp8_14
  have hp8_15 : x_k0_2.toInt < 16 ∧ x_t0_1.toInt ≤ 256 → CP g_k0c k_k0c8_6 g_t0r (256 * x_k0_2.toInt) x_t0_1.toInt := hp8_15
  have hp8_16 : x_k0_2.toInt < 16 ∧ x_t0_1.toInt ≤ 256 → UPE g_k0l k_k0l8_5 x_k0_2.toInt x_t0_1.toInt := hp8_16
  have hp8_17 : 16 ≤ x_k0_2.toInt ∨ 256 < x_t0_1.toInt → EQF g_k0c k_k0c8_6 := hp8_17
  have hp8_18 : 16 ≤ x_k0_2.toInt ∨ 256 < x_t0_1.toInt → EQF g_k0l k_k0l8_5 := hp8_18
  have hP : va_P D vwCl [(ff, .inr (11, [.ref t0, .ref k0, .ref m0, .ref o0, .ref f0, .ref f1, .ref p0, .ref p1, .int x_ff_8, .ref rd, .ref cd, .ref tl, .ref in0, .ref in1])), (k0, .inr (6, [.ref k0c, .ref k0l, .int y_k0_28_4])), (t0, .inr (9, [.ref t0r, .int x_t0_1])), (k0l, .inl (ct 1, 16, .inl k_k0l8_5)), (t0r, .inl (ct 0, 2000, .inl g_t0r)), (k0c, .inl (ct 0, 4096, .inl k_k0c8_6))] _ := hP
  have hD : va_D A [(ff, .inr (11, [.ref t0, .ref k0, .ref m0, .ref o0, .ref f0, .ref f1, .ref p0, .ref p1, .int x_ff_8, .ref rd, .ref cd, .ref tl, .ref in0, .ref in1])), (k0, .inr (6, [.ref k0c, .ref k0l, .int y_k0_28_4])), (t0, .inr (9, [.ref t0r, .int x_t0_1])), (k0l, .inl (ct 1, 16, .inl k_k0l8_5)), (t0r, .inl (ct 0, 2000, .inl g_t0r)), (k0c, .inl (ct 0, 4096, .inl k_k0c8_6))] := hD
  refine lv_istore_n (lv' := [(1, .int r8_1), (0, .ref ff)]) hx hb dX11_packet_11 rfl hl (by decide) rfl (fun ls hl => ?_)
  refine lv_aload_n hx hb dX11_packet_12 rfl (lv_at hl 1 rfl) ?_
  refine va_get (D := D) (ci := 11) (v := .ref t0) (C := RX11) (T := TX11) (N := 14) hx hb (htX11 hn) (fun _ h => h) hown hK hP 0 rfl rfl 0 (by decide) (hn.get mw_381 rfl) (fun _ h9 => h9) rfl dX11_packet_13 ?_
  refine lv_iconst (v := 0) hx hb dX11_packet_16 (by decide) ?_
  refine va_putN (D := D) (ci := 9) (v := .int 0) (ty := .int) (C := RX9) (T := TX9) (N := 2) hx hb (htX9 hn) (fun _ h => h) tyX9 tyX9_ok nmX9 hown hK hP hD hS 2 rfl rfl 1 (by decide) (hn.get mw_47 rfl) (fun _ h9 => h9) rfl (by decide +kernel) rfl rfl (Nat.le_of_ble_eq_true rfl) dX11_packet_17 (fun H locs hP hD hS => ?_)
  have hP : va_P D vwCl [(ff, .inr (11, [.ref t0, .ref k0, .ref m0, .ref o0, .ref f0, .ref f1, .ref p0, .ref p1, .int x_ff_8, .ref rd, .ref cd, .ref tl, .ref in0, .ref in1])), (k0, .inr (6, [.ref k0c, .ref k0l, .int y_k0_28_4])), (t0, .inr (9, [.ref t0r, .int 0])), (k0l, .inl (ct 1, 16, .inl k_k0l8_5)), (t0r, .inl (ct 0, 2000, .inl g_t0r)), (k0c, .inl (ct 0, 4096, .inl k_k0c8_6))] _ := hP
  have hD : va_D A [(ff, .inr (11, [.ref t0, .ref k0, .ref m0, .ref o0, .ref f0, .ref f1, .ref p0, .ref p1, .int x_ff_8, .ref rd, .ref cd, .ref tl, .ref in0, .ref in1])), (k0, .inr (6, [.ref k0c, .ref k0l, .int y_k0_28_4])), (t0, .inr (9, [.ref t0r, .int 0])), (k0l, .inl (ct 1, 16, .inl k_k0l8_5)), (t0r, .inl (ct 0, 2000, .inl g_t0r)), (k0c, .inl (ct 0, 4096, .inl k_k0c8_6))] := hD
  refine lv_iload_n hx hb dX11_packet_20 rfl (lv_at hl 0 rfl) ?_
  exact endq_i hQ hx hb hr hlocks dX11_packet_21 rfl (y_k0_28_4, k_k0l8_5, k_k0c8_6) ⟨hp8_7, hp8_8, hp8_9, hp8_10, (show x_k0_2.toInt + 0 ≤ y_k0_28_4.toInt ∧ y_k0_28_4.toInt ≤ x_k0_2.toInt + 1 by have q0 := FF.out hp8_11; omega), (show 16 ≤ x_k0_2.toInt → r8_1.toInt = -1 ∧ y_k0_28_4.toInt = x_k0_2.toInt by have q0 := FF.out hp8_11; have q1 := FF.out hp8_12; omega), (show x_k0_2.toInt < 16 ∧ 256 < x_t0_1.toInt → r8_1.toInt = -2 ∧ y_k0_28_4.toInt = x_k0_2.toInt by have q0 := hp8_7.1; have q1 := FF.out hp8_11; have q2 := FF.out hp8_13; omega), (show x_k0_2.toInt < 16 ∧ x_t0_1.toInt ≤ 256 → r8_1.toInt = x_k0_2.toInt ∧ y_k0_28_4.toInt = x_k0_2.toInt + 1 by have q0 := FF.out hp8_11; have q1 := FF.out hp8_14; omega), (fun hc => hp8_15 (show x_k0_2.toInt < 16 ∧ x_t0_1.toInt ≤ 256 by have q0 := hc; omega)), (fun hc => hp8_16 (show x_k0_2.toInt < 16 ∧ x_t0_1.toInt ≤ 256 by have q0 := hc; omega)), (fun hc => hp8_17 (show 16 ≤ x_k0_2.toInt ∨ 256 < x_t0_1.toInt by have q0 := hc; omega)), (fun hc => hp8_18 (show 16 ≤ x_k0_2.toInt ∨ 256 < x_t0_1.toInt by have q0 := hc; omega))⟩ hP hD hS [0, 1, 2, 3, 4, 5] rfl (by decide) rfl (Nat.le_of_ble_eq_true rfl) (Nat.le_of_ble_eq_true rfl)
set_option maxHeartbeats 2000000 in
theorem c_X16_packet_w (l : Launch) (D : va_G) (ct : Nat → ClassId) (mm : Nat) (fs_mm : List Value) (utape : Nat) (x_mm_1 : Int32) (upb : Nat) (upl_ : Nat) (x_mm_4 : Int32) (g_upl_ : Nat → Int32) (g_utape : Nat → Int32) (g_upb : Nat → Int32) (hlen_mm : fs_mm.length = 78) (hf_mm_0 : fs_mm[0]? = some (.ref utape)) (h_x_mm_1 : rg x_mm_1 0 2000) (hf_mm_1 : fs_mm[1]? = some (.int x_mm_1)) (hf_mm_2 : fs_mm[2]? = some (.ref upb)) (hf_mm_3 : fs_mm[3]? = some (.ref upl_)) (h_x_mm_4 : rg x_mm_4 0 16) (hf_mm_4 : fs_mm[4]? = some (.int x_mm_4)) (h_g_upl_ : Rg g_upl_ 16 0 256) (h_g_utape : Rg g_utape 2000 0 255) (h_g_upb : Rg g_upb 4096 0 255) : KI (S := List Value × Int32 × (Nat → Int32) × (Nat → Int32)) l yX16_packet cX16_packet 3 (some .int) 1 20 D ct [.ref mm] [(mm, .inr (16, fs_mm)), (upl_, .inl (ct 1, 16, .inl g_upl_)), (utape, .inl (ct 1, 2000, .inl g_utape)), (upb, .inl (ct 1, 4096, .inl g_upb))] 0 0 (fun (r : Int32) (u : List Value × Int32 × (Nat → Int32) × (Nat → Int32)) => match u with | (fs2_mm, y_mm_4, k_upl_, k_upb) => rg r (-2) 15 ∧ SB fs_mm fs2_mm [1, 4] ∧ fs2_mm[1]? = some (.int 0) ∧ rg y_mm_4 0 16 ∧ fs2_mm[4]? = some (.int y_mm_4) ∧ Rg k_upl_ 16 0 256 ∧ Rg k_upb 4096 0 255 ∧ (16 ≤ x_mm_4.toInt → r.toInt = -1 ∧ y_mm_4.toInt = x_mm_4.toInt) ∧ (x_mm_4.toInt < 16 ∧ 256 < x_mm_1.toInt → r.toInt = -2 ∧ y_mm_4.toInt = x_mm_4.toInt) ∧ (x_mm_4.toInt < 16 ∧ x_mm_1.toInt ≤ 256 → r.toInt = x_mm_4.toInt ∧ y_mm_4.toInt = x_mm_4.toInt + 1) ∧ (x_mm_4.toInt < 16 ∧ x_mm_1.toInt ≤ 256 → CP g_upb k_upb g_utape (256 * x_mm_4.toInt) x_mm_1.toInt) ∧ (x_mm_4.toInt < 16 ∧ x_mm_1.toInt ≤ 256 → UPE g_upl_ k_upl_ x_mm_4.toInt x_mm_1.toInt) ∧ (16 ≤ x_mm_4.toInt ∨ 256 < x_mm_1.toInt → EQF g_upb k_upb) ∧ (16 ≤ x_mm_4.toInt ∨ 256 < x_mm_1.toInt → EQF g_upl_ k_upl_)) (fun (u : List Value × Int32 × (Nat → Int32) × (Nat → Int32)) => match u with | (fs2_mm, y_mm_4, k_upl_, k_upb) => [(mm, .inr (16, fs2_mm)), (upl_, .inl (ct 1, 16, .inl k_upl_)), (utape, .inl (ct 1, 2000, .inl g_utape)), (upb, .inl (ct 1, 4096, .inl k_upb))]) := by
  refine KIq_of (by decide) (Nat.le_of_ble_eq_true rfl) (fun p e s m below meth c A Q C0 hA H locs hS hP hD hQ ls hl => ?_)
  obtain ⟨hx, hb, hr, hown, hin, hml, hlocks, hn, hK, hZ, hSK⟩ := C0
  have hl : lv_has ls 3 [(0, .ref mm)] := hl
  refine lv_aload_n hx hb dX16_packet_0 rfl (lv_at hl 0 rfl) ?_
  refine va_get (D := D) (ci := 16) (v := .int x_mm_1) (C := RX16) (T := TX16) (N := 78) hx hb (htX16 hn) (fun _ h => h) hown hK hP 0 rfl rfl 1 (by decide) (hn.get mw_1540 rfl) (fun _ h9 => h9) hf_mm_1 dX16_packet_1 ?_
  refine lv_istore_n (lv' := [(1, .int x_mm_1), (0, .ref mm)]) hx hb dX16_packet_4 rfl hl (by decide) rfl (fun ls hl => ?_)
  refine lv_aload_n hx hb dX16_packet_5 rfl (lv_at hl 1 rfl) ?_
  refine lv_iconst (v := 0) hx hb dX16_packet_6 (by decide) ?_
  refine va_put (D := D) (ci := 16) (v := .int 0) (ty := .int) (C := RX16) (T := TX16) (N := 78) hx hb (htX16 hn) (fun _ h => h) tyX16 tyX16_ok nmX16 hown hK hP hD hS 0 rfl rfl 1 (by decide) (hn.get mw_1540 rfl) (fun _ h9 => h9) rfl (by decide +kernel) rfl rfl (by rw [hlen_mm]; decide) dX16_packet_7 (fun H locs hP hD hS => ?_)
  have hP : va_P D vwCl [(mm, .inr (16, (fs_mm.set 1 (.int 0)))), (upl_, .inl (ct 1, 16, .inl g_upl_)), (utape, .inl (ct 1, 2000, .inl g_utape)), (upb, .inl (ct 1, 4096, .inl g_upb))] _ := hP
  have hD : va_D A [(mm, .inr (16, (fs_mm.set 1 (.int 0)))), (upl_, .inl (ct 1, 16, .inl g_upl_)), (utape, .inl (ct 1, 2000, .inl g_utape)), (upb, .inl (ct 1, 4096, .inl g_upb))] := hD
  obtain ⟨m7_1, em7_1⟩ : ∃ z, z = (fs_mm.set 1 (.int 0)) := ⟨_, rfl⟩
  rw [← em7_1] at hP hD
  have hsm7_1 : SB fs_mm m7_1 [1, 4] := by rw [em7_1]; exact SB.set (SB.rf _ _) (by decide)
  have hfm7_1_4 : m7_1[4]? = some (.int x_mm_4) := by rw [em7_1]; exact fs_ne (by decide) hf_mm_4
  have hfm7_1_1 : m7_1[1]? = some (.int 0) := by rw [em7_1]; exact fs_eq (by rw [hlen_mm]; decide)
  have hP : va_P D vwCl [(mm, .inr (16, m7_1)), (upl_, .inl (ct 1, 16, .inl g_upl_)), (utape, .inl (ct 1, 2000, .inl g_utape)), (upb, .inl (ct 1, 4096, .inl g_upb))] _ := hP
  have hD : va_D A [(mm, .inr (16, m7_1)), (upl_, .inl (ct 1, 16, .inl g_upl_)), (utape, .inl (ct 1, 2000, .inl g_utape)), (upb, .inl (ct 1, 4096, .inl g_upb))] := hD
  refine lv_aload_n hx hb dX16_packet_10 rfl (lv_at hl 1 rfl) ?_
  refine va_get (D := D) (ci := 16) (v := .int x_mm_4) (C := RX16) (T := TX16) (N := 78) hx hb (htX16 hn) (fun _ h => h) hown hK hP 0 rfl rfl 4 (by decide) (hn.get mw_1543 rfl) (fun _ h9 => h9) hfm7_1_4 dX16_packet_11 ?_
  refine lv_bipush (v := 16) hx hb dX16_packet_14 (by decide) ?_
  refine lv_icmp_ne (tgt := 21) hx hb dX16_packet_16 (by decide) (fun c16_1 => ?_) (fun c16_1 => ?_)
  · have t16_2 := FF.mk (i_ne c16_1)
    have r16_3 : rg x_mm_4 0 15 := rg_neAh t16_2 h_x_mm_4 (show rg (16 : Int32) 16 16 from rg_l (by decide)) (by decide)
    refine lv_iload_n hx hb dX16_packet_21 rfl (lv_at hl 0 rfl) ?_
    refine lv_sipush (v := 256) hx hb dX16_packet_22 (by decide) ?_
    refine lv_icmp_le (tgt := 31) hx hb dX16_packet_25 (by decide) (fun c25_1 => ?_) (fun c25_1 => ?_)
    · have t25_2 := FF.mk (i_le c25_1)
      have r25_3 : rg x_mm_1 0 256 := rg_leA t25_2 h_x_mm_1 (show rg (256 : Int32) 256 256 from rg_l (by decide)) (by decide)
      refine lv_iconst (v := 0) hx hb dX16_packet_31 (by decide) ?_
      refine lv_istore_n (lv' := [(2, .int 0), (1, .int x_mm_1), (0, .ref mm)]) hx hb dX16_packet_32 rfl hl (by decide) rfl (fun ls hl => ?_)
      have b33 : ∀ (n33 : Nat) (j33_l2 : Int32) (j33_cupb : Nat → Int32) (H : Heap) (locs : List Loc) (ls : Array Slot), (rg j33_l2 0 256) → (Rg j33_cupb 4096 0 255) → (CP g_upb j33_cupb g_utape (256 * x_mm_4.toInt) j33_l2.toInt) → (FF (j33_l2.toInt ≤ x_mm_1.toInt)) → ((2147483647 : Int) - j33_l2.toInt).toNat < n33 → lv_has ls 3 [(0, .ref mm), (1, .int x_mm_1), (2, .int j33_l2)] → va_P D vwCl [(mm, .inr (16, m7_1)), (upl_, .inl (ct 1, 16, .inl g_upl_)), (utape, .inl (ct 1, 2000, .inl g_utape)), (upb, .inl (ct 1, 4096, .inl j33_cupb))] H → va_D A [(mm, .inr (16, m7_1)), (upl_, .inl (ct 1, 16, .inl g_upl_)), (utape, .inl (ct 1, 2000, .inl g_utape)), (upb, .inl (ct 1, 4096, .inl j33_cupb))] → va_S A s.heap H locs → W p l e ({ frames := 1, cells := 0, slots := 0, locals := 20 }) s m [.ref mm].toArray below meth c H locs 0 0 Q (F0 m 33 ls []) := by
        intro n33
        induction n33 with
        | zero => intros; rename_i hms _ _ _ _; exact absurd hms (Nat.not_lt_zero _)
        | succ n33 ih33 =>
          intro j33_l2 j33_cupb H locs ls r33_1001 hc33_1002 hg33_1003 hi33_1004 hms33 hl hP hD hS
          refine lv_iload_n hx hb dX16_packet_33 rfl (lv_at hl 2 rfl) ?_
          refine lv_iload_n hx hb dX16_packet_34 rfl (lv_at hl 1 rfl) ?_
          refine lv_icmp_ge (tgt := 65) hx hb dX16_packet_35 (by decide) (fun c35_1 => ?_) (fun c35_1 => ?_)
          · have t35_2 := FF.mk (i_le c35_1)
            refine lv_aload_n hx hb dX16_packet_65 rfl (lv_at hl 0 rfl) ?_
            refine va_get (D := D) (ci := 16) (v := .ref upl_) (C := RX16) (T := TX16) (N := 78) hx hb (htX16 hn) (fun _ h => h) hown hK hP 0 rfl rfl 3 (by decide) (hn.get mw_1542 rfl) (fun _ h9 => h9) (SB.get hsm7_1 (by decide) hf_mm_3) dX16_packet_66 ?_
            refine lv_aload_n hx hb dX16_packet_69 rfl (lv_at hl 0 rfl) ?_
            refine va_get (D := D) (ci := 16) (v := .int x_mm_4) (C := RX16) (T := TX16) (N := 78) hx hb (htX16 hn) (fun _ h => h) hown hK hP 0 rfl rfl 4 (by decide) (hn.get mw_1543 rfl) (fun _ h9 => h9) hfm7_1_4 dX16_packet_70 ?_
            refine lv_iload_n hx hb dX16_packet_73 rfl (lv_at hl 1 rfl) ?_
            have hi74_1 : vp_in x_mm_4 16 := (in_rg r16_3 (by decide))
            refine va_iast hx hb hK hP hD hS 1 1 rfl rfl hi74_1 dX16_packet_74 (fun H locs hP hD hS => ?_)
            have hP : va_P D vwCl [(mm, .inr (16, m7_1)), (upl_, .inl (ct 1, 16, .inl (upd g_upl_ x_mm_4.toNatClampNeg x_mm_1))), (utape, .inl (ct 1, 2000, .inl g_utape)), (upb, .inl (ct 1, 4096, .inl j33_cupb))] _ := hP
            have hD : va_D A [(mm, .inr (16, m7_1)), (upl_, .inl (ct 1, 16, .inl (upd g_upl_ x_mm_4.toNatClampNeg x_mm_1))), (utape, .inl (ct 1, 2000, .inl g_utape)), (upb, .inl (ct 1, 4096, .inl j33_cupb))] := hD
            obtain ⟨f74_2, ef74_2⟩ : ∃ z, z = (upd g_upl_ x_mm_4.toNatClampNeg x_mm_1) := ⟨_, rfl⟩
            rw [← ef74_2] at hP hD
            have hc74_3 : Rg f74_2 16 0 256 := Rg_upd ef74_2 h_g_upl_ r25_3
            refine lv_aload_n hx hb dX16_packet_75 rfl (lv_at hl 0 rfl) ?_
            refine lv_dup hx hb dX16_packet_76 rfl ?_
            refine va_get (D := D) (ci := 16) (v := .int x_mm_4) (C := RX16) (T := TX16) (N := 78) hx hb (htX16 hn) (fun _ h => h) hown hK hP 0 rfl rfl 4 (by decide) (hn.get mw_1543 rfl) (fun _ h9 => h9) hfm7_1_4 dX16_packet_77 ?_
            refine lv_iconst (v := 1) hx hb dX16_packet_80 (by decide) ?_
            refine lv_iadd hx hb dX16_packet_81 ?_
            refine lv_topi (fun z81_1 ez81_1 => ?_)
            have r81_2 : rg z81_1 1 16 := rg_add ez81_1 r16_3 (show rg (1 : Int32) 1 1 from rg_l (by decide)) (by decide)
            refine va_put (D := D) (ci := 16) (v := .int z81_1) (ty := .int) (C := RX16) (T := TX16) (N := 78) hx hb (htX16 hn) (fun _ h => h) tyX16 tyX16_ok nmX16 hown hK hP hD hS 0 rfl rfl 4 (by decide) (hn.get mw_1543 rfl) (fun _ h9 => h9) rfl (by decide +kernel) rfl rfl (by rw [hsm7_1.1, hlen_mm]; decide) dX16_packet_82 (fun H locs hP hD hS => ?_)
            have hP : va_P D vwCl [(mm, .inr (16, (m7_1.set 4 (.int z81_1)))), (upl_, .inl (ct 1, 16, .inl f74_2)), (utape, .inl (ct 1, 2000, .inl g_utape)), (upb, .inl (ct 1, 4096, .inl j33_cupb))] _ := hP
            have hD : va_D A [(mm, .inr (16, (m7_1.set 4 (.int z81_1)))), (upl_, .inl (ct 1, 16, .inl f74_2)), (utape, .inl (ct 1, 2000, .inl g_utape)), (upb, .inl (ct 1, 4096, .inl j33_cupb))] := hD
            obtain ⟨m82_1, em82_1⟩ : ∃ z, z = (m7_1.set 4 (.int z81_1)) := ⟨_, rfl⟩
            rw [← em82_1] at hP hD
            have hsm82_1 : SB fs_mm m82_1 [1, 4] := by rw [em82_1]; exact SB.set hsm7_1 (by decide)
            have hfm82_1_1 : m82_1[1]? = some (.int 0) := by rw [em82_1]; exact fs_ne (by decide) hfm7_1_1
            have hfm82_1_4 : m82_1[4]? = some (.int z81_1) := by rw [em82_1]; exact fs_eq (by rw [hsm7_1.1, hlen_mm]; decide)
            have hP : va_P D vwCl [(mm, .inr (16, m82_1)), (upl_, .inl (ct 1, 16, .inl f74_2)), (utape, .inl (ct 1, 2000, .inl g_utape)), (upb, .inl (ct 1, 4096, .inl j33_cupb))] _ := hP
            have hD : va_D A [(mm, .inr (16, m82_1)), (upl_, .inl (ct 1, 16, .inl f74_2)), (utape, .inl (ct 1, 2000, .inl g_utape)), (upb, .inl (ct 1, 4096, .inl j33_cupb))] := hD
            refine lv_aload_n hx hb dX16_packet_85 rfl (lv_at hl 0 rfl) ?_
            refine va_get (D := D) (ci := 16) (v := .int z81_1) (C := RX16) (T := TX16) (N := 78) hx hb (htX16 hn) (fun _ h => h) hown hK hP 0 rfl rfl 4 (by decide) (hn.get mw_1543 rfl) (fun _ h9 => h9) hfm82_1_4 dX16_packet_86 ?_
            refine lv_iconst (v := 1) hx hb dX16_packet_89 (by decide) ?_
            refine lv_isub hx hb dX16_packet_90 ?_
            refine lv_topi (fun z90_1 ez90_1 => ?_)
            have r90_2 : rg z90_1 0 15 := rg_sub ez90_1 r81_2 (show rg (1 : Int32) 1 1 from rg_l (by decide)) (by decide)
            exact endq_i hQ hx hb hr hlocks dX16_packet_91 rfl (m82_1, z81_1, f74_2, j33_cupb) ⟨(rg_w r90_2 (by decide)), hsm82_1, hfm82_1_1, (rg_w r81_2 (by decide)), hfm82_1_4, hc74_3, hc33_1002, (show 16 ≤ x_mm_4.toInt → z90_1.toInt = -1 ∧ z81_1.toInt = x_mm_4.toInt by have q0 := r16_3.2; omega), (show x_mm_4.toInt < 16 ∧ 256 < x_mm_1.toInt → z90_1.toInt = -2 ∧ z81_1.toInt = x_mm_4.toInt by have q0 := r25_3.2; omega), (show x_mm_4.toInt < 16 ∧ x_mm_1.toInt ≤ 256 → z90_1.toInt = x_mm_4.toInt ∧ z81_1.toInt = x_mm_4.toInt + 1 by have q0 := (eq_add ez81_1 r16_3 (show rg (1 : Int32) 1 1 from rg_l (by decide)) (by decide)); have q1 := (eq_sub ez90_1 r81_2 (show rg (1 : Int32) 1 1 from rg_l (by decide)) (by decide)); have q2 := (show (1 : Int32).toInt = 1 from by decide); omega), (fun hc9 => (((show j33_l2.toInt = x_mm_1.toInt by have q0 := FF.out hi33_1004; have q1 := FF.out t35_2; omega) : j33_l2.toInt = x_mm_1.toInt) ▸ hg33_1003)), (fun hc9 => (UPE.of ef74_2 (show 0 ≤ x_mm_4.toInt by have q0 := r16_3.1; omega) (show x_mm_4.toInt = x_mm_4.toInt by omega) (show x_mm_1.toInt = x_mm_1.toInt by omega))), (fun hc => absurd hc (show ¬ (16 ≤ x_mm_4.toInt ∨ 256 < x_mm_1.toInt) by have q0 := r25_3.2; have q1 := r16_3.2; omega)), (fun hc => absurd hc (show ¬ (16 ≤ x_mm_4.toInt ∨ 256 < x_mm_1.toInt) by have q0 := r25_3.2; have q1 := r16_3.2; omega))⟩ hP hD hS [0, 1, 2, 3] rfl (by decide) rfl (Nat.le_of_ble_eq_true rfl) (Nat.le_of_ble_eq_true rfl)
          · have t35_2 := FF.mk (i_nle c35_1)
            have r35_3 : rg j33_l2 0 255 := rg_ltA t35_2 r33_1001 r25_3 (by decide)
            have r35_4 : rg x_mm_1 1 256 := rg_ltB t35_2 r33_1001 r25_3 (by decide)
            refine lv_aload_n hx hb dX16_packet_38 rfl (lv_at hl 0 rfl) ?_
            refine va_get (D := D) (ci := 16) (v := .ref upb) (C := RX16) (T := TX16) (N := 78) hx hb (htX16 hn) (fun _ h => h) hown hK hP 0 rfl rfl 2 (by decide) (hn.get mw_1541 rfl) (fun _ h9 => h9) (SB.get hsm7_1 (by decide) hf_mm_2) dX16_packet_39 ?_
            refine lv_sipush (v := 256) hx hb dX16_packet_42 (by decide) ?_
            refine lv_aload_n hx hb dX16_packet_45 rfl (lv_at hl 0 rfl) ?_
            refine va_get (D := D) (ci := 16) (v := .int x_mm_4) (C := RX16) (T := TX16) (N := 78) hx hb (htX16 hn) (fun _ h => h) hown hK hP 0 rfl rfl 4 (by decide) (hn.get mw_1543 rfl) (fun _ h9 => h9) hfm7_1_4 dX16_packet_46 ?_
            refine lv_imul hx hb dX16_packet_49 ?_
            refine lv_topi (fun z49_1 ez49_1 => ?_)
            have r49_2 : rg z49_1 0 3840 := rg_mul ez49_1 (show rg (256 : Int32) 256 256 from rg_l (by decide)) r16_3 (by decide)
            refine lv_iload_n hx hb dX16_packet_50 rfl (lv_at hl 2 rfl) ?_
            refine lv_iadd hx hb dX16_packet_51 ?_
            refine lv_topi (fun z51_1 ez51_1 => ?_)
            have r51_2 : rg z51_1 0 4095 := rg_add ez51_1 r49_2 r35_3 (by decide)
            refine lv_aload_n hx hb dX16_packet_52 rfl (lv_at hl 0 rfl) ?_
            refine va_get (D := D) (ci := 16) (v := .ref utape) (C := RX16) (T := TX16) (N := 78) hx hb (htX16 hn) (fun _ h => h) hown hK hP 0 rfl rfl 0 (by decide) (hn.get mw_1539 rfl) (fun _ h9 => h9) (SB.get hsm7_1 (by decide) hf_mm_0) dX16_packet_53 ?_
            refine lv_iload_n hx hb dX16_packet_56 rfl (lv_at hl 2 rfl) ?_
            have hi57_1 : vp_in j33_l2 2000 := (in_rg r35_3 (by decide))
            refine va_iald hx hb hK hP 2 1 rfl rfl hi57_1 dX16_packet_57 ?_
            refine lv_topi (fun z57_2 ez57_2 => ?_)
            have r57_3 : rg z57_2 0 255 := Rg_at h_g_utape hi57_1 ez57_2
            have hi58_1 : vp_in z51_1 4096 := (in_rg r51_2 (by decide))
            refine va_iast hx hb hK hP hD hS 3 1 rfl rfl hi58_1 dX16_packet_58 (fun H locs hP hD hS => ?_)
            have hP : va_P D vwCl [(mm, .inr (16, m7_1)), (upl_, .inl (ct 1, 16, .inl g_upl_)), (utape, .inl (ct 1, 2000, .inl g_utape)), (upb, .inl (ct 1, 4096, .inl (upd j33_cupb z51_1.toNatClampNeg z57_2)))] _ := hP
            have hD : va_D A [(mm, .inr (16, m7_1)), (upl_, .inl (ct 1, 16, .inl g_upl_)), (utape, .inl (ct 1, 2000, .inl g_utape)), (upb, .inl (ct 1, 4096, .inl (upd j33_cupb z51_1.toNatClampNeg z57_2)))] := hD
            obtain ⟨f58_2, ef58_2⟩ : ∃ z, z = (upd j33_cupb z51_1.toNatClampNeg z57_2) := ⟨_, rfl⟩
            rw [← ef58_2] at hP hD
            have hc58_3 : Rg f58_2 4096 0 255 := Rg_upd ef58_2 hc33_1002 r57_3
            obtain ⟨x59_1, ex59_1⟩ : ∃ z : Int32, z = j33_l2 + 1 := ⟨_, rfl⟩
            have r59_2 : rg x59_1 1 256 := rg_add ex59_1 r35_3 (show rg (1 : Int32) 1 1 from rg_l (by decide)) (by decide)
            refine lv_iinc (v := x59_1) (lv' := [(2, .int x59_1), (0, .ref mm), (1, .int x_mm_1)]) hx hb dX16_packet_59 hl (k := 2) rfl (by rw [ex59_1]; rfl) (by decide) rfl (fun ls hl => ?_)
            refine lv_goto (tgt := 33) hx hb dX16_packet_62 (by decide) ?_
            exact ih33 x59_1 f58_2 H locs ls (rg_w r59_2 (by decide)) hc58_3 (CP.step hg33_1003 ef58_2 (show 0 ≤ (256 * x_mm_4.toInt) by have q0 := r16_3.1; omega) (show 0 ≤ j33_l2.toInt by have q0 := r35_3.1; omega) (show z51_1.toInt = (256 * x_mm_4.toInt) + j33_l2.toInt by have q0 := (eq_add ez51_1 r49_2 r35_3 (by decide)); have q1 := (eq_mull ez49_1 (show rg (256 : Int32) 256 256 from rg_l (by decide)) r16_3 (by decide)); omega) (show j33_l2.toInt = j33_l2.toInt by omega) (show z57_2.toInt % 256 = (g_utape j33_l2.toNatClampNeg).toInt % 256 by have q0 := (congrArg Int32.toInt ez57_2); omega) (show x59_1.toInt = j33_l2.toInt + 1 by have q0 := (eq_add ex59_1 r35_3 (show rg (1 : Int32) 1 1 from rg_l (by decide)) (by decide)); have q1 := (show (1 : Int32).toInt = 1 from by decide); omega)) (show x59_1.toInt ≤ x_mm_1.toInt by have q0 := (eq_add ex59_1 r35_3 (show rg (1 : Int32) 1 1 from rg_l (by decide)) (by decide)); have q1 := FF.out t35_2; have q2 := (show (1 : Int32).toInt = 1 from by decide); omega) (show ((2147483647 : Int) - x59_1.toInt).toNat < n33 by have q0 := r35_3.2; have q1 := (eq_add ex59_1 r35_3 (show rg (1 : Int32) 1 1 from rg_l (by decide)) (by decide)); have q2 := (show (1 : Int32).toInt = 1 from by decide); have q3 := hms33; omega) (lv_sub hl [1, 2, 0] rfl) hP hD hS
      exact b33 _ (0 : Int32) g_upb H locs ls (rg_w (show rg (0 : Int32) 0 0 from rg_l (by decide)) (by decide)) h_g_upb (CP.zero (show (0 : Int32).toInt ≤ 0 by have q0 := (show (0 : Int32).toInt = 0 from by decide); omega)) (show (0 : Int32).toInt ≤ x_mm_1.toInt by have q0 := r25_3.1; have q1 := (show (0 : Int32).toInt = 0 from by decide); omega) (Nat.lt_succ_self _) (lv_sub hl [2, 1, 0] rfl) hP hD hS
    · have t25_2 := FF.mk (i_nle c25_1)
      have r25_3 : rg x_mm_1 257 2000 := rg_ltB t25_2 (show rg (256 : Int32) 256 256 from rg_l (by decide)) h_x_mm_1 (by decide)
      refine lv_bipush (v := (-2)) hx hb dX16_packet_28 (by decide) ?_
      exact endq_i hQ hx hb hr hlocks dX16_packet_30 rfl (m7_1, x_mm_4, g_upl_, g_upb) ⟨(rg_w (show rg ((-2) : Int32) (-2) (-2) from rg_l (by decide)) (by decide)), hsm7_1, hfm7_1_1, (rg_w r16_3 (by decide)), hfm7_1_4, h_g_upl_, h_g_upb, (show 16 ≤ x_mm_4.toInt → (-2 : Int32).toInt = -1 ∧ x_mm_4.toInt = x_mm_4.toInt by have q0 := r16_3.2; have q1 := (show (-2 : Int32).toInt = -2 from by decide); omega), (show x_mm_4.toInt < 16 ∧ 256 < x_mm_1.toInt → (-2 : Int32).toInt = -2 ∧ x_mm_4.toInt = x_mm_4.toInt by have q0 := (show (-2 : Int32).toInt = -2 from by decide); omega), (show x_mm_4.toInt < 16 ∧ x_mm_1.toInt ≤ 256 → (-2 : Int32).toInt = x_mm_4.toInt ∧ x_mm_4.toInt = x_mm_4.toInt + 1 by have q0 := r25_3.1; have q1 := (show (-2 : Int32).toInt = -2 from by decide); omega), (fun hc => absurd hc (show ¬ (x_mm_4.toInt < 16 ∧ x_mm_1.toInt ≤ 256) by have q0 := r25_3.1; omega)), (fun hc => absurd hc (show ¬ (x_mm_4.toInt < 16 ∧ x_mm_1.toInt ≤ 256) by have q0 := r25_3.1; omega)), (fun hc9 => EQF.rf), (fun hc9 => EQF.rf)⟩ hP hD hS [0, 1, 2, 3] rfl (by decide) rfl (Nat.le_of_ble_eq_true rfl) (Nat.le_of_ble_eq_true rfl)
  · have t16_2 := FF.mk (i_eq c16_1)
    have r16_3 : rg x_mm_4 16 16 := rg_eqA t16_2 h_x_mm_4 (show rg (16 : Int32) 16 16 from rg_l (by decide)) (by decide)
    refine lv_iconst (v := (-1)) hx hb dX16_packet_19 (by decide) ?_
    exact endq_i hQ hx hb hr hlocks dX16_packet_20 rfl (m7_1, x_mm_4, g_upl_, g_upb) ⟨(rg_w (show rg ((-1) : Int32) (-1) (-1) from rg_l (by decide)) (by decide)), hsm7_1, hfm7_1_1, (rg_w r16_3 (by decide)), hfm7_1_4, h_g_upl_, h_g_upb, (show 16 ≤ x_mm_4.toInt → (-1 : Int32).toInt = -1 ∧ x_mm_4.toInt = x_mm_4.toInt by have q0 := (show (-1 : Int32).toInt = -1 from by decide); omega), (show x_mm_4.toInt < 16 ∧ 256 < x_mm_1.toInt → (-1 : Int32).toInt = -2 ∧ x_mm_4.toInt = x_mm_4.toInt by have q0 := r16_3.1; have q1 := (show (-1 : Int32).toInt = -1 from by decide); omega), (show x_mm_4.toInt < 16 ∧ x_mm_1.toInt ≤ 256 → (-1 : Int32).toInt = x_mm_4.toInt ∧ x_mm_4.toInt = x_mm_4.toInt + 1 by have q0 := r16_3.1; have q1 := (show (-1 : Int32).toInt = -1 from by decide); omega), (fun hc => absurd hc (show ¬ (x_mm_4.toInt < 16 ∧ x_mm_1.toInt ≤ 256) by have q0 := r16_3.1; omega)), (fun hc => absurd hc (show ¬ (x_mm_4.toInt < 16 ∧ x_mm_1.toInt ≤ 256) by have q0 := r16_3.1; omega)), (fun hc9 => EQF.rf), (fun hc9 => EQF.rf)⟩ hP hD hS [0, 1, 2, 3] rfl (by decide) rfl (Nat.le_of_ble_eq_true rfl) (Nat.le_of_ble_eq_true rfl)
set_option maxHeartbeats 2000000 in
theorem c_X6_lengthOf_w (l : Launch) (D : va_G) (ct : Nat → ClassId) (k0 : Nat) (v0 : Int32) (k0c : Nat) (k0l : Nat) (x_k0_2 : Int32) (g_k0l : Nat → Int32) (h_x_k0_2 : rg x_k0_2 0 16) (h_g_k0l : Rg g_k0l 16 0 256) : KI (S := Unit) l yX6_lengthOf cX6_lengthOf 2 (some .int) 1 20 D ct [.ref k0, .int v0] [(k0, .inr (6, [.ref k0c, .ref k0l, .int x_k0_2])), (k0l, .inl (ct 1, 16, .inl g_k0l))] 0 0 (fun (r : Int32) (_ : Unit) => rg r (-1) 256 ∧ (0 ≤ v0.toInt ∧ v0.toInt < x_k0_2.toInt → r.toInt = (g_k0l v0.toNatClampNeg).toInt) ∧ (v0.toInt < 0 ∨ x_k0_2.toInt ≤ v0.toInt → r.toInt = -1)) (fun (_ : Unit) => [(k0, .inr (6, [.ref k0c, .ref k0l, .int x_k0_2])), (k0l, .inl (ct 1, 16, .inl g_k0l))]) := by
  refine KIq_of (by decide) (Nat.le_of_ble_eq_true rfl) (fun p e s m below meth c A Q C0 hA H locs hS hP hD hQ ls hl => ?_)
  obtain ⟨hx, hb, hr, hown, hin, hml, hlocks, hn, hK, hZ, hSK⟩ := C0
  have hl : lv_has ls 2 [(0, .ref k0), (1, .int v0)] := hl
  refine lv_iload_n hx hb dX6_lengthOf_0 rfl (lv_at hl 1 rfl) ?_
  refine lv_if_lt (tgt := 12) hx hb dX6_lengthOf_1 (by decide) (fun c1_1 => ?_) (fun c1_1 => ?_)
  · have t1_2 := FF.mk (i_lt c1_1)
    have r1_3 : rg v0 (-2147483648) (-1) := rg_ltA t1_2 (rg_any v0) (show rg (0 : Int32) 0 0 from rg_l (by decide)) (by decide)
    refine lv_iconst (v := (-1)) hx hb dX6_lengthOf_12 (by decide) ?_
    refine lv_goto (tgt := 22) hx hb dX6_lengthOf_13 (by decide) ?_
    exact endq_i hQ hx hb hr hlocks dX6_lengthOf_22 rfl () ⟨(rg_w (show rg ((-1) : Int32) (-1) (-1) from rg_l (by decide)) (by decide)), (show 0 ≤ v0.toInt ∧ v0.toInt < x_k0_2.toInt → (-1 : Int32).toInt = (g_k0l v0.toNatClampNeg).toInt by have q0 := FF.out t1_2; have q1 := (show (-1 : Int32).toInt = -1 from by decide); have q2 := (show (0 : Int32).toInt = 0 from by decide); omega), (show v0.toInt < 0 ∨ x_k0_2.toInt ≤ v0.toInt → (-1 : Int32).toInt = -1 by have q0 := (show (-1 : Int32).toInt = -1 from by decide); omega)⟩ hP hD hS [0, 1] rfl (by decide) rfl (Nat.le_of_ble_eq_true rfl) (Nat.le_of_ble_eq_true rfl)
  · have t1_2 := FF.mk (i_nlt c1_1)
    have r1_3 : rg v0 0 2147483647 := rg_leB t1_2 (show rg (0 : Int32) 0 0 from rg_l (by decide)) (rg_any v0) (by decide)
    refine lv_iload_n hx hb dX6_lengthOf_4 rfl (lv_at hl 1 rfl) ?_
    refine lv_aload_n hx hb dX6_lengthOf_5 rfl (lv_at hl 0 rfl) ?_
    refine va_get (D := D) (ci := 6) (v := .int x_k0_2) (C := RX6) (T := TX6) (N := 3) hx hb (htX6 hn) (fun _ h => h) hown hK hP 0 rfl rfl 2 (by decide) (hn.get mw_63 rfl) (fun _ h9 => h9) rfl dX6_lengthOf_6 ?_
    refine lv_icmp_lt (tgt := 16) hx hb dX6_lengthOf_9 (by decide) (fun c9_1 => ?_) (fun c9_1 => ?_)
    · have t9_2 := FF.mk (i_lt c9_1)
      have r9_3 : rg v0 0 15 := rg_ltA t9_2 r1_3 h_x_k0_2 (by decide)
      have r9_4 : rg x_k0_2 1 16 := rg_ltB t9_2 r1_3 h_x_k0_2 (by decide)
      refine lv_aload_n hx hb dX6_lengthOf_16 rfl (lv_at hl 0 rfl) ?_
      refine va_get (D := D) (ci := 6) (v := .ref k0l) (C := RX6) (T := TX6) (N := 3) hx hb (htX6 hn) (fun _ h => h) hown hK hP 0 rfl rfl 1 (by decide) (hn.get mw_62 rfl) (fun _ h9 => h9) rfl dX6_lengthOf_17 ?_
      refine lv_iload_n hx hb dX6_lengthOf_20 rfl (lv_at hl 1 rfl) ?_
      have hi21_1 : vp_in v0 16 := (in_rg r9_3 (by decide))
      refine va_iald hx hb hK hP 1 1 rfl rfl hi21_1 dX6_lengthOf_21 ?_
      refine lv_topi (fun z21_2 ez21_2 => ?_)
      have r21_3 : rg z21_2 0 256 := Rg_at h_g_k0l hi21_1 ez21_2
      exact endq_i hQ hx hb hr hlocks dX6_lengthOf_22 rfl () ⟨(rg_w r21_3 (by decide)), (show 0 ≤ v0.toInt ∧ v0.toInt < x_k0_2.toInt → z21_2.toInt = (g_k0l v0.toNatClampNeg).toInt by have q0 := (congrArg Int32.toInt ez21_2); omega), (show v0.toInt < 0 ∨ x_k0_2.toInt ≤ v0.toInt → z21_2.toInt = -1 by have q0 := FF.out t1_2; have q1 := FF.out t9_2; have q2 := (show (0 : Int32).toInt = 0 from by decide); omega)⟩ hP hD hS [0, 1] rfl (by decide) rfl (Nat.le_of_ble_eq_true rfl) (Nat.le_of_ble_eq_true rfl)
    · have t9_2 := FF.mk (i_nlt c9_1)
      refine lv_iconst (v := (-1)) hx hb dX6_lengthOf_12 (by decide) ?_
      refine lv_goto (tgt := 22) hx hb dX6_lengthOf_13 (by decide) ?_
      exact endq_i hQ hx hb hr hlocks dX6_lengthOf_22 rfl () ⟨(rg_w (show rg ((-1) : Int32) (-1) (-1) from rg_l (by decide)) (by decide)), (show 0 ≤ v0.toInt ∧ v0.toInt < x_k0_2.toInt → (-1 : Int32).toInt = (g_k0l v0.toNatClampNeg).toInt by have q0 := FF.out t9_2; have q1 := (show (-1 : Int32).toInt = -1 from by decide); omega), (show v0.toInt < 0 ∨ x_k0_2.toInt ≤ v0.toInt → (-1 : Int32).toInt = -1 by have q0 := (show (-1 : Int32).toInt = -1 from by decide); omega)⟩ hP hD hS [0, 1] rfl (by decide) rfl (Nat.le_of_ble_eq_true rfl) (Nat.le_of_ble_eq_true rfl)
set_option maxHeartbeats 2000000 in
theorem c_X6_at_w (l : Launch) (D : va_G) (ct : Nat → ClassId) (k0 : Nat) (v0 : Int32) (v1 : Int64) (k0c : Nat) (k0l : Nat) (x_k0_2 : Int32) (g_k0l : Nat → Int32) (g_k0c : Nat → Int32) (h_x_k0_2 : rg x_k0_2 0 16) (h_g_k0l : Rg g_k0l 16 0 256) (h_g_k0c : Rg g_k0c 4096 (-128) 127) : KI (S := Unit) l yX6_at cX6_at 4 (some .int) 2 41 D ct [.ref k0, .int v0, .long v1] [(k0, .inr (6, [.ref k0c, .ref k0l, .int x_k0_2])), (k0l, .inl (ct 1, 16, .inl g_k0l)), (k0c, .inl (ct 0, 4096, .inl g_k0c))] 0 0 (fun (r : Int32) (_ : Unit) => rg r (-1) 255 ∧ (v0.toInt < 0 ∨ x_k0_2.toInt ≤ v0.toInt → r.toInt = -1) ∧ (0 ≤ v0.toInt ∧ v0.toInt < x_k0_2.toInt ∧ (v1.toInt < 0 ∨ (g_k0l v0.toNatClampNeg).toInt ≤ v1.toInt) → r.toInt = -1) ∧ (0 ≤ v0.toInt ∧ v0.toInt < x_k0_2.toInt ∧ 0 ≤ v1.toInt ∧ v1.toInt < (g_k0l v0.toNatClampNeg).toInt → 0 ≤ r.toInt) ∧ (0 ≤ v0.toInt ∧ v0.toInt < x_k0_2.toInt ∧ 0 ≤ v1.toInt ∧ v1.toInt < (g_k0l v0.toNatClampNeg).toInt → ATQ g_k0c (256 * v0.toInt + v1.toInt) r.toInt)) (fun (_ : Unit) => [(k0, .inr (6, [.ref k0c, .ref k0l, .int x_k0_2])), (k0l, .inl (ct 1, 16, .inl g_k0l)), (k0c, .inl (ct 0, 4096, .inl g_k0c))]) := by
  refine KIq_of (by decide) (Nat.le_of_ble_eq_true rfl) (fun p e s m below meth c A Q C0 hA H locs hS hP hD hQ ls hl => ?_)
  obtain ⟨hx, hb, hr, hown, hin, hml, hlocks, hn, hK, hZ, hSK⟩ := C0
  have hl : lv_has ls 4 [(0, .ref k0), (1, .int v0), (2, .long v1)] := hl
  refine lv_lload_n hx hb dX6_at_0 rfl (lv_at hl 2 rfl) ?_
  refine lv_lconst (v := 0) hx hb dX6_at_1 (by decide) ?_
  refine W.lcmp hx hb dX6_at_2 ?_
  refine lv_topi (fun z2_1 ez2_1 => ?_)
  refine lv_if_lt (tgt := 17) hx hb dX6_at_3 (by decide) (fun c3_1 => ?_) (fun c3_1 => ?_)
  · have t3_2 := FF.mk (l_lt ez2_1 c3_1)
    have r3_3 : rl v1 (-9223372036854775808) (-1) := rl_ltA t3_2 (rl_any v1) (show rl (0 : Int64) 0 0 from rl_l (by decide)) (by decide)
    refine lv_iconst (v := (-1)) hx hb dX6_at_17 (by decide) ?_
    refine lv_goto (tgt := 38) hx hb dX6_at_18 (by decide) ?_
    exact endq_i hQ hx hb hr hlocks dX6_at_38 rfl () ⟨(rg_w (show rg ((-1) : Int32) (-1) (-1) from rg_l (by decide)) (by decide)), (show v0.toInt < 0 ∨ x_k0_2.toInt ≤ v0.toInt → (-1 : Int32).toInt = -1 by have q0 := (show (-1 : Int32).toInt = -1 from by decide); omega), (show 0 ≤ v0.toInt ∧ v0.toInt < x_k0_2.toInt ∧ (v1.toInt < 0 ∨ (g_k0l v0.toNatClampNeg).toInt ≤ v1.toInt) → (-1 : Int32).toInt = -1 by have q0 := (show (-1 : Int32).toInt = -1 from by decide); omega), (show 0 ≤ v0.toInt ∧ v0.toInt < x_k0_2.toInt ∧ 0 ≤ v1.toInt ∧ v1.toInt < (g_k0l v0.toNatClampNeg).toInt → 0 ≤ (-1 : Int32).toInt by have q0 := FF.out t3_2; have q1 := (show (-1 : Int32).toInt = -1 from by decide); have q2 := (show (0 : Int64).toInt = 0 from by decide); omega), (fun hc => absurd hc (show ¬ (0 ≤ v0.toInt ∧ v0.toInt < x_k0_2.toInt ∧ 0 ≤ v1.toInt ∧ v1.toInt < (g_k0l v0.toNatClampNeg).toInt) by have q0 := FF.out t3_2; have q1 := (show (0 : Int64).toInt = 0 from by decide); omega))⟩ hP hD hS [0, 1, 2] rfl (by decide) rfl (Nat.le_of_ble_eq_true rfl) (Nat.le_of_ble_eq_true rfl)
  · have t3_2 := FF.mk (l_nlt ez2_1 c3_1)
    have r3_3 : rl v1 0 9223372036854775807 := rl_leB t3_2 (show rl (0 : Int64) 0 0 from rl_l (by decide)) (rl_any v1) (by decide)
    refine lv_lload_n hx hb dX6_at_6 rfl (lv_at hl 2 rfl) ?_
    refine lv_aload_n hx hb dX6_at_7 rfl (lv_at hl 0 rfl) ?_
    refine lv_iload_n hx hb dX6_at_8 rfl (lv_at hl 1 rfl) ?_
    refine go_i (k1 := 0) (n1 := 0) (wr := [(k0c, .inl (ct 0, 4096, .inl g_k0c))]) [0, 1] [2] (rn_V (As := [.int v0]) (rest := [.long v1]) (c_X6_lengthOf_w l D ct k0 v0 k0c k0l x_k0_2 g_k0l h_x_k0_2 h_g_k0l _) (cb_of (n := 1) hn mw_468 mw_3 mw_465 mhX6_lengthOf ⟨(Nat.le_of_ble_eq_true rfl), (Nat.le_of_ble_eq_true rfl)⟩) hx hb hml hown hn hK hSK hZ hS mw_467 mw_s6 (ci := 6) (q0 := 0) rfl rfl rfl rfl hl.1 (Nat.le_of_ble_eq_true rfl) dX6_at_9 ⟨(Nat.le_of_ble_eq_true rfl), (Nat.le_of_ble_eq_true rfl)⟩) hP hD hS hA rfl rfl (by decide) (by decide) (by decide) (Nat.le_of_ble_eq_true rfl) (Nat.le_of_ble_eq_true rfl) (fun r9_1 u9_2 H locs hp9_3 hP hD hS => ?_)
    obtain ⟨hp9_4, hp9_5, hp9_6⟩ := hp9_3
    have hp9_4 : rg r9_1 (-1) 256 := hp9_4
    replace hp9_5 : FF (0 ≤ v0.toInt ∧ v0.toInt < x_k0_2.toInt → r9_1.toInt = (g_k0l v0.toNatClampNeg).toInt) := hp9_5
    replace hp9_6 : FF (v0.toInt < 0 ∨ x_k0_2.toInt ≤ v0.toInt → r9_1.toInt = -1) := hp9_6
    have hP : va_P D vwCl [(k0c, .inl (ct 0, 4096, .inl g_k0c)), (k0, .inr (6, [.ref k0c, .ref k0l, .int x_k0_2])), (k0l, .inl (ct 1, 16, .inl g_k0l))] _ := hP
    have hD : va_D A [(k0c, .inl (ct 0, 4096, .inl g_k0c)), (k0, .inr (6, [.ref k0c, .ref k0l, .int x_k0_2])), (k0l, .inl (ct 1, 16, .inl g_k0l))] := hD
    refine lv_i2l hx hb dX6_at_12 rfl ?_
    refine lv_topl (fun z12_1 ez12_1 => ?_)
    have r12_2 : rl z12_1 (-1) 256 := rl_i2l ez12_1 hp9_4
    refine W.lcmp hx hb dX6_at_13 ?_
    refine lv_topi (fun z13_1 ez13_1 => ?_)
    refine lv_if_lt (tgt := 21) hx hb dX6_at_14 (by decide) (fun c14_1 => ?_) (fun c14_1 => ?_)
    · have t14_2 := FF.mk (l_lt ez13_1 c14_1)
      have r14_3 : rl v1 0 255 := rl_ltA t14_2 r3_3 r12_2 (by decide)
      have r14_4 : rl z12_1 1 256 := rl_ltB t14_2 r3_3 r12_2 (by decide)
      have r21_1 : rg v0 0 15 := (rg_of (show 0 ≤ v0.toInt ∧ v0.toInt ≤ 15 by have q0 := h_x_k0_2.2; have q1 := (eq_i2l ez12_1); have q2 := FF.out t3_2; have q3 := FF.out hp9_6; have q4 := FF.out t14_2; have q5 := (show (0 : Int64).toInt = 0 from by decide); omega))
      refine lv_aload_n hx hb dX6_at_21 rfl (lv_at hl 0 rfl) ?_
      refine va_get (D := D) (ci := 6) (v := .ref k0c) (C := RX6) (T := TX6) (N := 3) hx hb (htX6 hn) (fun _ h => h) hown hK hP 1 rfl rfl 0 (by decide) (hn.get mw_61 rfl) (fun _ h9 => h9) rfl dX6_at_22 ?_
      refine lv_iload_n hx hb dX6_at_25 rfl (lv_at hl 1 rfl) ?_
      refine lv_sipush (v := 256) hx hb dX6_at_26 (by decide) ?_
      refine lv_imul hx hb dX6_at_29 ?_
      refine lv_topi (fun z29_1 ez29_1 => ?_)
      have r29_2 : rg z29_1 0 3840 := rg_mul ez29_1 r21_1 (show rg (256 : Int32) 256 256 from rg_l (by decide)) (by decide)
      refine lv_lload_n hx hb dX6_at_30 rfl (lv_at hl 2 rfl) ?_
      refine lv_l2i hx hb dX6_at_31 rfl ?_
      refine lv_topi (fun z31_1 ez31_1 => ?_)
      have r31_2 : rg z31_1 0 255 := rg_l2i ez31_1 r14_3 (by decide)
      refine lv_iadd hx hb dX6_at_32 ?_
      refine lv_topi (fun z32_1 ez32_1 => ?_)
      have r32_2 : rg z32_1 0 4095 := rg_add ez32_1 r29_2 r31_2 (by decide)
      have hi33_1 : vp_in z32_1 4096 := (in_rg r32_2 (by decide))
      refine va_bald hx hb hK hP 0 0 rfl rfl hi33_1 dX6_at_33 ?_
      refine lv_topi (fun z33_2 ez33_2 => ?_)
      have r33_3 : rg z33_2 (-128) 127 := Rg_at h_g_k0c hi33_1 ez33_2
      refine lv_sipush (v := 255) hx hb dX6_at_34 (by decide) ?_
      refine lv_iand hx hb dX6_at_37 ?_
      refine lv_topi (fun z37_1 ez37_1 => ?_)
      have r37_2 : rg z37_1 0 255 := rg_andr ez37_1 (show rg (255 : Int32) 255 255 from rg_l (by decide)) (by decide)
      exact endq_i hQ hx hb hr hlocks dX6_at_38 rfl () ⟨(rg_w r37_2 (by decide)), (show v0.toInt < 0 ∨ x_k0_2.toInt ≤ v0.toInt → z37_1.toInt = -1 by have q0 := (eq_i2l ez12_1); have q1 := FF.out t3_2; have q2 := FF.out hp9_6; have q3 := FF.out t14_2; have q4 := (show (0 : Int64).toInt = 0 from by decide); omega), (show 0 ≤ v0.toInt ∧ v0.toInt < x_k0_2.toInt ∧ (v1.toInt < 0 ∨ (g_k0l v0.toNatClampNeg).toInt ≤ v1.toInt) → z37_1.toInt = -1 by have q0 := (eq_i2l ez12_1); have q1 := FF.out t3_2; have q2 := FF.out hp9_5; have q3 := FF.out t14_2; have q4 := (show (0 : Int64).toInt = 0 from by decide); omega), (show 0 ≤ v0.toInt ∧ v0.toInt < x_k0_2.toInt ∧ 0 ≤ v1.toInt ∧ v1.toInt < (g_k0l v0.toNatClampNeg).toInt → 0 ≤ z37_1.toInt by have q0 := (eq_and (c := 256) (k := 8) ez37_1 (by decide) (by decide)); omega), (fun hc9 => (ATQ.of (show z32_1.toInt = (256 * v0.toInt + v1.toInt) by have q0 := (eq_add ez32_1 r29_2 r31_2 (by decide)); have q1 := (eq_l2i ez31_1 r14_3 (by decide)); have q2 := (eq_mulr ez29_1 r21_1 (show rg (256 : Int32) 256 256 from rg_l (by decide)) (by decide)); omega) (show 0 ≤ z32_1.toInt by have q0 := (eq_add ez32_1 r29_2 r31_2 (by decide)); have q1 := (eq_l2i ez31_1 r14_3 (by decide)); have q2 := (eq_mulr ez29_1 r21_1 (show rg (256 : Int32) 256 256 from rg_l (by decide)) (by decide)); have q3 := r21_1.1; have q4 := FF.out t3_2; have q5 := (show (0 : Int64).toInt = 0 from by decide); omega) (show z37_1.toInt = (g_k0c z32_1.toNatClampNeg).toInt % 256 by have q0 := (eq_and (c := 256) (k := 8) ez37_1 (by decide) (by decide)); have q1 := (congrArg Int32.toInt ez33_2); omega)))⟩ hP hD hS [1, 2, 0] rfl (by decide) rfl (Nat.le_of_ble_eq_true rfl) (Nat.le_of_ble_eq_true rfl)
    · have t14_2 := FF.mk (l_nlt ez13_1 c14_1)
      refine lv_iconst (v := (-1)) hx hb dX6_at_17 (by decide) ?_
      refine lv_goto (tgt := 38) hx hb dX6_at_18 (by decide) ?_
      exact endq_i hQ hx hb hr hlocks dX6_at_38 rfl () ⟨(rg_w (show rg ((-1) : Int32) (-1) (-1) from rg_l (by decide)) (by decide)), (show v0.toInt < 0 ∨ x_k0_2.toInt ≤ v0.toInt → (-1 : Int32).toInt = -1 by have q0 := (show (-1 : Int32).toInt = -1 from by decide); omega), (show 0 ≤ v0.toInt ∧ v0.toInt < x_k0_2.toInt ∧ (v1.toInt < 0 ∨ (g_k0l v0.toNatClampNeg).toInt ≤ v1.toInt) → (-1 : Int32).toInt = -1 by have q0 := (show (-1 : Int32).toInt = -1 from by decide); omega), (show 0 ≤ v0.toInt ∧ v0.toInt < x_k0_2.toInt ∧ 0 ≤ v1.toInt ∧ v1.toInt < (g_k0l v0.toNatClampNeg).toInt → 0 ≤ (-1 : Int32).toInt by have q0 := (eq_i2l ez12_1); have q1 := FF.out hp9_5; have q2 := FF.out t14_2; have q3 := (show (-1 : Int32).toInt = -1 from by decide); omega), (fun hc => absurd hc (show ¬ (0 ≤ v0.toInt ∧ v0.toInt < x_k0_2.toInt ∧ 0 ≤ v1.toInt ∧ v1.toInt < (g_k0l v0.toNatClampNeg).toInt) by have q0 := (eq_i2l ez12_1); have q1 := FF.out hp9_5; have q2 := FF.out t14_2; omega))⟩ hP hD hS [1, 2, 0] rfl (by decide) rfl (Nat.le_of_ble_eq_true rfl) (Nat.le_of_ble_eq_true rfl)
set_option maxHeartbeats 2000000 in
theorem c_X6_eightFrom_w (l : Launch) (D : va_G) (ct : Nat → ClassId) (k0 : Nat) (v0 : Int32) (v1 : Int32) (k0c : Nat) (k0l : Nat) (x_k0_2 : Int32) (g_k0l : Nat → Int32) (g_k0c : Nat → Int32) (h_x_k0_2 : rg x_k0_2 0 16) (h_g_k0l : Rg g_k0l 16 0 256) (h_g_k0c : Rg g_k0c 4096 (-128) 127) : KL (S := Unit) l yX6_eightFrom cX6_eightFrom 7 (some .long) 3 64 D ct [.ref k0, .int v0, .int v1] [(k0, .inr (6, [.ref k0c, .ref k0l, .int x_k0_2])), (k0l, .inl (ct 1, 16, .inl g_k0l)), (k0c, .inl (ct 0, 4096, .inl g_k0c))] 0 0 (fun (r : Int64) (_ : Unit) => (v0.toInt < 0 ∨ x_k0_2.toInt ≤ v0.toInt → r.toInt = -1) ∧ (0 ≤ v0.toInt ∧ v0.toInt < x_k0_2.toInt ∧ (v1.toInt < 0 ∨ (g_k0l v0.toNatClampNeg).toInt ≤ v1.toInt) → r.toInt = -1) ∧ (0 ≤ v0.toInt ∧ v0.toInt < x_k0_2.toInt ∧ 0 ≤ v1.toInt ∧ v1.toInt < (g_k0l v0.toNatClampNeg).toInt → ACR g_k0c (256 * v0.toInt) (g_k0l v0.toNatClampNeg).toInt v1.toInt 8 r)) (fun (_ : Unit) => [(k0, .inr (6, [.ref k0c, .ref k0l, .int x_k0_2])), (k0l, .inl (ct 1, 16, .inl g_k0l)), (k0c, .inl (ct 0, 4096, .inl g_k0c))]) := by
  refine KLq_of (by decide) (Nat.le_of_ble_eq_true rfl) (fun p e s m below meth c A Q C0 hA H locs hS hP hD hQ ls hl => ?_)
  obtain ⟨hx, hb, hr, hown, hin, hml, hlocks, hn, hK, hZ, hSK⟩ := C0
  have hl : lv_has ls 7 [(0, .ref k0), (1, .int v0), (2, .int v1)] := hl
  refine lv_aload_n hx hb dX6_eightFrom_0 rfl (lv_at hl 0 rfl) ?_
  refine lv_iload_n hx hb dX6_eightFrom_1 rfl (lv_at hl 1 rfl) ?_
  refine lv_iload_n hx hb dX6_eightFrom_2 rfl (lv_at hl 2 rfl) ?_
  refine lv_i2l hx hb dX6_eightFrom_3 rfl ?_
  refine lv_topl (fun z3_1 ez3_1 => ?_)
  have r3_2 : rl z3_1 (-2147483648) 2147483647 := rl_i2l ez3_1 (rg_any v1)
  refine go_i (k1 := 0) (n1 := 0) (wr := []) [0, 1, 2] [] (rn_V (As := [.int v0, .long z3_1]) (rest := []) (c_X6_at_w l D ct k0 v0 z3_1 k0c k0l x_k0_2 g_k0l g_k0c h_x_k0_2 h_g_k0l h_g_k0c _) (cb_of (n := 2) hn mw_464 mw_3 mw_461 mhX6_at ⟨(Nat.le_of_ble_eq_true rfl), (Nat.le_of_ble_eq_true rfl)⟩) hx hb hml hown hn hK hSK hZ hS mw_463 mw_s5 (ci := 6) (q0 := 0) rfl rfl rfl rfl hl.1 (Nat.le_of_ble_eq_true rfl) dX6_eightFrom_4 ⟨(Nat.le_of_ble_eq_true rfl), (Nat.le_of_ble_eq_true rfl)⟩) hP hD hS hA rfl rfl (by decide) (by decide) (by decide) (Nat.le_of_ble_eq_true rfl) (Nat.le_of_ble_eq_true rfl) (fun r4_1 u4_2 H locs hp4_3 hP hD hS => ?_)
  obtain ⟨hp4_4, hp4_5, hp4_6, hp4_7, hp4_8⟩ := hp4_3
  have hp4_4 : rg r4_1 (-1) 255 := hp4_4
  replace hp4_5 : FF (v0.toInt < 0 ∨ x_k0_2.toInt ≤ v0.toInt → r4_1.toInt = -1) := hp4_5
  replace hp4_6 : FF (0 ≤ v0.toInt ∧ v0.toInt < x_k0_2.toInt ∧ (z3_1.toInt < 0 ∨ (g_k0l v0.toNatClampNeg).toInt ≤ z3_1.toInt) → r4_1.toInt = -1) := hp4_6
  replace hp4_7 : FF (0 ≤ v0.toInt ∧ v0.toInt < x_k0_2.toInt ∧ 0 ≤ z3_1.toInt ∧ z3_1.toInt < (g_k0l v0.toNatClampNeg).toInt → 0 ≤ r4_1.toInt) := hp4_7
  have hp4_8 : 0 ≤ v0.toInt ∧ v0.toInt < x_k0_2.toInt ∧ 0 ≤ z3_1.toInt ∧ z3_1.toInt < (g_k0l v0.toNatClampNeg).toInt → ATQ g_k0c (256 * v0.toInt + z3_1.toInt) r4_1.toInt := hp4_8
  have hP : va_P D vwCl [(k0, .inr (6, [.ref k0c, .ref k0l, .int x_k0_2])), (k0l, .inl (ct 1, 16, .inl g_k0l)), (k0c, .inl (ct 0, 4096, .inl g_k0c))] _ := hP
  have hD : va_D A [(k0, .inr (6, [.ref k0c, .ref k0l, .int x_k0_2])), (k0l, .inl (ct 1, 16, .inl g_k0l)), (k0c, .inl (ct 0, 4096, .inl g_k0c))] := hD
  refine lv_if_ge (tgt := 14) hx hb dX6_eightFrom_7 (by decide) (fun c7_1 => ?_) (fun c7_1 => ?_)
  · have t7_2 := FF.mk (i_le c7_1)
    have r7_3 : rg r4_1 0 255 := rg_leB t7_2 (show rg (0 : Int32) 0 0 from rg_l (by decide)) hp4_4 (by decide)
    refine lv_lconst (v := 0) hx hb dX6_eightFrom_14 (by decide) ?_
    refine lv_lstore_n (lv' := [(3, .long 0), (0, .ref k0), (1, .int v0), (2, .int v1)]) hx hb dX6_eightFrom_15 rfl hl (by decide) rfl (fun ls hl => ?_)
    refine lv_iconst (v := 0) hx hb dX6_eightFrom_16 (by decide) ?_
    refine lv_istore (lv' := [(5, .int 0), (3, .long 0), (0, .ref k0), (1, .int v0), (2, .int v1)]) hx hb dX6_eightFrom_17 hl (by decide) rfl (fun ls hl => ?_)
    have b19 : ∀ (n19 : Nat) (j19_l3 : Int64) (j19_l5 : Int32) (H : Heap) (locs : List Loc) (ls : Array Slot), (rg j19_l5 0 8) → (ACR g_k0c (256 * v0.toInt) (g_k0l v0.toNatClampNeg).toInt v1.toInt j19_l5.toInt j19_l3) → (FF (j19_l5.toInt ≤ 8)) → ((2147483647 : Int) - j19_l5.toInt).toNat < n19 → lv_has ls 7 [(0, .ref k0), (1, .int v0), (2, .int v1), (3, .long j19_l3), (5, .int j19_l5)] → va_P D vwCl [(k0, .inr (6, [.ref k0c, .ref k0l, .int x_k0_2])), (k0l, .inl (ct 1, 16, .inl g_k0l)), (k0c, .inl (ct 0, 4096, .inl g_k0c))] H → va_D A [(k0, .inr (6, [.ref k0c, .ref k0l, .int x_k0_2])), (k0l, .inl (ct 1, 16, .inl g_k0l)), (k0c, .inl (ct 0, 4096, .inl g_k0c))] → va_S A s.heap H locs → W p l e ({ frames := 3, cells := 0, slots := 0, locals := 64 }) s m [.ref k0, .int v0, .int v1].toArray below meth c H locs 0 0 Q (F0 m 19 ls []) := by
      intro n19
      induction n19 with
      | zero => intros; rename_i hms _ _ _ _; exact absurd hms (Nat.not_lt_zero _)
      | succ n19 ih19 =>
        intro j19_l3 j19_l5 H locs ls r19_1001 hg19_1002 hi19_1003 hms19 hl hP hD hS
        refine lv_iload hx hb dX6_eightFrom_19 (lv_at hl 4 rfl) ?_
        refine lv_bipush (v := 8) hx hb dX6_eightFrom_21 (by decide) ?_
        refine lv_icmp_ge (tgt := 63) hx hb dX6_eightFrom_23 (by decide) (fun c23_1 => ?_) (fun c23_1 => ?_)
        · have t23_2 := FF.mk (i_le c23_1)
          have r23_3 : rg j19_l5 8 8 := rg_leB t23_2 (show rg (8 : Int32) 8 8 from rg_l (by decide)) r19_1001 (by decide)
          refine lv_lload_n hx hb dX6_eightFrom_63 rfl (lv_at hl 3 rfl) ?_
          exact endq_l hQ hx hb hr hlocks dX6_eightFrom_64 () ⟨(show v0.toInt < 0 ∨ x_k0_2.toInt ≤ v0.toInt → j19_l3.toInt = -1 by have q0 := FF.out hp4_5; have q1 := FF.out t7_2; have q2 := (show (0 : Int32).toInt = 0 from by decide); omega), (show 0 ≤ v0.toInt ∧ v0.toInt < x_k0_2.toInt ∧ (v1.toInt < 0 ∨ (g_k0l v0.toNatClampNeg).toInt ≤ v1.toInt) → j19_l3.toInt = -1 by have q0 := (eq_i2l ez3_1); have q1 := FF.out hp4_6; have q2 := FF.out t7_2; have q3 := (show (0 : Int32).toInt = 0 from by decide); omega), (fun hc9 => (((show j19_l5.toInt = 8 by have q0 := FF.out hi19_1003; have q1 := FF.out t23_2; have q2 := (show (8 : Int32).toInt = 8 from by decide); omega) : j19_l5.toInt = 8) ▸ hg19_1002))⟩ hP hD hS [0, 1, 2] rfl (by decide) rfl (Nat.le_of_ble_eq_true rfl) (Nat.le_of_ble_eq_true rfl)
        · have t23_2 := FF.mk (i_nle c23_1)
          have r23_3 : rg j19_l5 0 7 := rg_ltA t23_2 r19_1001 (show rg (8 : Int32) 8 8 from rg_l (by decide)) (by decide)
          refine lv_aload_n hx hb dX6_eightFrom_26 rfl (lv_at hl 0 rfl) ?_
          refine lv_iload_n hx hb dX6_eightFrom_27 rfl (lv_at hl 1 rfl) ?_
          refine lv_iload_n hx hb dX6_eightFrom_28 rfl (lv_at hl 2 rfl) ?_
          refine lv_i2l hx hb dX6_eightFrom_29 rfl ?_
          refine lv_topl (fun z29_1 ez29_1 => ?_)
          have r29_2 : rl z29_1 (-2147483648) 2147483647 := rl_i2l ez29_1 (rg_any v1)
          refine lv_iload hx hb dX6_eightFrom_30 (lv_at hl 4 rfl) ?_
          refine lv_i2l hx hb dX6_eightFrom_32 rfl ?_
          refine lv_topl (fun z32_1 ez32_1 => ?_)
          have r32_2 : rl z32_1 0 7 := rl_i2l ez32_1 r23_3
          refine lv_ladd hx hb dX6_eightFrom_33 ?_
          refine lv_topl (fun z33_1 ez33_1 => ?_)
          have r33_2 : rl z33_1 (-2147483648) 2147483654 := rgL_add ez33_1 r29_2 r32_2 (by decide)
          refine go_i (k1 := 0) (n1 := 0) (wr := []) [0, 1, 2] [] (rn_V (As := [.int v0, .long z33_1]) (rest := []) (c_X6_at_w l D ct k0 v0 z33_1 k0c k0l x_k0_2 g_k0l g_k0c h_x_k0_2 h_g_k0l h_g_k0c _) (cb_of (n := 2) hn mw_464 mw_3 mw_461 mhX6_at ⟨(Nat.le_of_ble_eq_true rfl), (Nat.le_of_ble_eq_true rfl)⟩) hx hb hml hown hn hK hSK hZ hS mw_463 mw_s5 (ci := 6) (q0 := 0) rfl rfl rfl rfl hl.1 (Nat.le_of_ble_eq_true rfl) dX6_eightFrom_34 ⟨(Nat.le_of_ble_eq_true rfl), (Nat.le_of_ble_eq_true rfl)⟩) hP hD hS hA rfl rfl (by decide) (by decide) (by decide) (Nat.le_of_ble_eq_true rfl) (Nat.le_of_ble_eq_true rfl) (fun r34_1 u34_2 H locs hp34_3 hP hD hS => ?_)
          obtain ⟨hp34_4, hp34_5, hp34_6, hp34_7, hp34_8⟩ := hp34_3
          have hp34_4 : rg r34_1 (-1) 255 := hp34_4
          replace hp34_5 : FF (v0.toInt < 0 ∨ x_k0_2.toInt ≤ v0.toInt → r34_1.toInt = -1) := hp34_5
          replace hp34_6 : FF (0 ≤ v0.toInt ∧ v0.toInt < x_k0_2.toInt ∧ (z33_1.toInt < 0 ∨ (g_k0l v0.toNatClampNeg).toInt ≤ z33_1.toInt) → r34_1.toInt = -1) := hp34_6
          replace hp34_7 : FF (0 ≤ v0.toInt ∧ v0.toInt < x_k0_2.toInt ∧ 0 ≤ z33_1.toInt ∧ z33_1.toInt < (g_k0l v0.toNatClampNeg).toInt → 0 ≤ r34_1.toInt) := hp34_7
          have hp34_8 : 0 ≤ v0.toInt ∧ v0.toInt < x_k0_2.toInt ∧ 0 ≤ z33_1.toInt ∧ z33_1.toInt < (g_k0l v0.toNatClampNeg).toInt → ATQ g_k0c (256 * v0.toInt + z33_1.toInt) r34_1.toInt := hp34_8
          have hP : va_P D vwCl [(k0, .inr (6, [.ref k0c, .ref k0l, .int x_k0_2])), (k0l, .inl (ct 1, 16, .inl g_k0l)), (k0c, .inl (ct 0, 4096, .inl g_k0c))] _ := hP
          have hD : va_D A [(k0, .inr (6, [.ref k0c, .ref k0l, .int x_k0_2])), (k0l, .inl (ct 1, 16, .inl g_k0l)), (k0c, .inl (ct 0, 4096, .inl g_k0c))] := hD
          refine lv_istore (lv' := [(6, .int r34_1), (0, .ref k0), (1, .int v0), (2, .int v1), (3, .long j19_l3), (5, .int j19_l5)]) hx hb dX6_eightFrom_37 hl (by decide) rfl (fun ls hl => ?_)
          refine lv_lload_n hx hb dX6_eightFrom_39 rfl (lv_at hl 4 rfl) ?_
          refine lv_bipush (v := 8) hx hb dX6_eightFrom_40 (by decide) ?_
          refine lv_lshl hx hb dX6_eightFrom_42 rfl ?_
          refine lv_topl (fun z42_1 ez42_1 => ?_)
          refine lv_iload hx hb dX6_eightFrom_43 (lv_at hl 0 rfl) ?_
          refine lv_if_ge (tgt := 52) hx hb dX6_eightFrom_45 (by decide) (fun c45_1 => ?_) (fun c45_1 => ?_)
          · have t45_2 := FF.mk (i_le c45_1)
            have r45_3 : rg r34_1 0 255 := rg_leB t45_2 (show rg (0 : Int32) 0 0 from rg_l (by decide)) hp34_4 (by decide)
            refine lv_iload hx hb dX6_eightFrom_52 (lv_at hl 0 rfl) ?_
            refine lv_i2l hx hb dX6_eightFrom_54 rfl ?_
            refine lv_topl (fun z54_1 ez54_1 => ?_)
            have r54_2 : rl z54_1 0 255 := rl_i2l ez54_1 r45_3
            refine lv_lor hx hb dX6_eightFrom_55 ?_
            refine lv_topl (fun z55_1 ez55_1 => ?_)
            refine lv_lstore_n (lv' := [(3, .long z55_1), (6, .int r34_1), (0, .ref k0), (1, .int v0), (2, .int v1), (5, .int j19_l5)]) hx hb dX6_eightFrom_56 rfl hl (by decide) rfl (fun ls hl => ?_)
            obtain ⟨x57_1, ex57_1⟩ : ∃ z : Int32, z = j19_l5 + 1 := ⟨_, rfl⟩
            have r57_2 : rg x57_1 1 8 := rg_add ex57_1 r23_3 (show rg (1 : Int32) 1 1 from rg_l (by decide)) (by decide)
            refine lv_iinc (v := x57_1) (lv' := [(5, .int x57_1), (3, .long z55_1), (6, .int r34_1), (0, .ref k0), (1, .int v0), (2, .int v1)]) hx hb dX6_eightFrom_57 hl (k := 5) rfl (by rw [ex57_1]; rfl) (by decide) rfl (fun ls hl => ?_)
            refine lv_goto (tgt := 19) hx hb dX6_eightFrom_60 (by decide) ?_
            exact ih19 z55_1 x57_1 H locs ls (rg_w r57_2 (by decide)) (ACR.step hg19_1002 ez42_1 ez54_1 ez55_1 (fun h9 => (((show (256 * v0.toInt + z33_1.toInt) = (256 * v0.toInt) + v1.toInt + j19_l5.toInt by have q0 := (eqL_add ez33_1 r29_2 r32_2 (by decide)); have q1 := (eq_i2l ez32_1); have q2 := (eq_i2l ez29_1); omega) : (256 * v0.toInt + z33_1.toInt) = (256 * v0.toInt) + v1.toInt + j19_l5.toInt) ▸ (hp34_8 (show 0 ≤ v0.toInt ∧ v0.toInt < x_k0_2.toInt ∧ 0 ≤ z33_1.toInt ∧ z33_1.toInt < (g_k0l v0.toNatClampNeg).toInt by have q0 := (eqL_add ez33_1 r29_2 r32_2 (by decide)); have q1 := r32_2.1; have q2 := (eq_i2l ez32_1); have q3 := (eq_i2l ez29_1); have q4 := (eq_i2l ez3_1); have q5 := FF.out hp4_5; have q6 := FF.out hp4_6; have q7 := FF.out t7_2; have q8 := h9; have q9 := (show (0 : Int32).toInt = 0 from by decide); omega)))) (fun h9 => (show r34_1.toInt = 0 by have q0 := (eqL_add ez33_1 r29_2 r32_2 (by decide)); have q1 := (eq_i2l ez32_1); have q2 := (eq_i2l ez29_1); have q3 := FF.out hp4_5; have q4 := FF.out t7_2; have q5 := FF.out hp34_6; have q6 := FF.out t45_2; have q7 := h9; have q8 := (show (0 : Int32).toInt = 0 from by decide); omega)) (show x57_1.toInt = j19_l5.toInt + 1 by have q0 := (eq_add ex57_1 r23_3 (show rg (1 : Int32) 1 1 from rg_l (by decide)) (by decide)); have q1 := (show (1 : Int32).toInt = 1 from by decide); omega)) (show x57_1.toInt ≤ 8 by have q0 := (eq_add ex57_1 r23_3 (show rg (1 : Int32) 1 1 from rg_l (by decide)) (by decide)); have q1 := r23_3.2; have q2 := (show (1 : Int32).toInt = 1 from by decide); omega) (show ((2147483647 : Int) - x57_1.toInt).toNat < n19 by have q0 := r23_3.2; have q1 := (eq_add ex57_1 r23_3 (show rg (1 : Int32) 1 1 from rg_l (by decide)) (by decide)); have q2 := (show (1 : Int32).toInt = 1 from by decide); have q3 := hms19; omega) (lv_sub hl [3, 4, 5, 1, 0] rfl) hP hD hS
          · have t45_2 := FF.mk (i_nle c45_1)
            have r45_3 : rg r34_1 (-1) (-1) := rg_ltA t45_2 hp34_4 (show rg (0 : Int32) 0 0 from rg_l (by decide)) (by decide)
            refine lv_iconst (v := 0) hx hb dX6_eightFrom_48 (by decide) ?_
            refine lv_goto (tgt := 54) hx hb dX6_eightFrom_49 (by decide) ?_
            refine lv_i2l (v := 0) hx hb dX6_eightFrom_54 (by decide) ?_
            refine lv_lor hx hb dX6_eightFrom_55 ?_
            refine lv_topl (fun z55_1 ez55_1 => ?_)
            refine lv_lstore_n (lv' := [(3, .long z55_1), (6, .int r34_1), (0, .ref k0), (1, .int v0), (2, .int v1), (5, .int j19_l5)]) hx hb dX6_eightFrom_56 rfl hl (by decide) rfl (fun ls hl => ?_)
            obtain ⟨x57_1, ex57_1⟩ : ∃ z : Int32, z = j19_l5 + 1 := ⟨_, rfl⟩
            have r57_2 : rg x57_1 1 8 := rg_add ex57_1 r23_3 (show rg (1 : Int32) 1 1 from rg_l (by decide)) (by decide)
            refine lv_iinc (v := x57_1) (lv' := [(5, .int x57_1), (3, .long z55_1), (6, .int r34_1), (0, .ref k0), (1, .int v0), (2, .int v1)]) hx hb dX6_eightFrom_57 hl (k := 5) rfl (by rw [ex57_1]; rfl) (by decide) rfl (fun ls hl => ?_)
            refine lv_goto (tgt := 19) hx hb dX6_eightFrom_60 (by decide) ?_
            exact ih19 z55_1 x57_1 H locs ls (rg_w r57_2 (by decide)) (ACR.step hg19_1002 ez42_1 (by decide) ez55_1 (fun h9 => ((show False by have q0 := (eq_i2l ez3_1); have q1 := (eqL_add ez33_1 r29_2 r32_2 (by decide)); have q2 := r32_2.1; have q3 := (eq_i2l ez32_1); have q4 := (eq_i2l ez29_1); have q5 := FF.out hp4_5; have q6 := FF.out hp4_6; have q7 := FF.out t7_2; have q8 := FF.out hp34_7; have q9 := FF.out t45_2; have q10 := h9; have q11 := (show (0 : Int32).toInt = 0 from by decide); omega) : False).elim) (fun h9 => (show (0 : Int32).toInt = 0 by have q0 := (show (0 : Int32).toInt = 0 from by decide); omega)) (show x57_1.toInt = j19_l5.toInt + 1 by have q0 := (eq_add ex57_1 r23_3 (show rg (1 : Int32) 1 1 from rg_l (by decide)) (by decide)); have q1 := (show (1 : Int32).toInt = 1 from by decide); omega)) (show x57_1.toInt ≤ 8 by have q0 := (eq_add ex57_1 r23_3 (show rg (1 : Int32) 1 1 from rg_l (by decide)) (by decide)); have q1 := r23_3.2; have q2 := (show (1 : Int32).toInt = 1 from by decide); omega) (show ((2147483647 : Int) - x57_1.toInt).toNat < n19 by have q0 := r23_3.2; have q1 := (eq_add ex57_1 r23_3 (show rg (1 : Int32) 1 1 from rg_l (by decide)) (by decide)); have q2 := (show (1 : Int32).toInt = 1 from by decide); have q3 := hms19; omega) (lv_sub hl [3, 4, 5, 1, 0] rfl) hP hD hS
    exact b19 _ (0 : Int64) (0 : Int32) H locs ls (rg_w (show rg (0 : Int32) 0 0 from rg_l (by decide)) (by decide)) (ACR.zero (show (0 : Int32).toInt = 0 by have q0 := (show (0 : Int32).toInt = 0 from by decide); omega)) (show (0 : Int32).toInt ≤ 8 by have q0 := (show (0 : Int32).toInt = 0 from by decide); omega) (Nat.lt_succ_self _) (lv_sub hl [2, 3, 4, 1, 0] rfl) hP hD hS
  · have t7_2 := FF.mk (i_nle c7_1)
    have r7_3 : rg r4_1 (-1) (-1) := rg_ltA t7_2 hp4_4 (show rg (0 : Int32) 0 0 from rg_l (by decide)) (by decide)
    refine lv_ldc2 (v := (-1)) hx hb hown (hn.get mw_469 rfl) dX6_eightFrom_10 ?_
    exact endq_l hQ hx hb hr hlocks dX6_eightFrom_13 () ⟨(show v0.toInt < 0 ∨ x_k0_2.toInt ≤ v0.toInt → (-1 : Int64).toInt = -1 by have q0 := (show (-1 : Int64).toInt = -1 from by decide); omega), (show 0 ≤ v0.toInt ∧ v0.toInt < x_k0_2.toInt ∧ (v1.toInt < 0 ∨ (g_k0l v0.toNatClampNeg).toInt ≤ v1.toInt) → (-1 : Int64).toInt = -1 by have q0 := (show (-1 : Int64).toInt = -1 from by decide); omega), (fun hc => absurd hc (show ¬ (0 ≤ v0.toInt ∧ v0.toInt < x_k0_2.toInt ∧ 0 ≤ v1.toInt ∧ v1.toInt < (g_k0l v0.toNatClampNeg).toInt) by have q0 := (eq_i2l ez3_1); have q1 := FF.out hp4_7; have q2 := FF.out t7_2; have q3 := (show (0 : Int32).toInt = 0 from by decide); omega))⟩ hP hD hS [0, 1, 2] rfl (by decide) rfl (Nat.le_of_ble_eq_true rfl) (Nat.le_of_ble_eq_true rfl)
set_option maxHeartbeats 2000000 in
theorem c_X11_bytes_w (l : Launch) (D : va_G) (ct : Nat → ClassId) (ff : Nat) (v0 : Int32) (v1 : Int32) (t0 : Nat) (k0 : Nat) (m0 : Nat) (o0 : Nat) (f0 : Nat) (f1 : Nat) (p0 : Nat) (p1 : Nat) (x_ff_8 : Int32) (rd : Nat) (cd : Nat) (tl : Nat) (in0 : Nat) (in1 : Nat) (k0c : Nat) (k0l : Nat) (x_k0_2 : Int32) (g_k0l : Nat → Int32) (g_k0c : Nat → Int32) (h_x_ff_8 : rg x_ff_8 0 1) (h_x_k0_2 : rg x_k0_2 0 16) (h_g_k0l : Rg g_k0l 16 0 256) (h_g_k0c : Rg g_k0c 4096 (-128) 127) : KL (S := Unit) l yX11_bytes cX11_bytes 3 (some .long) 4 90 D ct [.ref ff, .int v0, .int v1] [(ff, .inr (11, [.ref t0, .ref k0, .ref m0, .ref o0, .ref f0, .ref f1, .ref p0, .ref p1, .int x_ff_8, .ref rd, .ref cd, .ref tl, .ref in0, .ref in1])), (k0, .inr (6, [.ref k0c, .ref k0l, .int x_k0_2])), (k0l, .inl (ct 1, 16, .inl g_k0l)), (k0c, .inl (ct 0, 4096, .inl g_k0c))] 0 0 (fun (r : Int64) (_ : Unit) => (v0.toInt < 0 ∨ x_k0_2.toInt ≤ v0.toInt → r.toInt = -1) ∧ (0 ≤ v0.toInt ∧ v0.toInt < x_k0_2.toInt ∧ (v1.toInt < 0 ∨ (g_k0l v0.toNatClampNeg).toInt ≤ v1.toInt) → r.toInt = -1) ∧ (0 ≤ v0.toInt ∧ v0.toInt < x_k0_2.toInt ∧ 0 ≤ v1.toInt ∧ v1.toInt < (g_k0l v0.toNatClampNeg).toInt → ACR g_k0c (256 * v0.toInt) (g_k0l v0.toNatClampNeg).toInt v1.toInt 8 r)) (fun (_ : Unit) => [(ff, .inr (11, [.ref t0, .ref k0, .ref m0, .ref o0, .ref f0, .ref f1, .ref p0, .ref p1, .int x_ff_8, .ref rd, .ref cd, .ref tl, .ref in0, .ref in1])), (k0, .inr (6, [.ref k0c, .ref k0l, .int x_k0_2])), (k0l, .inl (ct 1, 16, .inl g_k0l)), (k0c, .inl (ct 0, 4096, .inl g_k0c))]) := by
  refine KLq_of (by decide) (Nat.le_of_ble_eq_true rfl) (fun p e s m below meth c A Q C0 hA H locs hS hP hD hQ ls hl => ?_)
  obtain ⟨hx, hb, hr, hown, hin, hml, hlocks, hn, hK, hZ, hSK⟩ := C0
  have hl : lv_has ls 3 [(0, .ref ff), (1, .int v0), (2, .int v1)] := hl
  refine lv_aload_n hx hb dX11_bytes_0 rfl (lv_at hl 0 rfl) ?_
  refine va_get (D := D) (ci := 11) (v := .ref k0) (C := RX11) (T := TX11) (N := 14) hx hb (htX11 hn) (fun _ h => h) hown hK hP 0 rfl rfl 1 (by decide) (hn.get mw_382 rfl) (fun _ h9 => h9) rfl dX11_bytes_1 ?_
  refine lv_iload_n hx hb dX11_bytes_4 rfl (lv_at hl 1 rfl) ?_
  refine lv_iload_n hx hb dX11_bytes_5 rfl (lv_at hl 2 rfl) ?_
  refine go_l (k1 := 0) (n1 := 0) (wr := [(ff, .inr (11, [.ref t0, .ref k0, .ref m0, .ref o0, .ref f0, .ref f1, .ref p0, .ref p1, .int x_ff_8, .ref rd, .ref cd, .ref tl, .ref in0, .ref in1]))]) [1, 2, 3] [0] (rn_VN (As := [.int v0, .int v1]) (rest := []) (c_X6_eightFrom_w l D ct k0 v0 v1 k0c k0l x_k0_2 g_k0l g_k0c h_x_k0_2 h_g_k0l h_g_k0c _) (cn_of (n := 2) hn mw_460 mw_3 mw_457 mhX6_eightFrom ⟨(Nat.le_of_ble_eq_true rfl), (Nat.le_of_ble_eq_true rfl)⟩) hx hb hml hown hn hK hSK hZ hS mw_459 mw_s4 (ci := 6) (q0 := 0) rfl rfl rfl rfl hl.1 (Nat.le_of_ble_eq_true rfl) dX11_bytes_6 ⟨(Nat.le_of_ble_eq_true rfl), (Nat.le_of_ble_eq_true rfl)⟩) hP hD hS hA rfl rfl (by decide) (by decide) (by decide) (Nat.le_of_ble_eq_true rfl) (Nat.le_of_ble_eq_true rfl) (fun r6_1 u6_2 H locs hp6_3 hP hD hS => ?_)
  obtain ⟨hp6_4, hp6_5, hp6_6⟩ := hp6_3
  replace hp6_4 : FF (v0.toInt < 0 ∨ x_k0_2.toInt ≤ v0.toInt → r6_1.toInt = -1) := hp6_4
  replace hp6_5 : FF (0 ≤ v0.toInt ∧ v0.toInt < x_k0_2.toInt ∧ (v1.toInt < 0 ∨ (g_k0l v0.toNatClampNeg).toInt ≤ v1.toInt) → r6_1.toInt = -1) := hp6_5
  have hp6_6 : 0 ≤ v0.toInt ∧ v0.toInt < x_k0_2.toInt ∧ 0 ≤ v1.toInt ∧ v1.toInt < (g_k0l v0.toNatClampNeg).toInt → ACR g_k0c (256 * v0.toInt) (g_k0l v0.toNatClampNeg).toInt v1.toInt 8 r6_1 := hp6_6
  have hP : va_P D vwCl [(ff, .inr (11, [.ref t0, .ref k0, .ref m0, .ref o0, .ref f0, .ref f1, .ref p0, .ref p1, .int x_ff_8, .ref rd, .ref cd, .ref tl, .ref in0, .ref in1])), (k0, .inr (6, [.ref k0c, .ref k0l, .int x_k0_2])), (k0l, .inl (ct 1, 16, .inl g_k0l)), (k0c, .inl (ct 0, 4096, .inl g_k0c))] _ := hP
  have hD : va_D A [(ff, .inr (11, [.ref t0, .ref k0, .ref m0, .ref o0, .ref f0, .ref f1, .ref p0, .ref p1, .int x_ff_8, .ref rd, .ref cd, .ref tl, .ref in0, .ref in1])), (k0, .inr (6, [.ref k0c, .ref k0l, .int x_k0_2])), (k0l, .inl (ct 1, 16, .inl g_k0l)), (k0c, .inl (ct 0, 4096, .inl g_k0c))] := hD
  exact endq_l hQ hx hb hr hlocks dX11_bytes_9 () ⟨(show v0.toInt < 0 ∨ x_k0_2.toInt ≤ v0.toInt → r6_1.toInt = -1 by have q0 := FF.out hp6_4; omega), (show 0 ≤ v0.toInt ∧ v0.toInt < x_k0_2.toInt ∧ (v1.toInt < 0 ∨ (g_k0l v0.toNatClampNeg).toInt ≤ v1.toInt) → r6_1.toInt = -1 by have q0 := FF.out hp6_5; omega), (fun hc => hp6_6 (show 0 ≤ v0.toInt ∧ v0.toInt < x_k0_2.toInt ∧ 0 ≤ v1.toInt ∧ v1.toInt < (g_k0l v0.toNatClampNeg).toInt by have q0 := hc; omega))⟩ hP hD hS [0, 1, 2, 3] rfl (by decide) rfl (Nat.le_of_ble_eq_true rfl) (Nat.le_of_ble_eq_true rfl)
set_option maxHeartbeats 2000000 in
theorem c_X16_bytes_w (l : Launch) (D : va_G) (ct : Nat → ClassId) (mm : Nat) (v0 : Int32) (v1 : Int32) (fs_mm : List Value) (upb : Nat) (upl_ : Nat) (x_mm_4 : Int32) (g_upl_ : Nat → Int32) (g_upb : Nat → Int32) (hlen_mm : fs_mm.length = 78) (hf_mm_2 : fs_mm[2]? = some (.ref upb)) (hf_mm_3 : fs_mm[3]? = some (.ref upl_)) (h_x_mm_4 : rg x_mm_4 0 16) (hf_mm_4 : fs_mm[4]? = some (.int x_mm_4)) (h_g_upl_ : Rg g_upl_ 16 0 256) (h_g_upb : Rg g_upb 4096 0 255) : KL (S := Unit) l yX16_bytes cX16_bytes 6 (some .long) 2 41 D ct [.ref mm, .int v0, .int v1] [(mm, .inr (16, fs_mm)), (upl_, .inl (ct 1, 16, .inl g_upl_)), (upb, .inl (ct 1, 4096, .inl g_upb))] 0 0 (fun (r : Int64) (_ : Unit) => (v0.toInt < 0 ∨ x_mm_4.toInt ≤ v0.toInt → r.toInt = -1) ∧ (0 ≤ v0.toInt ∧ v0.toInt < x_mm_4.toInt ∧ (v1.toInt < 0 ∨ (g_upl_ v0.toNatClampNeg).toInt ≤ v1.toInt) → r.toInt = -1) ∧ (0 ≤ v0.toInt ∧ v0.toInt < x_mm_4.toInt ∧ 0 ≤ v1.toInt ∧ v1.toInt < (g_upl_ v0.toNatClampNeg).toInt → ACR g_upb (256 * v0.toInt) (g_upl_ v0.toNatClampNeg).toInt v1.toInt 8 r)) (fun (_ : Unit) => [(mm, .inr (16, fs_mm)), (upl_, .inl (ct 1, 16, .inl g_upl_)), (upb, .inl (ct 1, 4096, .inl g_upb))]) := by
  refine KLq_of (by decide) (Nat.le_of_ble_eq_true rfl) (fun p e s m below meth c A Q C0 hA H locs hS hP hD hQ ls hl => ?_)
  obtain ⟨hx, hb, hr, hown, hin, hml, hlocks, hn, hK, hZ, hSK⟩ := C0
  have hl : lv_has ls 6 [(0, .ref mm), (1, .int v0), (2, .int v1)] := hl
  refine lv_aload_n hx hb dX16_bytes_0 rfl (lv_at hl 0 rfl) ?_
  refine lv_iload_n hx hb dX16_bytes_1 rfl (lv_at hl 1 rfl) ?_
  refine go_i (k1 := 0) (n1 := 0) (wr := [(upl_, .inl (ct 1, 16, .inl g_upl_)), (upb, .inl (ct 1, 4096, .inl g_upb))]) [0] [1, 2] (rn_V (As := [.int v0]) (rest := []) (c_X16_isPacket l D ct mm v0 fs_mm x_mm_4 hlen_mm h_x_mm_4 hf_mm_4 _) (cb_of (n := 1) hn mw_1797 mw_13 mw_1794 mhX16_isPacket ⟨(Nat.le_of_ble_eq_true rfl), (Nat.le_of_ble_eq_true rfl)⟩) hx hb hml hown hn hK hSK hZ hS mw_1796 mw_s170 (ci := 16) (q0 := 0) rfl rfl rfl rfl hl.1 (Nat.le_of_ble_eq_true rfl) dX16_bytes_2 ⟨(Nat.le_of_ble_eq_true rfl), (Nat.le_of_ble_eq_true rfl)⟩) hP hD hS hA rfl rfl (by decide) (by decide) (by decide) (Nat.le_of_ble_eq_true rfl) (Nat.le_of_ble_eq_true rfl) (fun r2_1 u2_2 H locs hp2_3 hP hD hS => ?_)
  obtain ⟨hp2_4, hp2_5, hp2_6⟩ := hp2_3
  have hp2_4 : rg r2_1 0 1 := hp2_4
  replace hp2_5 : FF (r2_1.toInt = 1 → 0 ≤ v0.toInt ∧ v0.toInt < x_mm_4.toInt) := hp2_5
  replace hp2_6 : FF (r2_1.toInt = 0 → v0.toInt < 0 ∨ x_mm_4.toInt ≤ v0.toInt) := hp2_6
  have hP : va_P D vwCl [(upl_, .inl (ct 1, 16, .inl g_upl_)), (upb, .inl (ct 1, 4096, .inl g_upb)), (mm, .inr (16, fs_mm))] _ := hP
  have hD : va_D A [(upl_, .inl (ct 1, 16, .inl g_upl_)), (upb, .inl (ct 1, 4096, .inl g_upb)), (mm, .inr (16, fs_mm))] := hD
  refine lv_if_eq (tgt := 22) hx hb dX16_bytes_5 (by decide) (fun c5_1 => ?_) (fun c5_1 => ?_)
  · have t5_2 := FF.mk (i_eq c5_1)
    have r5_3 : rg r2_1 0 0 := rg_eqA t5_2 hp2_4 (show rg (0 : Int32) 0 0 from rg_l (by decide)) (by decide)
    refine lv_ldc2 (v := (-1)) hx hb hown (hn.get mw_1798 rfl) dX16_bytes_22 ?_
    exact endq_l hQ hx hb hr hlocks dX16_bytes_25 () ⟨(show v0.toInt < 0 ∨ x_mm_4.toInt ≤ v0.toInt → (-1 : Int64).toInt = -1 by have q0 := (show (-1 : Int64).toInt = -1 from by decide); omega), (show 0 ≤ v0.toInt ∧ v0.toInt < x_mm_4.toInt ∧ (v1.toInt < 0 ∨ (g_upl_ v0.toNatClampNeg).toInt ≤ v1.toInt) → (-1 : Int64).toInt = -1 by have q0 := (show (-1 : Int64).toInt = -1 from by decide); omega), (fun hc => absurd hc (show ¬ (0 ≤ v0.toInt ∧ v0.toInt < x_mm_4.toInt ∧ 0 ≤ v1.toInt ∧ v1.toInt < (g_upl_ v0.toNatClampNeg).toInt) by have q0 := FF.out hp2_6; have q1 := FF.out t5_2; have q2 := (show (0 : Int32).toInt = 0 from by decide); omega))⟩ hP hD hS [2, 0, 1] rfl (by decide) rfl (Nat.le_of_ble_eq_true rfl) (Nat.le_of_ble_eq_true rfl)
  · have t5_2 := FF.mk (i_ne c5_1)
    have r5_3 : rg r2_1 1 1 := rg_neAl t5_2 hp2_4 (show rg (0 : Int32) 0 0 from rg_l (by decide)) (by decide)
    refine lv_iload_n hx hb dX16_bytes_8 rfl (lv_at hl 2 rfl) ?_
    refine lv_if_lt (tgt := 22) hx hb dX16_bytes_9 (by decide) (fun c9_1 => ?_) (fun c9_1 => ?_)
    · have t9_2 := FF.mk (i_lt c9_1)
      have r9_3 : rg v1 (-2147483648) (-1) := rg_ltA t9_2 (rg_any v1) (show rg (0 : Int32) 0 0 from rg_l (by decide)) (by decide)
      refine lv_ldc2 (v := (-1)) hx hb hown (hn.get mw_1798 rfl) dX16_bytes_22 ?_
      exact endq_l hQ hx hb hr hlocks dX16_bytes_25 () ⟨(show v0.toInt < 0 ∨ x_mm_4.toInt ≤ v0.toInt → (-1 : Int64).toInt = -1 by have q0 := (show (-1 : Int64).toInt = -1 from by decide); omega), (show 0 ≤ v0.toInt ∧ v0.toInt < x_mm_4.toInt ∧ (v1.toInt < 0 ∨ (g_upl_ v0.toNatClampNeg).toInt ≤ v1.toInt) → (-1 : Int64).toInt = -1 by have q0 := (show (-1 : Int64).toInt = -1 from by decide); omega), (fun hc => absurd hc (show ¬ (0 ≤ v0.toInt ∧ v0.toInt < x_mm_4.toInt ∧ 0 ≤ v1.toInt ∧ v1.toInt < (g_upl_ v0.toNatClampNeg).toInt) by have q0 := FF.out t9_2; have q1 := (show (0 : Int32).toInt = 0 from by decide); omega))⟩ hP hD hS [2, 0, 1] rfl (by decide) rfl (Nat.le_of_ble_eq_true rfl) (Nat.le_of_ble_eq_true rfl)
    · have t9_2 := FF.mk (i_nlt c9_1)
      have r9_3 : rg v1 0 2147483647 := rg_leB t9_2 (show rg (0 : Int32) 0 0 from rg_l (by decide)) (rg_any v1) (by decide)
      refine lv_iload_n hx hb dX16_bytes_12 rfl (lv_at hl 2 rfl) ?_
      refine lv_aload_n hx hb dX16_bytes_13 rfl (lv_at hl 0 rfl) ?_
      refine va_get (D := D) (ci := 16) (v := .ref upl_) (C := RX16) (T := TX16) (N := 78) hx hb (htX16 hn) (fun _ h => h) hown hK hP 2 rfl rfl 3 (by decide) (hn.get mw_1542 rfl) (fun _ h9 => h9) hf_mm_3 dX16_bytes_14 ?_
      refine lv_iload_n hx hb dX16_bytes_17 rfl (lv_at hl 1 rfl) ?_
      have hi18_1 : vp_in v0 16 := (in_of (show 0 ≤ v0.toInt ∧ v0.toInt < 16 by have q0 := h_x_mm_4.2; have q1 := r5_3.1; have q2 := r5_3.2; have q3 := FF.out hp2_5; omega))
      refine va_iald hx hb hK hP 0 1 rfl rfl hi18_1 dX16_bytes_18 ?_
      refine lv_topi (fun z18_2 ez18_2 => ?_)
      have r18_3 : rg z18_2 0 256 := Rg_at h_g_upl_ hi18_1 ez18_2
      refine lv_icmp_lt (tgt := 26) hx hb dX16_bytes_19 (by decide) (fun c19_1 => ?_) (fun c19_1 => ?_)
      · have t19_2 := FF.mk (i_lt c19_1)
        have r19_3 : rg v1 0 255 := rg_ltA t19_2 r9_3 r18_3 (by decide)
        have r19_4 : rg z18_2 1 256 := rg_ltB t19_2 r9_3 r18_3 (by decide)
        have r26_1 : rg v0 0 15 := (rg_of (show 0 ≤ v0.toInt ∧ v0.toInt ≤ 15 by have q0 := h_x_mm_4.2; have q1 := r5_3.1; have q2 := r5_3.2; have q3 := FF.out hp2_5; omega))
        refine lv_lconst (v := 0) hx hb dX16_bytes_26 (by decide) ?_
        refine lv_lstore_n (lv' := [(3, .long 0), (0, .ref mm), (1, .int v0), (2, .int v1)]) hx hb dX16_bytes_27 rfl hl (by decide) rfl (fun ls hl => ?_)
        refine lv_iload_n hx hb dX16_bytes_28 rfl (lv_at hl 3 rfl) ?_
        refine lv_istore (lv' := [(5, .int v1), (3, .long 0), (0, .ref mm), (1, .int v0), (2, .int v1)]) hx hb dX16_bytes_29 hl (by decide) rfl (fun ls hl => ?_)
        have b31 : ∀ (n31 : Nat) (j31_l3 : Int64) (j31_l5 : Int32) (H : Heap) (locs : List Loc) (ls : Array Slot), (rg j31_l5 0 263) → (ACR g_upb (256 * v0.toInt) (g_upl_ v0.toNatClampNeg).toInt v1.toInt (j31_l5.toInt - v1.toInt) j31_l3) → (FF (j31_l5.toInt ≤ v1.toInt + 8)) → (FF (v1.toInt ≤ j31_l5.toInt)) → ((2147483647 : Int) - j31_l5.toInt).toNat < n31 → lv_has ls 6 [(0, .ref mm), (1, .int v0), (2, .int v1), (3, .long j31_l3), (5, .int j31_l5)] → va_P D vwCl [(upl_, .inl (ct 1, 16, .inl g_upl_)), (upb, .inl (ct 1, 4096, .inl g_upb)), (mm, .inr (16, fs_mm))] H → va_D A [(upl_, .inl (ct 1, 16, .inl g_upl_)), (upb, .inl (ct 1, 4096, .inl g_upb)), (mm, .inr (16, fs_mm))] → va_S A s.heap H locs → W p l e ({ frames := 2, cells := 0, slots := 0, locals := 41 }) s m [.ref mm, .int v0, .int v1].toArray below meth c H locs 0 0 Q (F0 m 31 ls []) := by
          intro n31
          induction n31 with
          | zero => intros; rename_i hms _ _ _ _; exact absurd hms (Nat.not_lt_zero _)
          | succ n31 ih31 =>
            intro j31_l3 j31_l5 H locs ls r31_1001 hg31_1002 hi31_1003 hi31_1004 hms31 hl hP hD hS
            refine lv_iload hx hb dX16_bytes_31 (lv_at hl 4 rfl) ?_
            refine lv_iload_n hx hb dX16_bytes_33 rfl (lv_at hl 2 rfl) ?_
            refine lv_bipush (v := 8) hx hb dX16_bytes_34 (by decide) ?_
            refine lv_iadd hx hb dX16_bytes_36 ?_
            refine lv_topi (fun z36_1 ez36_1 => ?_)
            have r36_2 : rg z36_1 8 263 := rg_add ez36_1 r19_3 (show rg (8 : Int32) 8 8 from rg_l (by decide)) (by decide)
            refine lv_icmp_ge (tgt := 81) hx hb dX16_bytes_37 (by decide) (fun c37_1 => ?_) (fun c37_1 => ?_)
            · have t37_2 := FF.mk (i_le c37_1)
              have r37_3 : rg j31_l5 8 263 := rg_leB t37_2 r36_2 r31_1001 (by decide)
              refine lv_lload_n hx hb dX16_bytes_81 rfl (lv_at hl 3 rfl) ?_
              exact endq_l hQ hx hb hr hlocks dX16_bytes_82 () ⟨(show v0.toInt < 0 ∨ x_mm_4.toInt ≤ v0.toInt → j31_l3.toInt = -1 by have q0 := r26_1.1; have q1 := r5_3.1; have q2 := r5_3.2; have q3 := FF.out hp2_5; omega), (show 0 ≤ v0.toInt ∧ v0.toInt < x_mm_4.toInt ∧ (v1.toInt < 0 ∨ (g_upl_ v0.toNatClampNeg).toInt ≤ v1.toInt) → j31_l3.toInt = -1 by have q0 := (congrArg Int32.toInt ez18_2); have q1 := FF.out t9_2; have q2 := FF.out t19_2; have q3 := (show (0 : Int32).toInt = 0 from by decide); omega), (fun hc9 => (((show (j31_l5.toInt - v1.toInt) = 8 by have q0 := (eq_add ez36_1 r19_3 (show rg (8 : Int32) 8 8 from rg_l (by decide)) (by decide)); have q1 := FF.out hi31_1003; have q2 := FF.out t37_2; have q3 := (show (8 : Int32).toInt = 8 from by decide); omega) : (j31_l5.toInt - v1.toInt) = 8) ▸ hg31_1002))⟩ hP hD hS [2, 0, 1] rfl (by decide) rfl (Nat.le_of_ble_eq_true rfl) (Nat.le_of_ble_eq_true rfl)
            · have t37_2 := FF.mk (i_nle c37_1)
              have r37_3 : rg j31_l5 0 262 := rg_ltA t37_2 r31_1001 r36_2 (by decide)
              refine lv_lload_n hx hb dX16_bytes_40 rfl (lv_at hl 3 rfl) ?_
              refine lv_bipush (v := 8) hx hb dX16_bytes_41 (by decide) ?_
              refine lv_lshl hx hb dX16_bytes_43 rfl ?_
              refine lv_topl (fun z43_1 ez43_1 => ?_)
              refine lv_iload hx hb dX16_bytes_44 (lv_at hl 4 rfl) ?_
              refine lv_aload_n hx hb dX16_bytes_46 rfl (lv_at hl 0 rfl) ?_
              refine va_get (D := D) (ci := 16) (v := .ref upl_) (C := RX16) (T := TX16) (N := 78) hx hb (htX16 hn) (fun _ h => h) hown hK hP 2 rfl rfl 3 (by decide) (hn.get mw_1542 rfl) (fun _ h9 => h9) hf_mm_3 dX16_bytes_47 ?_
              refine lv_iload_n hx hb dX16_bytes_50 rfl (lv_at hl 1 rfl) ?_
              have hi51_1 : vp_in v0 16 := (in_rg r26_1 (by decide))
              refine va_iald hx hb hK hP 0 1 rfl rfl hi51_1 dX16_bytes_51 ?_
              refine lv_topi (fun z51_2 ez51_2 => ?_)
              obtain rfl : z18_2 = z51_2 := ez18_2.trans ez51_2.symm
              refine lv_icmp_ge (tgt := 71) hx hb dX16_bytes_52 (by decide) (fun c52_1 => ?_) (fun c52_1 => ?_)
              · have t52_2 := FF.mk (i_le c52_1)
                have r52_3 : rg j31_l5 1 262 := rg_leB t52_2 r19_4 r37_3 (by decide)
                refine lv_iconst (v := 0) hx hb dX16_bytes_71 (by decide) ?_
                refine lv_i2l (v := 0) hx hb dX16_bytes_72 (by decide) ?_
                refine lv_lor hx hb dX16_bytes_73 ?_
                refine lv_topl (fun z73_1 ez73_1 => ?_)
                refine lv_lstore_n (lv' := [(3, .long z73_1), (0, .ref mm), (1, .int v0), (2, .int v1), (5, .int j31_l5)]) hx hb dX16_bytes_74 rfl hl (by decide) rfl (fun ls hl => ?_)
                obtain ⟨x75_1, ex75_1⟩ : ∃ z : Int32, z = j31_l5 + 1 := ⟨_, rfl⟩
                have r75_2 : rg x75_1 2 263 := rg_add ex75_1 r52_3 (show rg (1 : Int32) 1 1 from rg_l (by decide)) (by decide)
                refine lv_iinc (v := x75_1) (lv' := [(5, .int x75_1), (3, .long z73_1), (0, .ref mm), (1, .int v0), (2, .int v1)]) hx hb dX16_bytes_75 hl (k := 4) rfl (by rw [ex75_1]; rfl) (by decide) rfl (fun ls hl => ?_)
                refine lv_goto (tgt := 31) hx hb dX16_bytes_78 (by decide) ?_
                exact ih31 z73_1 x75_1 H locs ls (rg_w r75_2 (by decide)) (ACR.step hg31_1002 ez43_1 (by decide) ez73_1 (fun h9 => ((show False by have q0 := (congrArg Int32.toInt ez18_2); have q1 := FF.out t52_2; have q2 := h9; omega) : False).elim) (fun h9 => (show (0 : Int32).toInt = 0 by have q0 := (show (0 : Int32).toInt = 0 from by decide); omega)) (show (x75_1.toInt - v1.toInt) = (j31_l5.toInt - v1.toInt) + 1 by have q0 := (eq_add ex75_1 r52_3 (show rg (1 : Int32) 1 1 from rg_l (by decide)) (by decide)); have q1 := (show (1 : Int32).toInt = 1 from by decide); omega)) (show x75_1.toInt ≤ v1.toInt + 8 by have q0 := (eq_add ex75_1 r52_3 (show rg (1 : Int32) 1 1 from rg_l (by decide)) (by decide)); have q1 := (eq_add ez36_1 r19_3 (show rg (8 : Int32) 8 8 from rg_l (by decide)) (by decide)); have q2 := FF.out t37_2; have q3 := (show (1 : Int32).toInt = 1 from by decide); have q4 := (show (8 : Int32).toInt = 8 from by decide); omega) (show v1.toInt ≤ x75_1.toInt by have q0 := (eq_add ex75_1 r52_3 (show rg (1 : Int32) 1 1 from rg_l (by decide)) (by decide)); have q1 := FF.out hi31_1004; have q2 := (show (1 : Int32).toInt = 1 from by decide); omega) (show ((2147483647 : Int) - x75_1.toInt).toNat < n31 by have q0 := r52_3.2; have q1 := (eq_add ex75_1 r52_3 (show rg (1 : Int32) 1 1 from rg_l (by decide)) (by decide)); have q2 := (show (1 : Int32).toInt = 1 from by decide); have q3 := hms31; omega) (lv_sub hl [2, 3, 4, 1, 0] rfl) hP hD hS
              · have t52_2 := FF.mk (i_nle c52_1)
                have r52_3 : rg j31_l5 0 255 := rg_ltA t52_2 r37_3 r19_4 (by decide)
                refine lv_aload_n hx hb dX16_bytes_55 rfl (lv_at hl 0 rfl) ?_
                refine va_get (D := D) (ci := 16) (v := .ref upb) (C := RX16) (T := TX16) (N := 78) hx hb (htX16 hn) (fun _ h => h) hown hK hP 2 rfl rfl 2 (by decide) (hn.get mw_1541 rfl) (fun _ h9 => h9) hf_mm_2 dX16_bytes_56 ?_
                refine lv_sipush (v := 256) hx hb dX16_bytes_59 (by decide) ?_
                refine lv_iload_n hx hb dX16_bytes_62 rfl (lv_at hl 1 rfl) ?_
                refine lv_imul hx hb dX16_bytes_63 ?_
                refine lv_topi (fun z63_1 ez63_1 => ?_)
                have r63_2 : rg z63_1 0 3840 := rg_mul ez63_1 (show rg (256 : Int32) 256 256 from rg_l (by decide)) r26_1 (by decide)
                refine lv_iload hx hb dX16_bytes_64 (lv_at hl 4 rfl) ?_
                refine lv_iadd hx hb dX16_bytes_66 ?_
                refine lv_topi (fun z66_1 ez66_1 => ?_)
                have r66_2 : rg z66_1 0 4095 := rg_add ez66_1 r63_2 r52_3 (by decide)
                have hi67_1 : vp_in z66_1 4096 := (in_rg r66_2 (by decide))
                refine va_iald hx hb hK hP 1 1 rfl rfl hi67_1 dX16_bytes_67 ?_
                refine lv_topi (fun z67_2 ez67_2 => ?_)
                have r67_3 : rg z67_2 0 255 := Rg_at h_g_upb hi67_1 ez67_2
                refine lv_goto (tgt := 72) hx hb dX16_bytes_68 (by decide) ?_
                refine lv_i2l hx hb dX16_bytes_72 rfl ?_
                refine lv_topl (fun z72_1 ez72_1 => ?_)
                have r72_2 : rl z72_1 0 255 := rl_i2l ez72_1 r67_3
                refine lv_lor hx hb dX16_bytes_73 ?_
                refine lv_topl (fun z73_1 ez73_1 => ?_)
                refine lv_lstore_n (lv' := [(3, .long z73_1), (0, .ref mm), (1, .int v0), (2, .int v1), (5, .int j31_l5)]) hx hb dX16_bytes_74 rfl hl (by decide) rfl (fun ls hl => ?_)
                obtain ⟨x75_1, ex75_1⟩ : ∃ z : Int32, z = j31_l5 + 1 := ⟨_, rfl⟩
                have r75_2 : rg x75_1 1 256 := rg_add ex75_1 r52_3 (show rg (1 : Int32) 1 1 from rg_l (by decide)) (by decide)
                refine lv_iinc (v := x75_1) (lv' := [(5, .int x75_1), (3, .long z73_1), (0, .ref mm), (1, .int v0), (2, .int v1)]) hx hb dX16_bytes_75 hl (k := 4) rfl (by rw [ex75_1]; rfl) (by decide) rfl (fun ls hl => ?_)
                refine lv_goto (tgt := 31) hx hb dX16_bytes_78 (by decide) ?_
                exact ih31 z73_1 x75_1 H locs ls (rg_w r75_2 (by decide)) (ACR.step hg31_1002 ez43_1 ez72_1 ez73_1 (fun h9 => (ATQ.of (show z66_1.toInt = (256 * v0.toInt) + v1.toInt + (j31_l5.toInt - v1.toInt) by have q0 := (eq_add ez66_1 r63_2 r52_3 (by decide)); have q1 := (eq_mull ez63_1 (show rg (256 : Int32) 256 256 from rg_l (by decide)) r26_1 (by decide)); omega) (show 0 ≤ z66_1.toInt by have q0 := (eq_add ez66_1 r63_2 r52_3 (by decide)); have q1 := (eq_mull ez63_1 (show rg (256 : Int32) 256 256 from rg_l (by decide)) r26_1 (by decide)); have q2 := r26_1.1; have q3 := FF.out t9_2; have q4 := FF.out hi31_1004; have q5 := (show (0 : Int32).toInt = 0 from by decide); omega) (show z67_2.toInt = (g_upb z66_1.toNatClampNeg).toInt % 256 by have q0 := r67_3.1; have q1 := r67_3.2; have q2 := (congrArg Int32.toInt ez67_2); omega))) (fun h9 => (show z67_2.toInt = 0 by have q0 := (congrArg Int32.toInt ez18_2); have q1 := FF.out t52_2; have q2 := h9; omega)) (show (x75_1.toInt - v1.toInt) = (j31_l5.toInt - v1.toInt) + 1 by have q0 := (eq_add ex75_1 r52_3 (show rg (1 : Int32) 1 1 from rg_l (by decide)) (by decide)); have q1 := (show (1 : Int32).toInt = 1 from by decide); omega)) (show x75_1.toInt ≤ v1.toInt + 8 by have q0 := (eq_add ex75_1 r52_3 (show rg (1 : Int32) 1 1 from rg_l (by decide)) (by decide)); have q1 := (eq_add ez36_1 r19_3 (show rg (8 : Int32) 8 8 from rg_l (by decide)) (by decide)); have q2 := FF.out t37_2; have q3 := (show (1 : Int32).toInt = 1 from by decide); have q4 := (show (8 : Int32).toInt = 8 from by decide); omega) (show v1.toInt ≤ x75_1.toInt by have q0 := (eq_add ex75_1 r52_3 (show rg (1 : Int32) 1 1 from rg_l (by decide)) (by decide)); have q1 := FF.out hi31_1004; have q2 := (show (1 : Int32).toInt = 1 from by decide); omega) (show ((2147483647 : Int) - x75_1.toInt).toNat < n31 by have q0 := r52_3.2; have q1 := (eq_add ex75_1 r52_3 (show rg (1 : Int32) 1 1 from rg_l (by decide)) (by decide)); have q2 := (show (1 : Int32).toInt = 1 from by decide); have q3 := hms31; omega) (lv_sub hl [2, 3, 4, 1, 0] rfl) hP hD hS
        exact b31 _ (0 : Int64) v1 H locs ls (rg_w r19_3 (by decide)) (ACR.zero (show (v1.toInt - v1.toInt) = 0 by omega)) (show v1.toInt ≤ v1.toInt + 8 by omega) (show v1.toInt ≤ v1.toInt by omega) (Nat.lt_succ_self _) (lv_sub hl [2, 3, 4, 1, 0] rfl) hP hD hS
      · have t19_2 := FF.mk (i_nlt c19_1)
        refine lv_ldc2 (v := (-1)) hx hb hown (hn.get mw_1798 rfl) dX16_bytes_22 ?_
        exact endq_l hQ hx hb hr hlocks dX16_bytes_25 () ⟨(show v0.toInt < 0 ∨ x_mm_4.toInt ≤ v0.toInt → (-1 : Int64).toInt = -1 by have q0 := (show (-1 : Int64).toInt = -1 from by decide); omega), (show 0 ≤ v0.toInt ∧ v0.toInt < x_mm_4.toInt ∧ (v1.toInt < 0 ∨ (g_upl_ v0.toNatClampNeg).toInt ≤ v1.toInt) → (-1 : Int64).toInt = -1 by have q0 := (show (-1 : Int64).toInt = -1 from by decide); omega), (fun hc => absurd hc (show ¬ (0 ≤ v0.toInt ∧ v0.toInt < x_mm_4.toInt ∧ 0 ≤ v1.toInt ∧ v1.toInt < (g_upl_ v0.toNatClampNeg).toInt) by have q0 := (congrArg Int32.toInt ez18_2); have q1 := FF.out t19_2; omega))⟩ hP hD hS [2, 0, 1] rfl (by decide) rfl (Nat.le_of_ble_eq_true rfl) (Nat.le_of_ble_eq_true rfl)
