/-! guards: each of 1 .. 6 at most once -/
def GU (g : Nat → Int32) (n : Int) : Prop := (∀ i : Nat, (i : Int) < n → 1 ≤ (g i).toInt ∧ (g i).toInt ≤ 6) ∧ (∀ i j : Nat, i < j → (j : Int) < n → (g i).toInt ≠ (g j).toInt)
def NH (g : Nat → Int32) (n had v : Int) : Prop := had = 0 → ∀ i : Nat, (i : Int) < n → (g i).toInt ≠ v
theorem GU.zero {g : Nat → Int32} {n : Int} (h : n ≤ 0) : GU g n := ⟨fun i hi => by omega, fun i j _ hj => by omega⟩
theorem pig_ : ∀ (m : Nat) (l : List Int), l.Nodup → (∀ x ∈ l, 1 ≤ x ∧ x ≤ (m : Int)) → l.length ≤ m
  | 0, l, _, h => by
    cases l with
    | nil => exact Nat.le_refl _
    | cons x l => have := h x (List.mem_cons_self); omega
  | m + 1, l, hn, h => by
    have h2 := pig_ m (l.erase ((m + 1 : Nat) : Int)) (hn.erase _) (fun x hx => by
      have h3 := (hn.mem_erase_iff).mp hx
      have h4 := h x h3.2
      have h5 := h3.1
      omega)
    by_cases hm : ((m + 1 : Nat) : Int) ∈ l
    · rw [List.length_erase_of_mem hm] at h2; omega
    · rw [List.erase_of_not_mem hm] at h2; omega
theorem GU.le {g : Nat → Int32} {n : Int} (h : GU g n) : n ≤ 6 := by
  by_cases h7 : n ≤ 6
  · exact h7
  · have h1 := pig_ 6 ((List.range 7).map (fun i => (g i).toInt)) (List.pairwise_map.mpr (List.pairwise_lt_range.imp_of_mem (fun ha hb hab => h.2 _ _ hab (by have := List.mem_range.mp hb; omega)))) (fun x hx => by
      obtain ⟨i, hi, rfl⟩ := List.mem_map.mp hx
      exact h.1 i (by have := List.mem_range.mp hi; omega))
    simp at h1
theorem ncn_nat {i : Int32} (hi : 0 ≤ i.toInt) : ((i.toNatClampNeg : Nat) : Int) = i.toInt := by
  show ((i.toInt.toNat : Nat) : Int) = _
  omega
theorem GU.add {g g2 : Nat → Int32} {i v : Int32} {n : Int} (h : GU g i.toInt) (h2 : NH g i.toInt 0 v.toInt) (e : g2 = upd g i.toNatClampNeg v) (hi : 0 ≤ i.toInt) (hv : 1 ≤ v.toInt ∧ v.toInt ≤ 6) (hn : n = i.toInt + 1) : GU g2 n := by
  subst e; have hk := ncn_nat hi
  refine ⟨fun j hj => ?_, fun j k hjk hkn => ?_⟩
  · unfold upd; split
    · exact hv
    · exact h.1 j (by omega)
  · unfold upd
    by_cases hk1 : k = i.toNatClampNeg
    · rw [if_pos hk1, if_neg (by omega)]; exact h2 rfl j (by omega)
    · rw [if_neg hk1, if_neg (by omega)]; exact h.2 j k hjk (by omega)
theorem NH.zero {g : Nat → Int32} {n had v : Int} (h : n ≤ 0) : NH g n had v := fun _ i hi => by omega
theorem NH.one {g : Nat → Int32} {n had v : Int} (h : had ≠ 0) : NH g n had v := fun h0 => absurd h0 h
theorem NH.step {g : Nat → Int32} {i : Int32} {n had had2 v : Int} (h : NH g i.toInt had v) (h0 : had = 0) (hv : (g i.toNatClampNeg).toInt ≠ v) (hi : 0 ≤ i.toInt) (hn : n = i.toInt + 1) : NH g n had2 v := fun _ j hj => by
  have hk := ncn_nat hi
  by_cases hj1 : j = i.toNatClampNeg
  · rw [hj1]; exact hv
  · exact h h0 j (by omega)
theorem NH.is {g : Nat → Int32} {n had v : Int} (h : NH g n had v) (h0 : had = 0) {m : Int} (hm : m ≤ n) : NH g m 0 v := fun _ j hj => h h0 j (by omega)
set_option maxHeartbeats 2000000 in
theorem c_X16_opensSum_s (l : Launch) (hst : l.stackTraces = false) (D : va_G) (ct : Nat → ClassId) (mm : Nat) (fs_mm : List Value) (utape : Nat) (x_mm_6 : Int32) (x_mm_7 : Int32) (x_mm_8 : Int32) (x_mm_10 : Int32) (g_utape : Nat → Int32) (hlen_mm : fs_mm.length = 78) (hf_mm_0 : fs_mm[0]? = some (.ref utape)) (h_x_mm_6 : rg x_mm_6 0 2000) (hf_mm_6 : fs_mm[6]? = some (.int x_mm_6)) (h_x_mm_7 : rg x_mm_7 0 2001) (hf_mm_7 : fs_mm[7]? = some (.int x_mm_7)) (h_x_mm_8 : rg x_mm_8 0 2000) (hf_mm_8 : fs_mm[8]? = some (.int x_mm_8)) (h_x_mm_10 : rg x_mm_10 0 2) (hf_mm_10 : fs_mm[10]? = some (.int x_mm_10)) (h_g_utape : Rg g_utape 2000 0 255) (hq0 : x_mm_7.toInt ≤ 2000) (hq1 : x_mm_7.toInt ≤ x_mm_8.toInt) (hq2 : x_mm_6.toInt ≤ x_mm_8.toInt) : KT (V := Unit) (S := List Value × Int32 × Int32 × Int32 × Int32) (SX := List Value × Int32 × Int32) l yX16_opensSum cX16_opensSum 1 none 9 187 D ct [.ref mm] [(mm, .inr (16, fs_mm)), (utape, .inl (ct 1, 2000, .inl g_utape))] 1 7 (fun _ : Unit => none) (fun (_ : Unit) (u : List Value × Int32 × Int32 × Int32 × Int32) => match u with | (fs2_mm, y_mm_5, y_mm_6, y_mm_7, y_mm_10) => SB fs_mm fs2_mm [5, 6, 7, 10] ∧ rg y_mm_5 0 2 ∧ fs2_mm[5]? = some (.int y_mm_5) ∧ rg y_mm_6 0 2000 ∧ fs2_mm[6]? = some (.int y_mm_6) ∧ rg y_mm_7 0 2002 ∧ fs2_mm[7]? = some (.int y_mm_7) ∧ rg y_mm_10 0 2 ∧ fs2_mm[10]? = some (.int y_mm_10) ∧ (y_mm_7.toInt ≤ x_mm_8.toInt) ∧ (y_mm_6.toInt ≤ x_mm_8.toInt) ∧ (y_mm_5.toInt ≠ 0 → y_mm_6.toInt + 1 ≤ y_mm_7.toInt) ∧ (x_mm_7.toInt ≤ y_mm_6.toInt) ∧ (y_mm_10.toInt = x_mm_10.toInt + 1) ∧ (y_mm_10.toInt ≤ 2) ∧ (x_mm_7.toInt ≤ y_mm_6.toInt)) (fun (u : List Value × Int32 × Int32 × Int32 × Int32) => match u with | (fs2_mm, y_mm_5, y_mm_6, y_mm_7, y_mm_10) => [(mm, .inr (16, fs2_mm)), (utape, .inl (ct 1, 2000, .inl g_utape))] ++ []) (fun _ => 0) (fun _ => 0) 15 RX15 peW (fun (u : List Value × Int32 × Int32) => match u with | (fs2_mm, y_mm_6, y_mm_10) => SB fs_mm fs2_mm [5, 6, 7, 10] ∧ rg y_mm_6 0 2000 ∧ fs2_mm[6]? = some (.int y_mm_6) ∧ fs2_mm[7]? = some (.int x_mm_7) ∧ rg y_mm_10 0 2 ∧ fs2_mm[10]? = some (.int y_mm_10)) (fun (u : List Value × Int32 × Int32) => match u with | (fs2_mm, y_mm_6, y_mm_10) => [(mm, .inr (16, fs2_mm)), (utape, .inl (ct 1, 2000, .inl g_utape))]) := by
  refine KT_of (by decide) (Nat.le_of_ble_eq_true rfl) (fun p e s m below meth c A Q C0 htab hA H locs hS hP hD hQ ls hl => ?_)
  obtain ⟨hx, hb, hr, hown, hin, hml, hlocks, hn, hK, hZ, hSK⟩ := C0
  have hl : lv_has ls 1 [(0, .ref mm)] := hl
  replace hq0 := FF.mk hq0
  replace hq1 := FF.mk hq1
  replace hq2 := FF.mk hq2
  refine lv_aload_n hx hb dX16_opensSum_0 rfl (lv_at hl 0 rfl) ?_
  refine lv_aload_n hx hb dX16_opensSum_1 rfl (lv_at hl 0 rfl) ?_
  refine va_get (D := D) (ci := 16) (v := .int x_mm_10) (C := RX16) (T := TX16) (N := 78) hx hb (htX16 hn) (fun _ h => h) hown hK hP 0 rfl rfl 10 (by decide) (hn.get mw_1549 rfl) (fun _ h9 => h9) hf_mm_10 dX16_opensSum_2 ?_
  refine lv_iconst (v := 2) hx hb dX16_opensSum_5 (by decide) ?_
  have b14 : ∀ (j14_s0 : Int32) (H : Heap) (locs : List Loc) (ls : Array Slot), (rg j14_s0 0 1) → (FF (j14_s0.toInt = 1 → x_mm_10.toInt < 2)) → lv_has ls 1 [(0, .ref mm)] → va_P D vwCl [(mm, .inr (16, fs_mm)), (utape, .inl (ct 1, 2000, .inl g_utape))] H → va_D A [(mm, .inr (16, fs_mm)), (utape, .inl (ct 1, 2000, .inl g_utape))] → va_S A s.heap H locs → W p l e ({ frames := 9, cells := 1, slots := 7, locals := 187 }) s m [.ref mm].toArray below meth c H locs 0 0 Q (F0 m 14 ls [.int j14_s0, .ref mm]) := by
    intro j14_s0 H locs ls r14_1001 hi14_1002 hl hP hD hS
    refine gt_q (pl := []) (wr := [(utape, .inl (ct 1, 2000, .inl g_utape))]) [0] [1] (rt_V (As := [.int j14_s0]) (rest := []) (c_X16_must l hst D ct mm j14_s0 fs_mm x_mm_6 r14_1001 hlen_mm h_x_mm_6 hf_mm_6 _) (cb_of (n := 1) hn mw_1927 mw_13 mw_1924 mhX16_must ⟨(Nat.le_of_ble_eq_true rfl), (Nat.le_of_ble_eq_true rfl)⟩) hx hb hml hown hn hK hSK hZ hS mw_1926 mw_s182 (ci := 16) (q0 := 0) rfl rfl rfl rfl hl.1 (Nat.le_of_ble_eq_true rfl) dX16_opensSum_14 ⟨(Nat.le_of_ble_eq_true rfl), (Nat.le_of_ble_eq_true rfl)⟩) (by rw [List.append_nil]; exact hP) (by rw [List.append_nil]; exact hD) hS hA rfl rfl (by decide) (by decide) (by decide) (fun xq14_4 ux14_5 xfs14_6 H locs hpx14_7 hpexfs14_6 hP hD hS => ?_) (fun r14_1 u14_2 H locs hp14_3 hP hD hS => ?_)
    · have hP : va_P D vwCl [(utape, .inl (ct 1, 2000, .inl g_utape)), (mm, .inr (16, fs_mm)), (xq14_4, .inr (15, xfs14_6))] _ := hP
      have hD : va_D A [(utape, .inl (ct 1, 2000, .inl g_utape)), (mm, .inr (16, fs_mm)), (xq14_4, .inr (15, xfs14_6))] := hD
      refine vx_widen (k := 1) (n := 7) (Nat.le_of_ble_eq_true rfl) (Nat.le_of_ble_eq_true rfl) ?_
      exact xo hQ htab hlocks hK rfl hP hD hS (fs_mm, x_mm_6, x_mm_10) (fs := xfs14_6) ⟨(SB.rf _ _), h_x_mm_6, hf_mm_6, hf_mm_7, h_x_mm_10, hf_mm_10⟩ hpexfs14_6 [1, 0, 2] (by decide) rfl (kq := 2) rfl (Nat.le_of_ble_eq_true rfl) (Nat.le_of_ble_eq_true rfl)
    have hp14_308 := hp14_3
    replace hp14_308 : FF (j14_s0.toInt = 1) := hp14_308
    rw [List.append_nil] at hP hD
    have hP : va_P D vwCl [(utape, .inl (ct 1, 2000, .inl g_utape)), (mm, .inr (16, fs_mm))] _ := hP
    have hD : va_D A [(utape, .inl (ct 1, 2000, .inl g_utape)), (mm, .inr (16, fs_mm))] := hD
    refine W.widen (k := 0) (n := 0) (Nat.le_of_ble_eq_true rfl) (Nat.le_of_ble_eq_true rfl) (W.eq (g2 := F0 m 17 ls []) rfl ?_)
    refine lv_aload_n hx hb dX16_opensSum_17 rfl (lv_at hl 0 rfl) ?_
    refine lv_dup hx hb dX16_opensSum_18 rfl ?_
    refine va_get (D := D) (ci := 16) (v := .int x_mm_10) (C := RX16) (T := TX16) (N := 78) hx hb (htX16 hn) (fun _ h => h) hown hK hP 1 rfl rfl 10 (by decide) (hn.get mw_1549 rfl) (fun _ h9 => h9) hf_mm_10 dX16_opensSum_19 ?_
    refine lv_iconst (v := 1) hx hb dX16_opensSum_22 (by decide) ?_
    refine lv_iadd hx hb dX16_opensSum_23 ?_
    refine lv_topi (fun z23_1 ez23_1 => ?_)
    have r23_2 : rg z23_1 1 3 := rg_add ez23_1 h_x_mm_10 (show rg (1 : Int32) 1 1 from rg_l (by decide)) (by decide)
    refine va_put (D := D) (ci := 16) (v := .int z23_1) (ty := .int) (C := RX16) (T := TX16) (N := 78) hx hb (htX16 hn) (fun _ h => h) tyX16 tyX16_ok nmX16 hown hK hP hD hS 1 rfl rfl 10 (by decide) (hn.get mw_1549 rfl) (fun _ h9 => h9) rfl (by decide +kernel) rfl rfl (by rw [hlen_mm]; decide) dX16_opensSum_24 (fun H locs hP hD hS => ?_)
    have hP : va_P D vwCl [(utape, .inl (ct 1, 2000, .inl g_utape)), (mm, .inr (16, (fs_mm.set 10 (.int z23_1))))] _ := hP
    have hD : va_D A [(utape, .inl (ct 1, 2000, .inl g_utape)), (mm, .inr (16, (fs_mm.set 10 (.int z23_1))))] := hD
    obtain ⟨m24_1, em24_1⟩ : ∃ z, z = (fs_mm.set 10 (.int z23_1)) := ⟨_, rfl⟩
    rw [← em24_1] at hP hD
    have hsm24_1 : SB fs_mm m24_1 [5, 6, 7, 10] := by rw [em24_1]; exact SB.set (SB.rf _ _) (by decide)
    have hfm24_1_6 : m24_1[6]? = some (.int x_mm_6) := by rw [em24_1]; exact fs_ne (by decide) hf_mm_6
    have hfm24_1_7 : m24_1[7]? = some (.int x_mm_7) := by rw [em24_1]; exact fs_ne (by decide) hf_mm_7
    have hfm24_1_10 : m24_1[10]? = some (.int z23_1) := by rw [em24_1]; exact fs_eq (by rw [hlen_mm]; decide)
    have hP : va_P D vwCl [(utape, .inl (ct 1, 2000, .inl g_utape)), (mm, .inr (16, m24_1))] _ := hP
    have hD : va_D A [(utape, .inl (ct 1, 2000, .inl g_utape)), (mm, .inr (16, m24_1))] := hD
    refine lv_aload_n hx hb dX16_opensSum_27 rfl (lv_at hl 0 rfl) ?_
    refine gt_q (pl := []) (wr := []) [1, 0] [] (rt_V (As := []) (rest := []) (c_X16_next l hst D ct mm m24_1 utape x_mm_7 x_mm_8 g_utape (hsm24_1.1.trans hlen_mm) (SB.get hsm24_1 (by decide) hf_mm_0) h_x_mm_7 hfm24_1_7 h_x_mm_8 (SB.get hsm24_1 (by decide) hf_mm_8) h_g_utape (show x_mm_7.toInt ≤ x_mm_8.toInt by have q0 := FF.out hq1; omega) _) (cb_of (n := 0) hn mw_1912 mw_13 mw_1909 mhX16_next ⟨(Nat.le_of_ble_eq_true rfl), (Nat.le_of_ble_eq_true rfl)⟩) hx hb hml hown hn hK hSK hZ hS mw_1911 mw_s179 (ci := 16) (q0 := 0) rfl rfl rfl rfl hl.1 (Nat.le_of_ble_eq_true rfl) dX16_opensSum_28 ⟨(Nat.le_of_ble_eq_true rfl), (Nat.le_of_ble_eq_true rfl)⟩) (by rw [List.append_nil]; exact hP) (by rw [List.append_nil]; exact hD) hS hA rfl rfl (by decide) (by decide) (by decide) (fun xq28_4 ux28_5 xfs28_6 H locs hpx28_7 hpexfs28_6 hP hD hS => ?_) (fun r28_1 u28_2 H locs hp28_3 hP hD hS => ?_)
    · obtain ⟨fs2_mm28_8, y_mm_628_9⟩ := ux28_5
      obtain ⟨hp28_10, hp28_11, hp28_12, hp28_13⟩ := hpx28_7
      have hs28_14 : SB fs_mm fs2_mm28_8 [5, 6, 7, 10] := SB.trans hsm24_1 hp28_10 (by decide)
      have hf28_15 : fs2_mm28_8[10]? = some (.int z23_1) := SB.get hp28_10 (by decide) hfm24_1_10
      have hp28_11 : rg y_mm_628_9 0 2000 := hp28_11
      have hP : va_P D vwCl [(mm, .inr (16, fs2_mm28_8)), (utape, .inl (ct 1, 2000, .inl g_utape)), (xq28_4, .inr (15, xfs28_6))] _ := hP
      have hD : va_D A [(mm, .inr (16, fs2_mm28_8)), (utape, .inl (ct 1, 2000, .inl g_utape)), (xq28_4, .inr (15, xfs28_6))] := hD
      refine vx_widen (k := 1) (n := 7) (Nat.le_of_ble_eq_true rfl) (Nat.le_of_ble_eq_true rfl) ?_
      exact xo hQ htab hlocks hK rfl hP hD hS (fs2_mm28_8, y_mm_628_9, z23_1) (fs := xfs28_6) ⟨hs28_14, hp28_11, hp28_12, hp28_13, (rg_of (show 0 ≤ z23_1.toInt ∧ z23_1.toInt ≤ 2 by have q0 := r23_2.1; have q1 := (eq_add ez23_1 h_x_mm_10 (show rg (1 : Int32) 1 1 from rg_l (by decide)) (by decide)); have q2 := r14_1001.2; have q3 := FF.out hi14_1002; have q4 := FF.out hp14_308; have q5 := (show (1 : Int32).toInt = 1 from by decide); omega)), hf28_15⟩ hpexfs28_6 [0, 1, 2] (by decide) rfl (kq := 2) rfl (Nat.le_of_ble_eq_true rfl) (Nat.le_of_ble_eq_true rfl)
    obtain ⟨fs2_mm28_308, y_mm_528_309, y_mm_628_310, y_mm_728_311⟩ := u28_2
    obtain ⟨hp28_312, hp28_313, hp28_314, hp28_315, hp28_316, hp28_317, hp28_318, hp28_319, hp28_320, hp28_321, hp28_322⟩ := hp28_3
    have hs28_323 : SB fs_mm fs2_mm28_308 [5, 6, 7, 10] := SB.trans hsm24_1 hp28_312 (by decide)
    have hf28_324 : fs2_mm28_308[10]? = some (.int z23_1) := SB.get hp28_312 (by decide) hfm24_1_10
    have hp28_313 : rg y_mm_528_309 0 2 := hp28_313
    have hp28_315 : rg y_mm_628_310 0 2000 := hp28_315
    have hp28_317 : rg y_mm_728_311 0 2002 := hp28_317
    replace hp28_319 : FF (y_mm_728_311.toInt ≤ x_mm_8.toInt) := hp28_319
    replace hp28_320 : FF (y_mm_628_310.toInt ≤ x_mm_8.toInt) := hp28_320
    replace hp28_321 : FF (y_mm_528_309.toInt ≠ 0 → y_mm_628_310.toInt + 1 ≤ y_mm_728_311.toInt) := hp28_321
    replace hp28_322 : FF (x_mm_7.toInt ≤ y_mm_628_310.toInt) := hp28_322
    rw [List.append_nil] at hP hD
    have hP : va_P D vwCl [(mm, .inr (16, fs2_mm28_308)), (utape, .inl (ct 1, 2000, .inl g_utape))] _ := hP
    have hD : va_D A [(mm, .inr (16, fs2_mm28_308)), (utape, .inl (ct 1, 2000, .inl g_utape))] := hD
    refine W.widen (k := 0) (n := 0) (Nat.le_of_ble_eq_true rfl) (Nat.le_of_ble_eq_true rfl) (W.eq (g2 := F0 m 31 ls []) rfl ?_)
    exact et_v (SX := List Value × Int32 × Int32) (pl1 := fun _ => []) hQ hx hb hr hlocks dX16_opensSum_31 (fs2_mm28_308, y_mm_528_309, y_mm_628_310, y_mm_728_311, z23_1) ⟨hs28_323, hp28_313, hp28_314, hp28_315, hp28_316, hp28_317, hp28_318, (rg_of (show 0 ≤ z23_1.toInt ∧ z23_1.toInt ≤ 2 by have q0 := r23_2.1; have q1 := (eq_add ez23_1 h_x_mm_10 (show rg (1 : Int32) 1 1 from rg_l (by decide)) (by decide)); have q2 := r14_1001.2; have q3 := FF.out hi14_1002; have q4 := FF.out hp14_308; have q5 := (show (1 : Int32).toInt = 1 from by decide); omega)), hf28_324, (show y_mm_728_311.toInt ≤ x_mm_8.toInt by have q0 := FF.out hp28_319; omega), (show y_mm_628_310.toInt ≤ x_mm_8.toInt by have q0 := FF.out hp28_320; omega), (show y_mm_528_309.toInt ≠ 0 → y_mm_628_310.toInt + 1 ≤ y_mm_728_311.toInt by have q0 := hp28_313.1; have q1 := FF.out hp28_321; omega), (show x_mm_7.toInt ≤ y_mm_628_310.toInt by have q0 := FF.out hp28_322; omega), (show z23_1.toInt = x_mm_10.toInt + 1 by have q0 := (eq_add ez23_1 h_x_mm_10 (show rg (1 : Int32) 1 1 from rg_l (by decide)) (by decide)); have q1 := (show (1 : Int32).toInt = 1 from by decide); omega), (show z23_1.toInt ≤ 2 by have q0 := (eq_add ez23_1 h_x_mm_10 (show rg (1 : Int32) 1 1 from rg_l (by decide)) (by decide)); have q1 := r14_1001.2; have q2 := FF.out hi14_1002; have q3 := FF.out hp14_308; have q4 := (show (1 : Int32).toInt = 1 from by decide); omega), (show x_mm_7.toInt ≤ y_mm_628_310.toInt by have q0 := FF.out hp28_322; omega)⟩ (by rw [List.append_nil]; exact hP) (by rw [List.append_nil]; exact hD) hS [0, 1] (by decide) rfl (Nat.le_of_ble_eq_true rfl) (Nat.le_of_ble_eq_true rfl) (Nat.le_of_ble_eq_true rfl) (Nat.le_of_ble_eq_true rfl)
  refine lv_icmp_ge (tgt := 13) hx hb dX16_opensSum_6 (by decide) (fun c6_1 => ?_) (fun c6_1 => ?_)
  · have t6_2 := FF.mk (i_le c6_1)
    have r6_3 : rg x_mm_10 2 2 := rg_leB t6_2 (show rg (2 : Int32) 2 2 from rg_l (by decide)) h_x_mm_10 (by decide)
    refine lv_iconst (v := 0) hx hb dX16_opensSum_13 (by decide) ?_
    exact b14 (0 : Int32) H locs ls (rg_w (show rg (0 : Int32) 0 0 from rg_l (by decide)) (by decide)) (show (0 : Int32).toInt = 1 → x_mm_10.toInt < 2 by have q0 := (show (0 : Int32).toInt = 0 from by decide); omega) (lv_sub hl [0] rfl) hP hD hS
  · have t6_2 := FF.mk (i_nle c6_1)
    have r6_3 : rg x_mm_10 0 1 := rg_ltA t6_2 h_x_mm_10 (show rg (2 : Int32) 2 2 from rg_l (by decide)) (by decide)
    refine lv_iconst (v := 1) hx hb dX16_opensSum_9 (by decide) ?_
    refine lv_goto (tgt := 14) hx hb dX16_opensSum_10 (by decide) ?_
    exact b14 (1 : Int32) H locs ls (rg_w (show rg (1 : Int32) 1 1 from rg_l (by decide)) (by decide)) (show (1 : Int32).toInt = 1 → x_mm_10.toInt < 2 by have q0 := r6_3.2; have q1 := (show (1 : Int32).toInt = 1 from by decide); omega) (lv_sub hl [0] rfl) hP hD hS
set_option maxHeartbeats 2000000 in
theorem c_X16_opensFilter_s (l : Launch) (hst : l.stackTraces = false) (D : va_G) (ct : Nat → ClassId) (mm : Nat) (fs_mm : List Value) (utape : Nat) (x_mm_6 : Int32) (x_mm_7 : Int32) (x_mm_8 : Int32) (x_mm_9 : Int32) (g_utape : Nat → Int32) (hlen_mm : fs_mm.length = 78) (hf_mm_0 : fs_mm[0]? = some (.ref utape)) (h_x_mm_6 : rg x_mm_6 0 2000) (hf_mm_6 : fs_mm[6]? = some (.int x_mm_6)) (h_x_mm_7 : rg x_mm_7 0 2001) (hf_mm_7 : fs_mm[7]? = some (.int x_mm_7)) (h_x_mm_8 : rg x_mm_8 0 2000) (hf_mm_8 : fs_mm[8]? = some (.int x_mm_8)) (h_x_mm_9 : rg x_mm_9 0 20) (hf_mm_9 : fs_mm[9]? = some (.int x_mm_9)) (h_g_utape : Rg g_utape 2000 0 255) (hq0 : x_mm_7.toInt ≤ 2000) (hq1 : x_mm_7.toInt ≤ x_mm_8.toInt) (hq2 : x_mm_6.toInt ≤ x_mm_8.toInt) : KT (V := Unit) (S := List Value × Int32 × Int32 × Int32 × Int32) (SX := List Value × Int32 × Int32) l yX16_opensFilter cX16_opensFilter 1 none 9 187 D ct [.ref mm] [(mm, .inr (16, fs_mm)), (utape, .inl (ct 1, 2000, .inl g_utape))] 1 7 (fun _ : Unit => none) (fun (_ : Unit) (u : List Value × Int32 × Int32 × Int32 × Int32) => match u with | (fs2_mm, y_mm_5, y_mm_6, y_mm_7, y_mm_9) => SB fs_mm fs2_mm [5, 6, 7, 9] ∧ rg y_mm_5 0 2 ∧ fs2_mm[5]? = some (.int y_mm_5) ∧ rg y_mm_6 0 2000 ∧ fs2_mm[6]? = some (.int y_mm_6) ∧ rg y_mm_7 0 2002 ∧ fs2_mm[7]? = some (.int y_mm_7) ∧ rg y_mm_9 0 20 ∧ fs2_mm[9]? = some (.int y_mm_9) ∧ (y_mm_7.toInt ≤ x_mm_8.toInt) ∧ (y_mm_6.toInt ≤ x_mm_8.toInt) ∧ (y_mm_5.toInt ≠ 0 → y_mm_6.toInt + 1 ≤ y_mm_7.toInt) ∧ (x_mm_7.toInt ≤ y_mm_6.toInt) ∧ (y_mm_9.toInt = x_mm_9.toInt + 1) ∧ (y_mm_9.toInt ≤ 20) ∧ (x_mm_7.toInt ≤ y_mm_6.toInt)) (fun (u : List Value × Int32 × Int32 × Int32 × Int32) => match u with | (fs2_mm, y_mm_5, y_mm_6, y_mm_7, y_mm_9) => [(mm, .inr (16, fs2_mm)), (utape, .inl (ct 1, 2000, .inl g_utape))] ++ []) (fun _ => 0) (fun _ => 0) 15 RX15 peW (fun (u : List Value × Int32 × Int32) => match u with | (fs2_mm, y_mm_6, y_mm_9) => SB fs_mm fs2_mm [5, 6, 7, 9] ∧ rg y_mm_6 0 2000 ∧ fs2_mm[6]? = some (.int y_mm_6) ∧ fs2_mm[7]? = some (.int x_mm_7) ∧ rg y_mm_9 0 20 ∧ fs2_mm[9]? = some (.int y_mm_9)) (fun (u : List Value × Int32 × Int32) => match u with | (fs2_mm, y_mm_6, y_mm_9) => [(mm, .inr (16, fs2_mm)), (utape, .inl (ct 1, 2000, .inl g_utape))]) := by
  refine KT_of (by decide) (Nat.le_of_ble_eq_true rfl) (fun p e s m below meth c A Q C0 htab hA H locs hS hP hD hQ ls hl => ?_)
  obtain ⟨hx, hb, hr, hown, hin, hml, hlocks, hn, hK, hZ, hSK⟩ := C0
  have hl : lv_has ls 1 [(0, .ref mm)] := hl
  replace hq0 := FF.mk hq0
  replace hq1 := FF.mk hq1
  replace hq2 := FF.mk hq2
  refine lv_aload_n hx hb dX16_opensFilter_0 rfl (lv_at hl 0 rfl) ?_
  refine lv_aload_n hx hb dX16_opensFilter_1 rfl (lv_at hl 0 rfl) ?_
  refine va_get (D := D) (ci := 16) (v := .int x_mm_9) (C := RX16) (T := TX16) (N := 78) hx hb (htX16 hn) (fun _ h => h) hown hK hP 0 rfl rfl 9 (by decide) (hn.get mw_1548 rfl) (fun _ h9 => h9) hf_mm_9 dX16_opensFilter_2 ?_
  refine lv_bipush (v := 20) hx hb dX16_opensFilter_5 (by decide) ?_
  have b15 : ∀ (j15_s0 : Int32) (H : Heap) (locs : List Loc) (ls : Array Slot), (rg j15_s0 0 1) → (FF (j15_s0.toInt = 1 → x_mm_9.toInt < 20)) → lv_has ls 1 [(0, .ref mm)] → va_P D vwCl [(mm, .inr (16, fs_mm)), (utape, .inl (ct 1, 2000, .inl g_utape))] H → va_D A [(mm, .inr (16, fs_mm)), (utape, .inl (ct 1, 2000, .inl g_utape))] → va_S A s.heap H locs → W p l e ({ frames := 9, cells := 1, slots := 7, locals := 187 }) s m [.ref mm].toArray below meth c H locs 0 0 Q (F0 m 15 ls [.int j15_s0, .ref mm]) := by
    intro j15_s0 H locs ls r15_1001 hi15_1002 hl hP hD hS
    refine gt_q (pl := []) (wr := [(utape, .inl (ct 1, 2000, .inl g_utape))]) [0] [1] (rt_V (As := [.int j15_s0]) (rest := []) (c_X16_must l hst D ct mm j15_s0 fs_mm x_mm_6 r15_1001 hlen_mm h_x_mm_6 hf_mm_6 _) (cb_of (n := 1) hn mw_1927 mw_13 mw_1924 mhX16_must ⟨(Nat.le_of_ble_eq_true rfl), (Nat.le_of_ble_eq_true rfl)⟩) hx hb hml hown hn hK hSK hZ hS mw_1926 mw_s182 (ci := 16) (q0 := 0) rfl rfl rfl rfl hl.1 (Nat.le_of_ble_eq_true rfl) dX16_opensFilter_15 ⟨(Nat.le_of_ble_eq_true rfl), (Nat.le_of_ble_eq_true rfl)⟩) (by rw [List.append_nil]; exact hP) (by rw [List.append_nil]; exact hD) hS hA rfl rfl (by decide) (by decide) (by decide) (fun xq15_4 ux15_5 xfs15_6 H locs hpx15_7 hpexfs15_6 hP hD hS => ?_) (fun r15_1 u15_2 H locs hp15_3 hP hD hS => ?_)
    · have hP : va_P D vwCl [(utape, .inl (ct 1, 2000, .inl g_utape)), (mm, .inr (16, fs_mm)), (xq15_4, .inr (15, xfs15_6))] _ := hP
      have hD : va_D A [(utape, .inl (ct 1, 2000, .inl g_utape)), (mm, .inr (16, fs_mm)), (xq15_4, .inr (15, xfs15_6))] := hD
      refine vx_widen (k := 1) (n := 7) (Nat.le_of_ble_eq_true rfl) (Nat.le_of_ble_eq_true rfl) ?_
      exact xo hQ htab hlocks hK rfl hP hD hS (fs_mm, x_mm_6, x_mm_9) (fs := xfs15_6) ⟨(SB.rf _ _), h_x_mm_6, hf_mm_6, hf_mm_7, h_x_mm_9, hf_mm_9⟩ hpexfs15_6 [1, 0, 2] (by decide) rfl (kq := 2) rfl (Nat.le_of_ble_eq_true rfl) (Nat.le_of_ble_eq_true rfl)
    have hp15_308 := hp15_3
    replace hp15_308 : FF (j15_s0.toInt = 1) := hp15_308
    rw [List.append_nil] at hP hD
    have hP : va_P D vwCl [(utape, .inl (ct 1, 2000, .inl g_utape)), (mm, .inr (16, fs_mm))] _ := hP
    have hD : va_D A [(utape, .inl (ct 1, 2000, .inl g_utape)), (mm, .inr (16, fs_mm))] := hD
    refine W.widen (k := 0) (n := 0) (Nat.le_of_ble_eq_true rfl) (Nat.le_of_ble_eq_true rfl) (W.eq (g2 := F0 m 18 ls []) rfl ?_)
    refine lv_aload_n hx hb dX16_opensFilter_18 rfl (lv_at hl 0 rfl) ?_
    refine lv_dup hx hb dX16_opensFilter_19 rfl ?_
    refine va_get (D := D) (ci := 16) (v := .int x_mm_9) (C := RX16) (T := TX16) (N := 78) hx hb (htX16 hn) (fun _ h => h) hown hK hP 1 rfl rfl 9 (by decide) (hn.get mw_1548 rfl) (fun _ h9 => h9) hf_mm_9 dX16_opensFilter_20 ?_
    refine lv_iconst (v := 1) hx hb dX16_opensFilter_23 (by decide) ?_
    refine lv_iadd hx hb dX16_opensFilter_24 ?_
    refine lv_topi (fun z24_1 ez24_1 => ?_)
    have r24_2 : rg z24_1 1 21 := rg_add ez24_1 h_x_mm_9 (show rg (1 : Int32) 1 1 from rg_l (by decide)) (by decide)
    refine va_put (D := D) (ci := 16) (v := .int z24_1) (ty := .int) (C := RX16) (T := TX16) (N := 78) hx hb (htX16 hn) (fun _ h => h) tyX16 tyX16_ok nmX16 hown hK hP hD hS 1 rfl rfl 9 (by decide) (hn.get mw_1548 rfl) (fun _ h9 => h9) rfl (by decide +kernel) rfl rfl (by rw [hlen_mm]; decide) dX16_opensFilter_25 (fun H locs hP hD hS => ?_)
    have hP : va_P D vwCl [(utape, .inl (ct 1, 2000, .inl g_utape)), (mm, .inr (16, (fs_mm.set 9 (.int z24_1))))] _ := hP
    have hD : va_D A [(utape, .inl (ct 1, 2000, .inl g_utape)), (mm, .inr (16, (fs_mm.set 9 (.int z24_1))))] := hD
    obtain ⟨m25_1, em25_1⟩ : ∃ z, z = (fs_mm.set 9 (.int z24_1)) := ⟨_, rfl⟩
    rw [← em25_1] at hP hD
    have hsm25_1 : SB fs_mm m25_1 [5, 6, 7, 9] := by rw [em25_1]; exact SB.set (SB.rf _ _) (by decide)
    have hfm25_1_6 : m25_1[6]? = some (.int x_mm_6) := by rw [em25_1]; exact fs_ne (by decide) hf_mm_6
    have hfm25_1_7 : m25_1[7]? = some (.int x_mm_7) := by rw [em25_1]; exact fs_ne (by decide) hf_mm_7
    have hfm25_1_9 : m25_1[9]? = some (.int z24_1) := by rw [em25_1]; exact fs_eq (by rw [hlen_mm]; decide)
    have hP : va_P D vwCl [(utape, .inl (ct 1, 2000, .inl g_utape)), (mm, .inr (16, m25_1))] _ := hP
    have hD : va_D A [(utape, .inl (ct 1, 2000, .inl g_utape)), (mm, .inr (16, m25_1))] := hD
    refine lv_aload_n hx hb dX16_opensFilter_28 rfl (lv_at hl 0 rfl) ?_
    refine gt_q (pl := []) (wr := []) [1, 0] [] (rt_V (As := []) (rest := []) (c_X16_next l hst D ct mm m25_1 utape x_mm_7 x_mm_8 g_utape (hsm25_1.1.trans hlen_mm) (SB.get hsm25_1 (by decide) hf_mm_0) h_x_mm_7 hfm25_1_7 h_x_mm_8 (SB.get hsm25_1 (by decide) hf_mm_8) h_g_utape (show x_mm_7.toInt ≤ x_mm_8.toInt by have q0 := FF.out hq1; omega) _) (cb_of (n := 0) hn mw_1912 mw_13 mw_1909 mhX16_next ⟨(Nat.le_of_ble_eq_true rfl), (Nat.le_of_ble_eq_true rfl)⟩) hx hb hml hown hn hK hSK hZ hS mw_1911 mw_s179 (ci := 16) (q0 := 0) rfl rfl rfl rfl hl.1 (Nat.le_of_ble_eq_true rfl) dX16_opensFilter_29 ⟨(Nat.le_of_ble_eq_true rfl), (Nat.le_of_ble_eq_true rfl)⟩) (by rw [List.append_nil]; exact hP) (by rw [List.append_nil]; exact hD) hS hA rfl rfl (by decide) (by decide) (by decide) (fun xq29_4 ux29_5 xfs29_6 H locs hpx29_7 hpexfs29_6 hP hD hS => ?_) (fun r29_1 u29_2 H locs hp29_3 hP hD hS => ?_)
    · obtain ⟨fs2_mm29_8, y_mm_629_9⟩ := ux29_5
      obtain ⟨hp29_10, hp29_11, hp29_12, hp29_13⟩ := hpx29_7
      have hs29_14 : SB fs_mm fs2_mm29_8 [5, 6, 7, 9] := SB.trans hsm25_1 hp29_10 (by decide)
      have hf29_15 : fs2_mm29_8[9]? = some (.int z24_1) := SB.get hp29_10 (by decide) hfm25_1_9
      have hp29_11 : rg y_mm_629_9 0 2000 := hp29_11
      have hP : va_P D vwCl [(mm, .inr (16, fs2_mm29_8)), (utape, .inl (ct 1, 2000, .inl g_utape)), (xq29_4, .inr (15, xfs29_6))] _ := hP
      have hD : va_D A [(mm, .inr (16, fs2_mm29_8)), (utape, .inl (ct 1, 2000, .inl g_utape)), (xq29_4, .inr (15, xfs29_6))] := hD
      refine vx_widen (k := 1) (n := 7) (Nat.le_of_ble_eq_true rfl) (Nat.le_of_ble_eq_true rfl) ?_
      exact xo hQ htab hlocks hK rfl hP hD hS (fs2_mm29_8, y_mm_629_9, z24_1) (fs := xfs29_6) ⟨hs29_14, hp29_11, hp29_12, hp29_13, (rg_of (show 0 ≤ z24_1.toInt ∧ z24_1.toInt ≤ 20 by have q0 := r24_2.1; have q1 := (eq_add ez24_1 h_x_mm_9 (show rg (1 : Int32) 1 1 from rg_l (by decide)) (by decide)); have q2 := r15_1001.2; have q3 := FF.out hi15_1002; have q4 := FF.out hp15_308; have q5 := (show (1 : Int32).toInt = 1 from by decide); omega)), hf29_15⟩ hpexfs29_6 [0, 1, 2] (by decide) rfl (kq := 2) rfl (Nat.le_of_ble_eq_true rfl) (Nat.le_of_ble_eq_true rfl)
    obtain ⟨fs2_mm29_308, y_mm_529_309, y_mm_629_310, y_mm_729_311⟩ := u29_2
    obtain ⟨hp29_312, hp29_313, hp29_314, hp29_315, hp29_316, hp29_317, hp29_318, hp29_319, hp29_320, hp29_321, hp29_322⟩ := hp29_3
    have hs29_323 : SB fs_mm fs2_mm29_308 [5, 6, 7, 9] := SB.trans hsm25_1 hp29_312 (by decide)
    have hf29_324 : fs2_mm29_308[9]? = some (.int z24_1) := SB.get hp29_312 (by decide) hfm25_1_9
    have hp29_313 : rg y_mm_529_309 0 2 := hp29_313
    have hp29_315 : rg y_mm_629_310 0 2000 := hp29_315
    have hp29_317 : rg y_mm_729_311 0 2002 := hp29_317
    replace hp29_319 : FF (y_mm_729_311.toInt ≤ x_mm_8.toInt) := hp29_319
    replace hp29_320 : FF (y_mm_629_310.toInt ≤ x_mm_8.toInt) := hp29_320
    replace hp29_321 : FF (y_mm_529_309.toInt ≠ 0 → y_mm_629_310.toInt + 1 ≤ y_mm_729_311.toInt) := hp29_321
    replace hp29_322 : FF (x_mm_7.toInt ≤ y_mm_629_310.toInt) := hp29_322
    rw [List.append_nil] at hP hD
    have hP : va_P D vwCl [(mm, .inr (16, fs2_mm29_308)), (utape, .inl (ct 1, 2000, .inl g_utape))] _ := hP
    have hD : va_D A [(mm, .inr (16, fs2_mm29_308)), (utape, .inl (ct 1, 2000, .inl g_utape))] := hD
    refine W.widen (k := 0) (n := 0) (Nat.le_of_ble_eq_true rfl) (Nat.le_of_ble_eq_true rfl) (W.eq (g2 := F0 m 32 ls []) rfl ?_)
    exact et_v (SX := List Value × Int32 × Int32) (pl1 := fun _ => []) hQ hx hb hr hlocks dX16_opensFilter_32 (fs2_mm29_308, y_mm_529_309, y_mm_629_310, y_mm_729_311, z24_1) ⟨hs29_323, hp29_313, hp29_314, hp29_315, hp29_316, hp29_317, hp29_318, (rg_of (show 0 ≤ z24_1.toInt ∧ z24_1.toInt ≤ 20 by have q0 := r24_2.1; have q1 := (eq_add ez24_1 h_x_mm_9 (show rg (1 : Int32) 1 1 from rg_l (by decide)) (by decide)); have q2 := r15_1001.2; have q3 := FF.out hi15_1002; have q4 := FF.out hp15_308; have q5 := (show (1 : Int32).toInt = 1 from by decide); omega)), hf29_324, (show y_mm_729_311.toInt ≤ x_mm_8.toInt by have q0 := FF.out hp29_319; omega), (show y_mm_629_310.toInt ≤ x_mm_8.toInt by have q0 := FF.out hp29_320; omega), (show y_mm_529_309.toInt ≠ 0 → y_mm_629_310.toInt + 1 ≤ y_mm_729_311.toInt by have q0 := hp29_313.1; have q1 := FF.out hp29_321; omega), (show x_mm_7.toInt ≤ y_mm_629_310.toInt by have q0 := FF.out hp29_322; omega), (show z24_1.toInt = x_mm_9.toInt + 1 by have q0 := (eq_add ez24_1 h_x_mm_9 (show rg (1 : Int32) 1 1 from rg_l (by decide)) (by decide)); have q1 := (show (1 : Int32).toInt = 1 from by decide); omega), (show z24_1.toInt ≤ 20 by have q0 := (eq_add ez24_1 h_x_mm_9 (show rg (1 : Int32) 1 1 from rg_l (by decide)) (by decide)); have q1 := r15_1001.2; have q2 := FF.out hi15_1002; have q3 := FF.out hp15_308; have q4 := (show (1 : Int32).toInt = 1 from by decide); omega), (show x_mm_7.toInt ≤ y_mm_629_310.toInt by have q0 := FF.out hp29_322; omega)⟩ (by rw [List.append_nil]; exact hP) (by rw [List.append_nil]; exact hD) hS [0, 1] (by decide) rfl (Nat.le_of_ble_eq_true rfl) (Nat.le_of_ble_eq_true rfl) (Nat.le_of_ble_eq_true rfl) (Nat.le_of_ble_eq_true rfl)
  refine lv_icmp_ge (tgt := 14) hx hb dX16_opensFilter_7 (by decide) (fun c7_1 => ?_) (fun c7_1 => ?_)
  · have t7_2 := FF.mk (i_le c7_1)
    have r7_3 : rg x_mm_9 20 20 := rg_leB t7_2 (show rg (20 : Int32) 20 20 from rg_l (by decide)) h_x_mm_9 (by decide)
    refine lv_iconst (v := 0) hx hb dX16_opensFilter_14 (by decide) ?_
    exact b15 (0 : Int32) H locs ls (rg_w (show rg (0 : Int32) 0 0 from rg_l (by decide)) (by decide)) (show (0 : Int32).toInt = 1 → x_mm_9.toInt < 20 by have q0 := (show (0 : Int32).toInt = 0 from by decide); omega) (lv_sub hl [0] rfl) hP hD hS
  · have t7_2 := FF.mk (i_nle c7_1)
    have r7_3 : rg x_mm_9 0 19 := rg_ltA t7_2 h_x_mm_9 (show rg (20 : Int32) 20 20 from rg_l (by decide)) (by decide)
    refine lv_iconst (v := 1) hx hb dX16_opensFilter_10 (by decide) ?_
    refine lv_goto (tgt := 15) hx hb dX16_opensFilter_11 (by decide) ?_
    exact b15 (1 : Int32) H locs ls (rg_w (show rg (1 : Int32) 1 1 from rg_l (by decide)) (by decide)) (show (1 : Int32).toInt = 1 → x_mm_9.toInt < 20 by have q0 := r7_3.2; have q1 := (show (1 : Int32).toInt = 1 from by decide); omega) (lv_sub hl [0] rfl) hP hD hS
