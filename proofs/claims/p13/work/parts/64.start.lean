/-! the start: the tables' words, the classes, the array classes, the String constants -/
theorem ar_prim {s : State} {args : Array Value} {ty : FieldType} (h : (Cond.arrayClass ty).before args s = true) : ∃ cA : ClassId, ArrOfT s cA ty ∧ s.vm.findClass ("[" ++ ty.toString) = some cA := by
  obtain ⟨cA, kA, comp, h1, h2, h3⟩ := Cond.arrayClass_spec h
  exact ⟨cA, fun n z => ⟨fun k h => (by cases h), kA, h2, comp, h3⟩, h1⟩
theorem ar_obj {s : State} {C : String} (h : va_AO C s) : ∃ cA : ClassId, ArrOfT s cA (.object C) ∧ va_RA s cA (.object C) := by
  obtain ⟨comp, c, k, h1, h2, h3, h4, h5⟩ := Cond.arrayOver_spec h
  exact ⟨c, fun n z => ⟨fun k h => (by cases h), k, h3, comp, h4⟩, k, comp, h3, h4, h1, h5⟩
def soW (w : Cond) : Bool := match w with
  | .stringRef own _ _ => decide (own = RX8 ∨ own = RX16)
  | _ => true
theorem so_all : ∀ w ∈ tables_1, soW w = true := by decide +kernel
theorem nwOK_start {s : State} {b : Nat} (hts : ∀ w ∈ lw_tbl, w.before #[Value.ref b] s = true) : nwOK s := by
  have hcl : ∀ own : String, own = RX8 ∨ own = RX16 → ∃ c : ClassId, s.vm.findClass own = some c := fun own ho => by
    rcases ho with rfl | rfl
    · obtain ⟨c1, k1, h1, -⟩ := Cond.instantiable_spec (hts _ mw_236)
      exact ⟨c1, h1⟩
    · obtain ⟨c1, k1, h1, -⟩ := Cond.instantiable_spec (hts _ mw_1528)
      exact ⟨c1, h1⟩
  refine ⟨fun w hm ho => okW_at (State.WarmedH.refl s) ho (hts w hm), fun own k tx hm => ?_, va_AO.of (hts _ mw_311), va_AO.of (hts _ mw_1534), va_AO.of (hts _ mw_1536)⟩
  obtain ⟨c, hc⟩ := hcl own (by simpa [soW] using so_all _ hm)
  have h1 := hts _ (List.mem_append_right _ hm)
  obtain ⟨k9, cf, i9, a9, hk9, hcf9, hcp9, -, hr9, hev9⟩ := Cond.stringRef_spec hc h1
  exact ⟨a9, vk_R.of h1 hev9⟩
def ctF (l : List Nat) (aK aV : Nat → Nat) (k : Nat) : Nat := if k < 100 then l.getD k 0 else if k < 200 then aK (k - 100) else aV (k - 200)
theorem ctF_K {l : List Nat} {aK aV : Nat → Nat} {i : Nat} (h : i < 63) : ctF l aK aV (100 + i) = aK i := by
  unfold ctF
  rw [if_neg (by omega), if_pos (by omega), Nat.add_sub_cancel_left]
theorem ctF_V {l : List Nat} {aK aV : Nat → Nat} {i : Nat} (h : i < 63) : ctF l aK aV (200 + i) = aV i := by
  unfold ctF
  rw [if_neg (by omega), if_neg (by omega), Nat.add_sub_cancel_left]
theorem hK_start {s : State} {b : Nat} (hts : ∀ w ∈ lw_tbl, w.before #[Value.ref b] s = true) (aK aV : Nat → Nat) : ∃ (D : va_G) (l : List Nat), va_K D vwCl (TY (ctF l aK aV)) s := by
  have hn := nwOK_start hts
  obtain ⟨c0, i0, h0⟩ := u_known (C := RX0) (T := TX0) (N := 5) (n := 5) hts (fun w h => (guX0 w h).1) (hts _ mw_261)
  obtain ⟨c1, i1, h1⟩ := u_known (C := RX1) (T := TX1) (N := 5) (n := 5) hts (fun w h => (guX1 w h).1) (hts _ mw_312)
  obtain ⟨c2, i2, h2⟩ := u_known (C := RX2) (T := TX2) (N := 18) (n := 18) hts (fun w h => (guX2 w h).1) (hts _ mw_142)
  obtain ⟨c3, i3, h3⟩ := u_known (C := RX3) (T := TX3) (N := 14) (n := 14) hts (fun w h => (guX3 w h).1) (hts _ mw_305)
  obtain ⟨c4, i4, h4⟩ := u_known (C := RX4) (T := TX4) (N := 10) (n := 10) hts (fun w h => (guX4 w h).1) (hts _ mw_74)
  obtain ⟨c5, i5, h5⟩ := u_known (C := RX5) (T := TX5) (N := 2) (n := 2) hts (fun w h => (guX5 w h).1) (hts _ mw_125)
  obtain ⟨c6, i6, h6⟩ := u_known (C := RX6) (T := TX6) (N := 3) (n := 3) hts (fun w h => (guX6 w h).1) (hts _ mw_56)
  obtain ⟨c7, i7, h7⟩ := u_known (C := RX7) (T := TX7) (N := 2) (n := 2) hts (fun w h => (guX7 w h).1) (hts _ mw_218)
  obtain ⟨c8, i8, h8⟩ := u_known (C := RX8) (T := TX8) (N := 6) (n := 6) hts (fun w h => (guX8 w h).1) (hts _ mw_236)
  obtain ⟨c9, i9, h9⟩ := u_known (C := RX9) (T := TX9) (N := 2) (n := 2) hts (fun w h => (guX9 w h).1) (hts _ mw_37)
  obtain ⟨c10, i10, h10⟩ := u_known (C := RX10) (T := TX10) (N := 5) (n := 5) hts (fun w h => (guX10 w h).1) (hts _ mw_283)
  obtain ⟨c11, i11, h11⟩ := u_known (C := RX11) (T := TX11) (N := 14) (n := 14) hts (fun w h => (guX11 w h).1) (hts _ mw_29)
  obtain ⟨c12, i12, h12⟩ := u_known (C := RX12) (T := TX12) (N := 7) (n := 7) hts (fun w h => (guX12 w h).1) (hts _ mw_1969)
  obtain ⟨c13, i13, h13⟩ := u_known (C := RX13) (T := TX13) (N := 6) (n := 6) hts (fun w h => (guX13 w h).1) (hts _ mw_1835)
  obtain ⟨c14, i14, h14⟩ := u_known (C := RX14) (T := TX14) (N := 5) (n := 5) hts (fun w h => (guX14 w h).1) (hts _ mw_2041)
  obtain ⟨c15, i15, h15⟩ := u_known (C := RX15) (T := TX15) (N := 7) (n := 7) hts (fun w h => (guX15 w h).1) (hts _ mw_1928)
  obtain ⟨c16, i16, h16⟩ := u_known (C := RX16) (T := TX16) (N := 78) (n := 78) hts (fun w h => (guX16 w h).1) (hts _ mw_1528)
  obtain ⟨a0, b0, e0⟩ := ar_prim (hts _ mw_54)
  obtain ⟨a1, b1, e1⟩ := ar_prim (hts _ mw_72)
  obtain ⟨a2, b2, e2⟩ := ar_prim (hts _ mw_123)
  obtain ⟨a3, b3, e3⟩ := ar_prim (hts _ mw_216)
  obtain ⟨a4, b4, e4⟩ := ar_obj hn.2.2.1
  obtain ⟨a5, b5, e5⟩ := ar_obj hn.2.2.2.1
  obtain ⟨a6, b6, e6⟩ := ar_obj hn.2.2.2.2
  refine ⟨(fun k => [c0, c1, c2, c3, c4, c5, c6, c7, c8, c9, c10, c11, c12, c13, c14, c15, c16].getD k 0, fun k => [i0, i1, i2, i3, i4, i5, i6, i7, i8, i9, i10, i11, i12, i13, i14, i15, i16].getD k (fun _ => 0)), [a0, a1, a2, a3, a4, a5, a6], fun k q hq => ?_, fun k q hq => ?_⟩
  · match k, hq with
    | 0, hq => cases hq; exact h0
    | 1, hq => cases hq; exact h1
    | 2, hq => cases hq; exact h2
    | 3, hq => cases hq; exact h3
    | 4, hq => cases hq; exact h4
    | 5, hq => cases hq; exact h5
    | 6, hq => cases hq; exact h6
    | 7, hq => cases hq; exact h7
    | 8, hq => cases hq; exact h8
    | 9, hq => cases hq; exact h9
    | 10, hq => cases hq; exact h10
    | 11, hq => cases hq; exact h11
    | 12, hq => cases hq; exact h12
    | 13, hq => cases hq; exact h13
    | 14, hq => cases hq; exact h14
    | 15, hq => cases hq; exact h15
    | 16, hq => cases hq; exact h16
    | k + 17, hq => simp [vwCl] at hq
  · match k, hq with
    | 0, hq => cases hq; exact ⟨b0, e0⟩
    | 1, hq => cases hq; exact ⟨b1, e1⟩
    | 2, hq => cases hq; exact ⟨b2, e2⟩
    | 3, hq => cases hq; exact ⟨b3, e3⟩
    | 4, hq => cases hq; exact ⟨b4, e4⟩
    | 5, hq => cases hq; exact ⟨b5, e5⟩
    | 6, hq => cases hq; exact ⟨b6, e6⟩
    | k + 7, hq => simp at hq
/-! the String constants: where each one's facts lie -/
def nFlat : List Cond := flatC (.and given_1 narrow_1)
def sP : List Nat := [75, 82, 89, 98, 104, 111, 118, 125, 132, 140, 149, 156, 163, 171, 178, 186, 199, 207, 218, 225, 231, 239, 244, 249, 259, 266, 274, 282, 290, 298, 307, 312, 317, 322, 327, 335, 340, 345, 350, 355, 360, 365, 371, 377, 382, 387, 392, 397, 403, 408, 414, 419, 425, 435, 444, 456, 464, 472, 481, 489, 498, 512, 520]
def sBy : List (List Int32) := [[110, 111, 116], [108, 101, 110], [101, 116, 104, 101, 114], [105, 112], [105, 112, 54], [97, 114, 112], [116, 99, 112], [117, 100, 112], [105, 99, 109, 112], [112, 114, 111, 116, 111], [115, 114, 99], [100, 115, 116], [104, 111, 115, 116], [110, 101, 116], [112, 111, 114, 116], [112, 111, 114, 116, 114, 97, 110, 103, 101], [108, 101, 115, 115], [103, 114, 101, 97, 116, 101, 114], [97, 110, 100], [111, 114], [110, 111, 116], [40], [41], [101, 116, 104, 101, 114], [105, 112], [105, 112, 54], [97, 114, 112], [116, 99, 112], [117, 100, 112], [105, 99, 109, 112], [91], [45], [123], [125], [108, 101, 110], [58], [93], [42], [47], [37], [38], [60, 60], [62, 62], [43], [124], [94], [61], [33, 61], [60], [60, 61], [62], [62, 61], [112, 114, 111, 116, 111], [108, 101, 115, 115], [103, 114, 101, 97, 116, 101, 114], [115, 114, 99], [100, 115, 116], [104, 111, 115, 116], [110, 101, 116], [112, 111, 114, 116], [112, 111, 114, 116, 114, 97, 110, 103, 101], [97, 110, 100], [111, 114]]
def sR : List Nat := [521, 578, 603, 604, 605, 606, 607, 608, 609, 718, 740, 741, 742, 763, 769, 786, 791, 792, 798, 804, 1958, 2002, 2003, 2012, 2013, 2014, 2015, 2016, 2017, 2018, 2023, 2040, 2067, 2072, 2073, 2095, 2097, 2102, 2103, 2104, 2105, 2106, 2107, 2112, 2113, 2114, 2115, 2116, 2117, 2118, 2119, 2120, 2155, 2164, 2165, 2166, 2167, 2168, 2169, 2170, 2171, 2206, 2207]
abbrev sTm (i : Nat) : Term := .string (sOwn.getD i "") (sIdx.getD i 0)
theorem sP_ex : ∀ i, i < 63 → nFlat[sP.getD i 0]? = some (.exactly (sTm i) "java/lang/String") := by decide +kernel
theorem sP_co : ∀ i, i < 63 → nFlat[sP.getD i 0 + 1]? = some (.eq (.field (sTm i) "java/lang/String" "coder" "B") (.int 0)) := by decide +kernel
theorem sP_ar : ∀ i, i < 63 → nFlat[sP.getD i 0 + 2]? = some (.arrayOf (.field (sTm i) "java/lang/String" "value" "[B") .byte) := by decide +kernel
theorem sP_le : ∀ i, i < 63 → nFlat[sP.getD i 0 + 3]? = some (.eq (.length (.field (sTm i) "java/lang/String" "value" "[B")) (.int (Int32.ofNat (sLen.getD i 0)))) := by decide +kernel
theorem sP_el : ∀ i, i < 63 → ∀ j, j < sLen.getD i 0 → nFlat[sP.getD i 0 + 4 + j]? = some (.eq (.elem (.field (sTm i) "java/lang/String" "value" "[B") (.int (Int32.ofNat j))) (.int ((sBy.getD i []).getD j 0))) := by decide +kernel
theorem sR_ok : ∀ i, i < 63 → tables_1[sR.getD i 0]? = some (.stringRef (sOwn.getD i "") (sIdx.getD i 0) (sTx.getD i "")) := by decide +kernel
theorem sL_ok : ∀ i, i < 63 → sLen.getD i 0 < 2 ^ 31 := by decide +kernel
theorem str_start {s : State} {b : Nat} {A : Nat → Prop} (hts : ∀ w ∈ lw_tbl, w.before #[Value.ref b] s = true) (hfl : ∀ w ∈ nFlat, w.before #[Value.ref b] s = true) (hA : ∀ a : Nat, a < s.heap.size → ¬ A a) :
    ∃ aK aV : Nat → Nat, ∀ i, i < 63 → vk_R (sOwn.getD i "") (sIdx.getD i 0) (sTx.getD i "") (aK i) s ∧ va_O "java/lang/String" (aK i) A s s.heap ∧ va_OF "java/lang/String" "coder" "B" (.int 0) (aK i) A s s.heap ∧ va_OF "java/lang/String" "value" "[B" (.ref (aV i)) (aK i) A s s.heap ∧ ∃ f : Nat → Int32, va_T .byte (aV i) (sLen.getD i 0) (fun j => .int (f j)) A s s.heap := by
  have h0 : ∀ i : Nat, ∃ q : Nat × Nat, i < 63 → vk_R (sOwn.getD i "") (sIdx.getD i 0) (sTx.getD i "") q.1 s ∧ va_O "java/lang/String" q.1 A s s.heap ∧ va_OF "java/lang/String" "coder" "B" (.int 0) q.1 A s s.heap ∧ va_OF "java/lang/String" "value" "[B" (.ref q.2) q.1 A s s.heap ∧ ∃ f : Nat → Int32, va_T .byte q.2 (sLen.getD i 0) (fun j => .int (f j)) A s s.heap := by
    intro i
    by_cases hi : i < 63
    · have m1 := hfl _ (List.mem_of_getElem? (sP_ex i hi))
      have m2 := hfl _ (List.mem_of_getElem? (sP_co i hi))
      have m3 := hfl _ (List.mem_of_getElem? (sP_ar i hi))
      have m4 := hfl _ (List.mem_of_getElem? (sP_le i hi))
      have m5 := fun j hj => hfl _ (List.mem_of_getElem? (sP_el i hi j hj))
      have m6 := hts _ (List.mem_append_right _ (List.mem_of_getElem? (sR_ok i hi)))
      obtain ⟨a, c, cA, kA, q1, -⟩ := Cond.exactly_spec (args := #[Value.ref b]) (first := s) (o := none) (s := s) (idx := []) (t := sTm i) (cls := "java/lang/String") m1
      obtain ⟨t, ht, hT⟩ := va_Tof (f := fun j => .int ((sBy.getD i []).getD j 0)) (A := A) (sL_ok i hi) m3 (va_eqt m4) (fun j hj => va_eqt (m5 j hj)) hA
      exact ⟨(a, t), fun _ => ⟨vk_R.of m6 q1, va_Oof m1 q1 hA, vk_OFof q1 (va_eqt m2) hA, vk_OFof q1 ht hA, _, hT⟩⟩
    · exact ⟨(0, 0), fun h => absurd h hi⟩
  obtain ⟨ad, had⟩ := Classical.axiomOfChoice h0
  exact ⟨fun i => (ad i).1, fun i => (ad i).2, fun i hi => had i hi⟩
theorem tab_start {n : String} {s : State} {b : Nat} {A : Nat → Prop} (hl : (Cond.laysStatic "FilterForge$Translator" n "[I").before #[Value.ref b] s = true) (hi : (Cond.initialized "FilterForge$Translator").before #[Value.ref b] s = true) (har : (Cond.arrayOf (.static "FilterForge$Translator" n "[I") .int).before #[Value.ref b] s = true) (hle : (Cond.eq (.length (.static "FilterForge$Translator" n "[I")) (.int 13)).before #[Value.ref b] s = true)
    {f : List Int32} (hel : ∀ j : Nat, j < 13 → (Cond.eq (.elem (.static "FilterForge$Translator" n "[I") (.int (Int32.ofNat j))) (.int (f.getD j 0))).before #[Value.ref b] s = true) (hA : ∀ a : Nat, a < s.heap.size → ¬ A a) : ZT n A s s.heap := by
  obtain ⟨t, ht, hT⟩ := va_Tof (N := 13) (f := fun j => .int (f.getD j 0)) (A := A) (by decide) har (va_eqt hle) (fun j hj => va_eqt (hel j hj)) hA
  exact ⟨t, fun j => f.getD j 0, va_Zof hl hi ht hA, hT⟩
theorem tH_el : ∀ j, j < 13 → nFlat[10 + 2 + j]? = some (.eq (.elem (.static "FilterForge$Translator" "HIGHS" "[I") (.int (Int32.ofNat j))) (.int (([0, 32, 1, 1, 0, 0, 0, 0, 0, 1, 0, 0, 32] : List Int32).getD j 0))) := by decide +kernel
theorem tM_el : ∀ j, j < 13 → nFlat[26 + 2 + j]? = some (.eq (.elem (.static "FilterForge$Translator" "MIDDLES" "[I") (.int (Int32.ofNat j))) (.int (([0, 0, 0, 5, 6, 7, 1, 5, 0, 7, 4, 0, 5] : List Int32).getD j 0))) := by decide +kernel
theorem tH_ar : nFlat[10]? = some (.arrayOf (.static "FilterForge$Translator" "HIGHS" "[I") .int) := by decide +kernel
theorem tH_le : nFlat[10 + 1]? = some (.eq (.length (.static "FilterForge$Translator" "HIGHS" "[I")) (.int 13)) := by decide +kernel
theorem tM_ar : nFlat[26]? = some (.arrayOf (.static "FilterForge$Translator" "MIDDLES" "[I") .int) := by decide +kernel
theorem tM_le : nFlat[26 + 1]? = some (.eq (.length (.static "FilterForge$Translator" "MIDDLES" "[I")) (.int 13)) := by decide +kernel
theorem tC_eq : nFlat[4]? = some (.eq (.static "java/lang/String" "COMPACT_STRINGS" "Z") (.int 1)) := by decide +kernel
theorem tF_ref : nFlat[5]? = some (.isRef (.static "jdk/internal/util/Preconditions" "SIOOBE_FORMATTER" "Ljava/util/function/BiFunction;")) := by decide +kernel
theorem tU_ref : nFlat[41]? = some (.isRef (.static Bundle.tN "UNASSIGNED_STACK" Bundle.steD)) := by decide +kernel
theorem tS_ref : nFlat[42]? = some (.isRef (.static Bundle.tN "SUPPRESSED_SENTINEL" Bundle.listD)) := by decide +kernel
theorem fm_start {s : State} {b : Nat} {A : Nat → Prop} {C n d : String} (h : va_Zq C n d A s s.heap) : ∃ v, va_Z C n d (va_rf v) A s s.heap := by
  rcases h with h | ⟨t, h⟩
  · exact ⟨none, h⟩
  · exact ⟨some t, h⟩
theorem zs_start {s : State} {b : Nat} {A : Nat → Prop} {l : List Nat} {aK aV : Nat → Nat} (hts : ∀ w ∈ lw_tbl, w.before #[Value.ref b] s = true) (hfl : ∀ w ∈ nFlat, w.before #[Value.ref b] s = true) (hA : ∀ a : Nat, a < s.heap.size → ¬ A a)
    (hk : ∀ i, i < 63 → vk_R (sOwn.getD i "") (sIdx.getD i 0) (sTx.getD i "") (aK i) s ∧ va_O "java/lang/String" (aK i) A s s.heap ∧ va_OF "java/lang/String" "coder" "B" (.int 0) (aK i) A s s.heap ∧ va_OF "java/lang/String" "value" "[B" (.ref (aV i)) (aK i) A s s.heap ∧ ∃ f : Nat → Int32, va_T .byte (aV i) (sLen.getD i 0) (fun j => .int (f j)) A s s.heap) : ZS (ctF l aK aV) A s s.heap ∧ SK (ctF l aK aV) s := by
  have hm : ∀ {k : Nat} {w : Cond}, nFlat[k]? = some w → w.before #[Value.ref b] s = true := fun h => hfl _ (List.mem_of_getElem? h)
  refine ⟨⟨⟨vx_Zqof (hts _ mw_1861) (hts _ mw_18) (hm tU_ref) hA, vx_Zqof (hts _ mw_1863) (hts _ mw_18) (hm tS_ref) hA⟩, tab_start (hts _ mw_1352) (hts _ mw_10) (hm tH_ar) (hm tH_le) (fun j hj => hm (tH_el j hj)) hA, tab_start (hts _ mw_1354) (hts _ mw_10) (hm tM_ar) (hm tM_le) (fun j hj => hm (tM_el j hj)) hA, va_Zof (hts _ mw_535) (hts _ mw_14) (va_eqi (hm tC_eq)) hA, fm_start (b := b) (va_Zqof (hts _ mw_551) (hts _ mw_16) (hm tF_ref) hA), fun i hi => ?_⟩, fun i hi => ?_⟩
  · obtain ⟨h1, h2, h3, h4, h5⟩ := hk i hi
    unfold ZC
    rw [ctF_K hi, ctF_V hi]
    exact ⟨h2, h3, h4, h5⟩
  · rw [ctF_K hi]
    exact (hk i hi).1
