/-! the start: the tables' words, the classes, the array classes -/
theorem ar_prim {s : State} {args : Array Value} {ty : FieldType} (h : (Cond.arrayClass ty).before args s = true) : ∃ cA : ClassId, ArrOfT s cA ty ∧ s.vm.findClass ("[" ++ ty.toString) = some cA := by
  obtain ⟨cA, kA, comp, h1, h2, h3⟩ := Cond.arrayClass_spec h
  exact ⟨cA, fun n z => ⟨fun k h => (by cases h), kA, h2, comp, h3⟩, h1⟩
theorem ar_obj {s : State} {C : String} (h : va_AO C s) : ∃ cA : ClassId, ArrOfT s cA (.object C) ∧ va_RA s cA (.object C) := by
  obtain ⟨comp, c, k, h1, h2, h3, h4, h5⟩ := Cond.arrayOver_spec h
  exact ⟨c, fun n z => ⟨fun k h => (by cases h), k, h3, comp, h4⟩, k, comp, h3, h4, h1, h5⟩
def soW (w : Cond) : Bool := match w with
  | .stringRef own _ _ => decide (own = RX8 ∨ own = RX16)
  | _ => true
theorem so_all : ∀ w ∈ tables_1, soW w = true := by decide +kernel
theorem nwOK_start {s : State} {b : Nat} (hts : ∀ w ∈ lw_tbl, w.before #[Value.ref b] s = true) : nwOK s := by
  have hcl : ∀ own : String, own = RX8 ∨ own = RX16 → ∃ c : ClassId, s.vm.findClass own = some c := fun own ho => by
    rcases ho with rfl | rfl
    · obtain ⟨c1, k1, h1, -⟩ := Cond.instantiable_spec (hts _ mw_236)
      exact ⟨c1, h1⟩
    · obtain ⟨c1, k1, h1, -⟩ := Cond.instantiable_spec (hts _ mw_1528)
      exact ⟨c1, h1⟩
  refine ⟨fun w hm ho => okW_at (State.WarmedH.refl s) ho (hts w hm), fun own k tx hm => ?_, va_AO.of (hts _ mw_311), va_AO.of (hts _ mw_1534), va_AO.of (hts _ mw_1536)⟩
  obtain ⟨c, hc⟩ := hcl own (by simpa [soW] using so_all _ hm)
  have h1 := hts _ (List.mem_append_right _ hm)
  obtain ⟨k9, cf, i9, a9, hk9, hcf9, hcp9, -, hr9, hev9⟩ := Cond.stringRef_spec hc h1
  exact ⟨a9, vk_R.of h1 hev9⟩
theorem hK_start {s : State} {b : Nat} (hts : ∀ w ∈ lw_tbl, w.before #[Value.ref b] s = true) : ∃ (D : va_G) (ct : Nat → ClassId), va_K D vwCl (TY ct) s := by
  have hn := nwOK_start hts
  obtain ⟨c0, i0, h0⟩ := u_known (C := RX0) (T := TX0) (N := 5) (n := 5) hts (fun w h => (guX0 w h).1) (hts _ mw_261)
  obtain ⟨c1, i1, h1⟩ := u_known (C := RX1) (T := TX1) (N := 5) (n := 5) hts (fun w h => (guX1 w h).1) (hts _ mw_312)
  obtain ⟨c2, i2, h2⟩ := u_known (C := RX2) (T := TX2) (N := 18) (n := 18) hts (fun w h => (guX2 w h).1) (hts _ mw_142)
  obtain ⟨c3, i3, h3⟩ := u_known (C := RX3) (T := TX3) (N := 14) (n := 14) hts (fun w h => (guX3 w h).1) (hts _ mw_305)
  obtain ⟨c4, i4, h4⟩ := u_known (C := RX4) (T := TX4) (N := 10) (n := 10) hts (fun w h => (guX4 w h).1) (hts _ mw_74)
  obtain ⟨c5, i5, h5⟩ := u_known (C := RX5) (T := TX5) (N := 2) (n := 2) hts (fun w h => (guX5 w h).1) (hts _ mw_125)
  obtain ⟨c6, i6, h6⟩ := u_known (C := RX6) (T := TX6) (N := 3) (n := 3) hts (fun w h => (guX6 w h).1) (hts _ mw_56)
  obtain ⟨c7, i7, h7⟩ := u_known (C := RX7) (T := TX7) (N := 2) (n := 2) hts (fun w h => (guX7 w h).1) (hts _ mw_218)
  obtain ⟨c8, i8, h8⟩ := u_known (C := RX8) (T := TX8) (N := 6) (n := 6) hts (fun w h => (guX8 w h).1) (hts _ mw_236)
  obtain ⟨c9, i9, h9⟩ := u_known (C := RX9) (T := TX9) (N := 2) (n := 2) hts (fun w h => (guX9 w h).1) (hts _ mw_37)
  obtain ⟨c10, i10, h10⟩ := u_known (C := RX10) (T := TX10) (N := 5) (n := 5) hts (fun w h => (guX10 w h).1) (hts _ mw_283)
  obtain ⟨c11, i11, h11⟩ := u_known (C := RX11) (T := TX11) (N := 14) (n := 14) hts (fun w h => (guX11 w h).1) (hts _ mw_29)
  obtain ⟨c12, i12, h12⟩ := u_known (C := RX12) (T := TX12) (N := 7) (n := 7) hts (fun w h => (guX12 w h).1) (hts _ mw_1969)
  obtain ⟨c13, i13, h13⟩ := u_known (C := RX13) (T := TX13) (N := 6) (n := 6) hts (fun w h => (guX13 w h).1) (hts _ mw_1835)
  obtain ⟨c14, i14, h14⟩ := u_known (C := RX14) (T := TX14) (N := 5) (n := 5) hts (fun w h => (guX14 w h).1) (hts _ mw_2041)
  obtain ⟨c15, i15, h15⟩ := u_known (C := RX15) (T := TX15) (N := 7) (n := 7) hts (fun w h => (guX15 w h).1) (hts _ mw_1928)
  obtain ⟨c16, i16, h16⟩ := u_known (C := RX16) (T := TX16) (N := 78) (n := 78) hts (fun w h => (guX16 w h).1) (hts _ mw_1528)
  obtain ⟨a0, b0, e0⟩ := ar_prim (hts _ mw_54)
  obtain ⟨a1, b1, e1⟩ := ar_prim (hts _ mw_72)
  obtain ⟨a2, b2, e2⟩ := ar_prim (hts _ mw_123)
  obtain ⟨a3, b3, e3⟩ := ar_prim (hts _ mw_216)
  obtain ⟨a4, b4, e4⟩ := ar_obj hn.2.2.1
  obtain ⟨a5, b5, e5⟩ := ar_obj hn.2.2.2.1
  obtain ⟨a6, b6, e6⟩ := ar_obj hn.2.2.2.2
  refine ⟨(fun k => [c0, c1, c2, c3, c4, c5, c6, c7, c8, c9, c10, c11, c12, c13, c14, c15, c16].getD k 0, fun k => [i0, i1, i2, i3, i4, i5, i6, i7, i8, i9, i10, i11, i12, i13, i14, i15, i16].getD k (fun _ => 0)), fun k => [a0, a1, a2, a3, a4, a5, a6].getD k 0, fun k q hq => ?_, fun k q hq => ?_⟩
  · match k, hq with
    | 0, hq => cases hq; exact h0
    | 1, hq => cases hq; exact h1
    | 2, hq => cases hq; exact h2
    | 3, hq => cases hq; exact h3
    | 4, hq => cases hq; exact h4
    | 5, hq => cases hq; exact h5
    | 6, hq => cases hq; exact h6
    | 7, hq => cases hq; exact h7
    | 8, hq => cases hq; exact h8
    | 9, hq => cases hq; exact h9
    | 10, hq => cases hq; exact h10
    | 11, hq => cases hq; exact h11
    | 12, hq => cases hq; exact h12
    | 13, hq => cases hq; exact h13
    | 14, hq => cases hq; exact h14
    | 15, hq => cases hq; exact h15
    | 16, hq => cases hq; exact h16
    | k + 17, hq => simp [vwCl] at hq
  · match k, hq with
    | 0, hq => cases hq; exact ⟨b0, e0⟩
    | 1, hq => cases hq; exact ⟨b1, e1⟩
    | 2, hq => cases hq; exact ⟨b2, e2⟩
    | 3, hq => cases hq; exact ⟨b3, e3⟩
    | 4, hq => cases hq; exact ⟨b4, e4⟩
    | 5, hq => cases hq; exact ⟨b5, e5⟩
    | 6, hq => cases hq; exact ⟨b6, e6⟩
    | k + 7, hq => simp at hq
theorem lg_cmp_self (x : Int64) : lg_cmp x x = 0 := by
  unfold lg_cmp
  rw [if_neg (by rw [gt_iff_lt, Int64.lt_iff_toInt_lt]; omega), if_pos rfl]
theorem small_neg (L : Nat) (h : L < 6) : Int32.ofNat L - 6 < 0 := by
  match L, h with
  | 0, _ => decide
  | 1, _ => decide
  | 2, _ => decide
  | 3, _ => decide
  | 4, _ => decide
  | 5, _ => decide
section RUNW
variable {p : Program} {l : Launch} {e : Env} {R : Room} {s : State} {m : MethodId} {args : Array Value} {below : List Frame} {meth : Method} {c : Code} {H : Heap} {locs : List Loc} {cells slots : Nat} {A : Nat → Prop}
variable {D : va_G} {ct : Nat → ClassId} {wc : va_W} {own : String} {index nL maxL mc ms fr lo n pc : Nat} {y : MethodName} {bytes cc : ByteArray} {ret : Option FieldType} {hh : List (Nat × Nat × Nat × Nat)} {b : Addr} {As rest : List Value} {ls : Array Slot} {Qc : Array Value → State → Outcome → State → Prop} {free : Addr → Prop}
theorem rn_VW (hM : Met l y [Cond.codeWith y bytes maxL ret hh] ({ frames := fr, cells := mc, slots := ms, locals := lo }) (va_Pc (Value.ref b :: As) (PreZ D ct wc H.size)) Qc mc ms free)
    (hcode : Cond.codeWith y bytes maxL ret hh ∈ lw_tbl) (hini : Cond.initialized y.cls ∈ lw_tbl) (hl : Cond.methodLink own index y ∈ lw_tbl) (hd : okMH y n) (hR : fr + 1 ≤ R.frames ∧ 8 + (maxL + 11) + lo ≤ R.locals)
    (hx : p.tables.exec = Jvm.exec) (hb : c.code = cc) (hml : c.maxLocals = nL) (hown : s.vm.findClass own = some m.cls) (hn : nwOK s) (hK : va_K D vwCl (TY ct) s) (hPc : va_P D vwCl wc H) (hDc : va_D A wc) (hZ : ZQ A s s.heap) (hS : va_S A s.heap H locs) (hF : ∀ q, va_A wc H.size q → A q)
    (hinst : Cond.instanceMethod y ∈ lw_tbl) (hsel : Cond.selects y.cls y y ∈ lw_tbl) {ci q0 : Nat} {q : vw_C} {fs : List Value} (hc : vwCl[ci]? = some q) (hq : q.1 = y.cls) (he : wc[q0]? = some (b, .inr (ci, fs)))
    (hln : As.length = n) (hsize : ls.size = nL) (hW : (rest.map fun v => v.category).sum ≤ 8) (hdg : decode cc pc = .ok (.invokevirtual index, 3)) (hf : cells + mc ≤ R.cells ∧ slots + ms ≤ R.slots) :
    va_Run p l e R s m args below meth c H locs cells slots mc ms (F0 m pc ls (As.reverse ++ .ref b :: rest)) rest (Qc (Value.ref b :: As).toArray) free := by
  refine vx_runVW (C := y.cls) (hh := hh) (fix0 hx hb hml hown) hM ⟨⟨rfl, rfl, hR.1, hR.2, fun w hw a' U hW => ?_, List.mem_cons_self⟩, hn.get hcode rfl, hn.get hini rfl, ⟨hd.1, hd.2.1⟩, fun sig h => ?_, hn.get hl rfl, hn.get hinst rfl, hn.get hsel rfl⟩ ⟨blindZ, ?_, preZ_of hPc hK hDc hn hZ hS hF⟩ rfl hln hsize rfl (lv_room hW) hdg hf
  · have hw' : w = Cond.codeWith y bytes maxL ret hh := by simpa using hw
    subst hw'
    exact okW_at hW rfl (hn.get (args := args) hcode rfl)
  · have h2 := hd.2.2
    rw [h] at h2
    exact (Option.some.inj h2).symm
  · have h := va_recv hK hPc hc he
    rw [hq] at h
    exact h
end RUNW
