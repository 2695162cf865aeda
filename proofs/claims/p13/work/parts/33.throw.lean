/-! how much is made: what the heap itself tells -/
def newS (n : Nat) (H : Heap) : Nat := ((H.toList.drop n).map (·.slots.size)).sum
def SZ (H0 H : Heap) : Prop := H0.size ≤ H.size ∧ ∀ (a : Nat) (c : Cell), H0[a]? = some c → ∃ c' : Cell, H[a]? = some c' ∧ c'.slots.size = c.slots.size
def Acct (H0 H : Heap) (k n : Nat) : Prop := H.size ≤ H0.size + k ∧ newS H0.size H ≤ n ∧ SZ H0 H
theorem SZ.trans {H0 H H1 : Heap} (a : SZ H0 H) (b : SZ H H1) : SZ H0 H1 := ⟨Nat.le_trans a.1 b.1, fun q c h => by
  obtain ⟨c1, h1, e1⟩ := a.2 q c h
  obtain ⟨c2, h2, e2⟩ := b.2 q c1 h1
  exact ⟨c2, h2, e2.trans e1⟩⟩
theorem newS_app {n : Nat} {H H1 : Heap} (hn : n ≤ H.size) (h : SZ H H1) : newS n H1 = newS n H + newS H.size H1 := by
  unfold newS
  have e1 : (H1.toList.drop n) = (H1.toList.drop n).take (H.size - n) ++ H1.toList.drop H.size := by
    have := (List.take_append_drop (H.size - n) (H1.toList.drop n)).symm
    rw [List.drop_drop, show n + (H.size - n) = H.size by omega] at this
    exact this
  rw [e1, List.map_append, List.sum_append]
  congr 1
  congr 1
  apply List.ext_getElem?
  intro i
  rw [List.getElem?_map, List.getElem?_map, List.getElem?_take]
  by_cases hi : i < H.size - n
  · rw [if_pos hi, List.getElem?_drop, List.getElem?_drop, Array.getElem?_toList, Array.getElem?_toList]
    have hlt : n + i < H.size := by omega
    obtain ⟨c', h1, e⟩ := h.2 (n + i) H[n + i] (Array.getElem?_eq_getElem hlt)
    rw [h1, Array.getElem?_eq_getElem hlt]
    simp [e]
  · rw [if_neg hi, List.getElem?_drop, Array.getElem?_toList, Array.getElem?_eq_none (by omega)]
theorem Acct.trans {H0 H H1 : Heap} {k n k' n' : Nat} (a : Acct H0 H k n) (b : Acct H H1 k' n') : Acct H0 H1 (k + k') (n + n') := by
  refine ⟨by have := a.1; have := b.1; omega, ?_, a.2.2.trans b.2.2⟩
  rw [newS_app a.2.2.1 b.2.2]
  exact Nat.add_le_add a.2.1 b.2.1
theorem Acct.mono {H0 H : Heap} {k n k' n' : Nat} (a : Acct H0 H k n) (h1 : k ≤ k') (h2 : n ≤ n') : Acct H0 H k' n' := ⟨by have := a.1; omega, Nat.le_trans a.2.1 h2, a.2.2⟩
section ACCT
variable {p : Program} {l : Launch} {e : Env} {R : Room} {s : State} {m : MethodId} {args : Array Value} {below : List Frame} {meth : Method} {c : Code} {H H0 : Heap} {locs : List Loc} {cells slots : Nat} {Q : State → Prop} {A : Nat → Prop}
variable {D : va_G} {ct : Nat → ClassId} {X ws wc cx wr pl : va_W} {own : String} {index nL maxL mc ms fr lo n k1 n1 pc : Nat} {y : MethodName} {bytes cc : ByteArray} {ret : Option FieldType} {b : Addr} {As rest st0 : List Value} {ls : Array Slot} {g : JFrame}
theorem W.facts (kk : Acct s.heap H cells slots → W p l e R s m args below meth c H locs cells slots Q g) : W p l e R s m args below meth c H locs cells slots Q g := fun T hT X => by
  have h1 : T.heap.size ≤ s.heap.size + cells := X.same.2.2.1
  have h2 : newS s.heap.size T.heap ≤ slots := X.same.2.2.2.2.1
  have h0 : s.heap.size ≤ T.heap.size := X.same.2.1
  refine kk ⟨by rw [← hT]; exact h1, by rw [← hT]; exact h2, by rw [← hT]; exact h0, fun a cl ha => ?_⟩ T hT X
  obtain ⟨c', e1, -, e3, -⟩ := X.same.2.2.2.2.2 a cl ha
  exact ⟨c', by rw [← hT]; exact e1, e3⟩
theorem W.shrink {k n : Nat} (h : Acct s.heap H k n) (kk : W p l e R s m args below meth c H locs k n Q g) : W p l e R s m args below meth c H locs cells slots Q g := fun T hT X =>
  kk T hT { X with same := ⟨X.same.1, X.same.2.1, by show T.heap.size ≤ _; rw [hT]; exact h.1, X.same.2.2.2.1, by show newS s.heap.size T.heap ≤ _; rw [hT]; exact h.2.1, X.same.2.2.2.2.2⟩ }
def qa_i {S : Type} (post : Int32 → S → Prop) (B : S → State → Prop) (k n : S → Nat) (A : Nat → Prop) : Array Value → State → Outcome → State → Prop := fun _ st oc t => (∃ (r : Int32) (u : S), oc = .returned (some (.int r)) ∧ post r u ∧ B u t ∧ Acct st.heap t.heap (k u) (n u)) ∧ va_F A st t
def qa_v {S : Type} (post : S → Prop) (B : S → State → Prop) (k n : S → Nat) (A : Nat → Prop) : Array Value → State → Outcome → State → Prop := fun _ st oc t => (∃ u : S, oc = .returned none ∧ post u ∧ B u t ∧ Acct st.heap t.heap (k u) (n u)) ∧ va_F A st t
abbrev KVA {S : Type} (l : Launch) (y : MethodName) (b : ByteArray) (nL : Nat) (ret : Option FieldType) (fr lo : Nat) (D : va_G) (ct : Nat → ClassId) (av : List Value) (wc : va_W) (mc ms : Nat) (post : S → Prop) (w1 : S → va_W) (k n : S → Nat) : Prop :=
  ∀ sz : Nat, Met l y [Cond.code y b nL ret] ({ frames := fr, cells := mc, slots := ms, locals := lo }) (va_Pc av (PreC D ct wc sz)) (qa_v post (PoC D (va_A wc sz) w1) k n (va_A wc sz)) mc ms (va_A wc sz)
abbrev KIA {S : Type} (l : Launch) (y : MethodName) (b : ByteArray) (nL : Nat) (ret : Option FieldType) (fr lo : Nat) (D : va_G) (ct : Nat → ClassId) (av : List Value) (wc : va_W) (mc ms : Nat) (post : Int32 → S → Prop) (w1 : S → va_W) (k n : S → Nat) : Prop :=
  ∀ sz : Nat, Met l y [Cond.code y b nL ret] ({ frames := fr, cells := mc, slots := ms, locals := lo }) (va_Pc av (PreC D ct wc sz)) (qa_i post (PoC D (va_A wc sz) w1) k n (va_A wc sz)) mc ms (va_A wc sz)
theorem KVAq_of {S : Type} {av : List Value} {w1 : S → va_W} {post : S → Prop} {k n : S → Nat} (hy : plainName y.cls = true) (hlen : (lg_sl av).length ≤ nL)
    (body : ∀ (p : Program) (e : Env) (s : State) (m : MethodId) (below : List Frame) (meth : Method) (c : Code) (A : Nat → Prop) (Q : State → Prop), CxB p s m meth c y bytes nL ret D ct A → (∀ q, s.heap.size ≤ q → A q) → ∀ (H : Heap) (locs : List Loc), va_S A s.heap H locs → va_P D vwCl wc H → va_D A wc → MQ below (qa_v post (PoC D A w1) k n A) av.toArray s mc ms A = Q → ∀ ls : Array Slot, lv_has ls nL (lv_args 0 av) →
      W p l e ({ frames := fr, cells := mc, slots := ms, locals := lo }) s m av.toArray below meth c H locs 0 0 Q (F0 m 0 ls [])) :
    KVA l y bytes nL ret fr lo D ct av wc mc ms post w1 k n := fun sz => K_of (Qf := fun A => qa_v post (PoC D A w1) k n A) sz hy hlen fun p e s m below meth c A h1 h2 h3 h4 h5 ls h6 => body p e s m below meth c A _ h1 h2 _ _ h3 h4 h5 rfl ls h6
theorem KIAq_of {S : Type} {av : List Value} {w1 : S → va_W} {post : Int32 → S → Prop} {k n : S → Nat} (hy : plainName y.cls = true) (hlen : (lg_sl av).length ≤ nL)
    (body : ∀ (p : Program) (e : Env) (s : State) (m : MethodId) (below : List Frame) (meth : Method) (c : Code) (A : Nat → Prop) (Q : State → Prop), CxB p s m meth c y bytes nL ret D ct A → (∀ q, s.heap.size ≤ q → A q) → ∀ (H : Heap) (locs : List Loc), va_S A s.heap H locs → va_P D vwCl wc H → va_D A wc → MQ below (qa_i post (PoC D A w1) k n A) av.toArray s mc ms A = Q → ∀ ls : Array Slot, lv_has ls nL (lv_args 0 av) →
      W p l e ({ frames := fr, cells := mc, slots := ms, locals := lo }) s m av.toArray below meth c H locs 0 0 Q (F0 m 0 ls [])) :
    KIA l y bytes nL ret fr lo D ct av wc mc ms post w1 k n := fun sz => K_of (Qf := fun A => qa_i post (PoC D A w1) k n A) sz hy hlen fun p e s m below meth c A h1 h2 h3 h4 h5 ls h6 => body p e s m below meth c A _ h1 h2 _ _ h3 h4 h5 rfl ls h6
/-- behind a call whose making is told -/
theorem ac_i {S : Type} {post : Int32 → S → Prop} {B : S → State → Prop} {k n : S → Nat} {A1 free : Nat → Prop} {a : Array Value} (hr : va_Run p l e R s m args below meth c H locs cells slots mc ms (F0 m pc ls st0) rest (qa_i post B k n A1 a) free) (hS : va_S A H0 H locs) (hA : ∀ q, q < H.size → A1 q → A q) (hf : ∀ q, free q → A q)
    (kk : ∀ (r : Int32) (u : S) (t : State) (H1 : Heap) (locs1 : List Loc), t.heap = H1 → post r u → B u t → H.size ≤ H1.size → (∀ q : Nat, q < H.size → ¬ A1 q → H1[q]? = H[q]?) → va_S A H0 H1 locs1 → W p l e R s m args below meth c H1 locs1 (cells + k u) (slots + n u) Q (F0 m (pc + 3) ls (.int r :: rest))) : W p l e R s m args below meth c H locs cells slots Q (F0 m pc ls st0) := by
  refine W.facts (fun hac => ?_)
  intro T hT X
  obtain ⟨v, st₀, t, T', L, h0, X', hL, e1, e2, ⟨⟨r, u, hv, hp, hb, hac2⟩, hz, hk⟩, st⟩ := hr T hT X
  cases hv
  rw [h0] at hz hk hac2
  obtain ⟨t2, a1, b1⟩ := W.shrink (hac.trans (by rw [e1]; exact hac2)) (kk r u t T'.heap (locs ++ L) e1.symm hp hb (by rw [e1]; exact hz) (fun q h1 h2 => by rw [e1]; exact hk q h1 h2)
    ⟨Nat.le_trans hS.1 (by rw [e1]; exact hz), fun q h1 h2 => by rw [e1, hk q (Nat.lt_of_lt_of_le h1 hS.1) (fun z => h2 (hA q (Nat.lt_of_lt_of_le h1 hS.1) z))]; exact hS.2.1 q h1 h2, fun q hq => by
      rcases List.mem_append.mp hq with h | h
      · exact hS.2.2 q h
      · exact hf _ (hL q h)⟩) T' rfl X'
  exact ⟨t2, st t2 a1, b1⟩
theorem ac_v {S : Type} {post : S → Prop} {B : S → State → Prop} {k n : S → Nat} {A1 free : Nat → Prop} {a : Array Value} (hr : va_Run p l e R s m args below meth c H locs cells slots mc ms (F0 m pc ls st0) rest (qa_v post B k n A1 a) free) (hS : va_S A H0 H locs) (hA : ∀ q, q < H.size → A1 q → A q) (hf : ∀ q, free q → A q)
    (kk : ∀ (u : S) (t : State) (H1 : Heap) (locs1 : List Loc), t.heap = H1 → post u → B u t → H.size ≤ H1.size → (∀ q : Nat, q < H.size → ¬ A1 q → H1[q]? = H[q]?) → va_S A H0 H1 locs1 → W p l e R s m args below meth c H1 locs1 (cells + k u) (slots + n u) Q (F0 m (pc + 3) ls rest)) : W p l e R s m args below meth c H locs cells slots Q (F0 m pc ls st0) := by
  refine W.facts (fun hac => ?_)
  intro T hT X
  obtain ⟨v, st₀, t, T', L, h0, X', hL, e1, e2, ⟨⟨u, hv, hp, hb, hac2⟩, hz, hk⟩, st⟩ := hr T hT X
  cases hv
  rw [h0] at hz hk hac2
  obtain ⟨t2, a1, b1⟩ := W.shrink (hac.trans (by rw [e1]; exact hac2)) (kk u t T'.heap (locs ++ L) e1.symm hp hb (by rw [e1]; exact hz) (fun q h1 h2 => by rw [e1]; exact hk q h1 h2)
    ⟨Nat.le_trans hS.1 (by rw [e1]; exact hz), fun q h1 h2 => by rw [e1, hk q (Nat.lt_of_lt_of_le h1 hS.1) (fun z => h2 (hA q (Nat.lt_of_lt_of_le h1 hS.1) z))]; exact hS.2.1 q h1 h2, fun q hq => by
      rcases List.mem_append.mp hq with h | h
      · exact hS.2.2 q h
      · exact hf _ (hL q h)⟩) T' rfl X'
  exact ⟨t2, st t2 a1, b1⟩
end ACCT
/-! exceptions: their constructors; methods that return, telling how much they made, or throw -/
section XW
variable {p : Program} {l : Launch} {e : Env} {R : Room} {s : State} {m₀ : MethodId} {args : Array Value} {below : List Frame} {meth : Method} {c : Code} {W : State} {locs : List Loc} {cells slots : Nat}
set_option maxHeartbeats 1000000 in
theorem xw_ctor0 (X : Stand p l e R s m₀ args below meth c W locs cells slots) (hexec : p.tables.exec = Jvm.exec) (htr : e.platform.stackTraces = false) {own cls XO : String} {names : List String} {ic : Nat}
    (hown : s.vm.findClass own = some m₀.cls) (hcls : Bundle.fit cls = true) (hnames : ∀ n ∈ names, Bundle.fit n = true)
    (ht : ∀ a ∈ Bundle.throwableAtoms, a.before args s = true) (hch : ∀ a ∈ Bundle.chain0Atoms cls names, a.before args s = true)
    (hml : (Cond.methodLink own ic (Bundle.init0 cls)).before args s = true) (his : (Cond.instanceMethod (Bundle.init0 cls)).before args s = true) (hcd : (Cond.code (Bundle.init0 cls) Bundle.five 1 none).before args s = true)
    (hs0 : (Cond.selects XO Bundle.tFill0 Bundle.tFill0).before args s = true) (hs1 : (Cond.selects XO Bundle.tFill Bundle.tFill).before args s = true)
    (hlC : (Cond.lays XO Bundle.tN "cause" "Ljava/lang/Throwable;").before args s = true) (hlS : (Cond.lays XO Bundle.tN "stackTrace" Bundle.steD).before args s = true) (hlP : (Cond.lays XO Bundle.tN "suppressedExceptions" Bundle.listD).before args s = true) (hlB : (Cond.lays XO Bundle.tN "backtrace" "Ljava/lang/Object;").before args s = true)
    (hrU : (Cond.isRef (.static Bundle.tN "UNASSIGNED_STACK" Bundle.steD)).before args s = true) (hrN : (Cond.isRef (.static Bundle.tN "SUPPRESSED_SENTINEL" Bundle.listD)).before args s = true)
    (hf198 : (Cond.fieldLink Bundle.tN 198 Bundle.tN "backtrace" "Ljava/lang/Object;").before args s = true) (hlB0 : (Cond.lays Bundle.tN Bundle.tN "backtrace" "Ljava/lang/Object;").before args s = true)
    (hlocs : ∀ x ∈ locs, ∀ cell, s.heap[x.base]? = some cell → cell.vm.isStatics = false)
    {a : Addr} {cX : ClassId} {kX : Class} (hfoundX : s.vm.findClass XO = some cX) (hk : s.vm.classes[cX]? = some kX) (hord : kX.kind = .ordinary) (hcell : W.heap[a]? = some (freshCell cX kX))
    {g : JFrame} (hg : g.method = m₀) (hsize : g.locals.size = c.maxLocals) {rest : List Value} (hstack : g.stack = .ref a :: rest)
    (hd6 : decode c.code g.pc = .ok (.invokespecial ic, 3))
    (hRframes : names.length + 3 < R.frames) (hRlocals : 2 * g.monitorRoom + (rest.map fun v => v.category).sum + (13 * (names.length + 1) + 41) ≤ R.locals) :
    ∃ (V : State) (ce : Cell) (L : List Loc), Stand p l e R s m₀ args below meth c (V.setCell a ce) (locs ++ L) cells slots ∧ (∀ y ∈ L, y.base = a) ∧ V.heap = W.heap ∧ ce.cls = cX ∧ ce.vm = .none ∧ ce.slots.size = (freshCell cX kX).slots.size ∧
      ∀ target, Steps p.tables e below ((V.setCell a ce).setTop { g with stack := rest, pc := g.pc + 3 }) target → Steps p.tables e below (W.setTop g) target := by
  have howns : e.platform.frameOwnsMonitors = true := by rw [X.admits.platform]
  have hfin : e.platform.finalization = false := by rw [X.admits.platform]
  have hpl : e.platform.magicAccessors = ({} : Platform).magicAccessors := by rw [X.admits.platform]
  obtain ⟨T, Z, L, LZ, Y⟩ := ThrowableC.of_atoms (args := args) howns hfin hpl ht
  obtain ⟨P1, Ps, hlen, L1, hL, hP1m, hlink1, hlink⟩ := Bundle.chain0 (args := args) hpl Y.init0 names cls hcls hnames hch
  have hsel0 : selectMethod e.platform s.vm cX T.fill0 = .method T.fill0 := by
    obtain ⟨c2, r2, m2, q1, q2, q3, q4, -⟩ := Cond.selects_spec hs0
    cases Option.some.inj (q1.symm.trans hfoundX)
    cases Option.some.inj (q2.symm.trans (State.methodFound?_of_named Y.fill0 (by decide)))
    cases Option.some.inj (q3.symm.trans Y.fill0)
    rw [Launch.admits_selectMethod X.admits]; exact q4
  have hselF : selectMethod e.platform s.vm cX T.fill = .method T.fill := by
    obtain ⟨c2, r2, m2, q1, q2, q3, q4, -⟩ := Cond.selects_spec hs1
    cases Option.some.inj (q1.symm.trans hfoundX)
    cases Option.some.inj (q2.symm.trans (State.methodFound?_of_named Y.fill (by decide)))
    cases Option.some.inj (q3.symm.trans Y.fill)
    rw [Launch.admits_selectMethod X.admits]; exact q4
  obtain ⟨cellS0, hcS0, hiss⟩ := Y.statics
  obtain ⟨u0, hu0⟩ := Cond.staticRefV Y.unassigned L.unassignedStatic L.statics hcS0 hiss hrU
  obtain ⟨sen, hsen⟩ := Cond.staticRefV Y.sentinel L.sentinelStatic L.statics hcS0 hiss hrN
  obtain ⟨ci198, i198, fB, hk198, hg198, ha198, hsB, -, hnB, htB, hffB⟩ := Cond.ownField (t := .object "java/lang/Object") Y.found L.cls (by decide +kernel) hf198 hlB0 e.platform hpl
  obtain ⟨cellS, hcS', heS, -, hkeep⟩ := X.same.2.2.2.2.2 T.aS cellS0 hcS0
  have hcellS : W.heap[T.aS]? = some cellS := hcS'
  have hout' : ∀ i, (⟨T.aS, i⟩ : Loc) ∉ locs := fun i hmem => by
    have := hlocs _ hmem cellS0 hcS0
    rw [hiss] at this; cases this
  have hknownS : cellS.vm ≠ .unknown := by
    rw [heS]; intro hu
    rw [show cellS0.vm = .unknown from hu] at hiss
    cases hiss
  have hneS : T.aS ≠ a := fun h => by
    rw [h] at hcellS
    cases Option.some.inj (hcellS.symm.trans hcell)
    have h9 := congrArg (fun z : Cell => z.vm.isStatics) heS
    have h10 : false = cellS0.vm.isStatics := h9
    rw [hiss] at h10
    cases h10
  obtain ⟨tyC, dC, hdC, hdnC⟩ := Cond.laysAt hfoundX hk Y.cause hlC
  obtain ⟨tyS, dS, hdS, hdnS⟩ := Cond.laysAt hfoundX hk Y.stack hlS
  obtain ⟨tyP, dP, hdP, hdnP⟩ := Cond.laysAt hfoundX hk Y.supp hlP
  obtain ⟨tyB, dB, hdB, hdnB⟩ := Cond.laysAt hfoundX hk hffB hlB
  have bC := Cond.laysApart hdB hdC hdnB hdnC (by rw [hnB, Y.causeName]; decide)
  have bS := Cond.laysApart hdB hdS hdnB hdnS (by rw [hnB, Y.stackName]; decide)
  have bP := Cond.laysApart hdB hdP hdnB hdnP (by rw [hnB, Y.suppName]; decide)
  have hskip : SkipFacts T e.platform s (fun u => u) u0 ((preparedCellV T.toThrowableT (freshCell cX kX) a u0 sen).withEntry W.cur) :=
    ⟨{ ci198 := ci198, i198 := i198, fBack := fB }, ⟨hk198, hg198, ha198, hsB⟩, by
      have := fresh_default (c := cX) tyB
      rw [htB] at this
      simpa [preparedCellV, Cell.setSlot, Cell.withEntry, Array.getElem?_setIfInBounds, bC, bS, bP, bC.symm, bS.symm, bP.symm, defaultValue] using this, fun _ _ => rfl⟩
  obtain ⟨tm, methC, cdC, kC, vm₁, hnC, -, -, -, -, -, -, -, hW₁, st1⟩ := Steps.initCold (tb := p.tables) (e := e) (below := below) (s := s) (U := W) X.here hexec X.warmed hpl hown (t := Bundle.init0 cls) rfl rfl (Bundle.fit_spec hcls).2
    hml his (bytes := Bundle.five) (maxL := 1) hcd
    (f := g) hg (a := a) (rest := rest) hstack hd6
  cases Option.some.inj (hnC.symm.trans hP1m)
  have X₁ := X.noted hW₁
  obtain ⟨vm₂, X₂, st2⟩ := X₁.ctorPlainOffV hexec (g := { g with stack := rest }) hg hsize T L Z LZ (P1 :: Ps)
    (fun P hP => by rcases List.mem_cons.mp hP with rfl | hP; exact L1; exact hL P hP) ⟨hlink1, hlink⟩ (u0 := u0) (sen := sen) (self := a) (cell := freshCell cX kX) (cellS := cellS)
    hcell (fun _ => by simp) (by simp) rfl rfl hsel0 hselF hcellS hneS hknownS (by rw [hkeep _ (hout' _)]; exact hu0) (by rw [hkeep _ (hout' _)]; exact hsen)
    (Takes.of_laid hk hord tyC (by rw [Y.causeType]; rfl)) (Takes.of_laid hk hord tyS (by rw [Y.stackType]; exact fits_refV_array _ u0)) (Takes.of_laid hk hord tyP (by rw [Y.suppType]; exact fits_refV_object _ sen)) Y.objLocals hskip htr [] hd6
    (by simp only [List.length_cons, hlen]; omega) (by simp only [List.length_cons, hlen]; exact hRlocals)
  refine ⟨(W.setVm vm₁).setVm vm₂, _, _, X₂, fun y hy => ?_, rfl, rfl, rfl, ?_, fun target hwalk => st1 _ (fun acts => ?_)⟩
  · simp only [List.mem_cons, List.not_mem_nil, or_false] at hy
    rcases hy with rfl | rfl | rfl | rfl <;> rfl
  · simp [preparedCellV, Cell.setSlot]
  · rw [doInvoke_state]
    exact st2 _ hwalk
end XW
theorem in_r {big : List Cond} (ws : List Cond) (ps : List Nat) (hp : ws = ps.filterMap (fun i => big[i]?)) : ∀ w ∈ ws, w ∈ big := fun w hw => by
  rw [hp] at hw
  obtain ⟨i, -, hi⟩ := List.mem_filterMap.mp hw
  exact List.mem_of_getElem? hi
def lsW (w : Cond) : Bool := match w with
  | .laysStatic .. => true
  | _ => false
theorem thW_in : ∀ w ∈ Bundle.throwableAtoms, w ∈ lw_tbl := in_r _ [306, 2144, 2153, 2156, 2159, 2161, 2145, 2146, 322, 323, 2147, 2152, 2157, 2173, 2134, 2174, 2136, 2175, 2138, 2148, 2149, 2150, 2151, 2140] (by decide +kernel)
theorem chW_in : ∀ w ∈ Bundle.chain0Atoms "java/lang/RuntimeException" ["java/lang/Exception"], w ∈ lw_tbl := in_r _ [2166, 2167, 2168, 2169, 2127, 2169, 2170, 2171, 2145, 2129] (by decide +kernel)
theorem chW_ok : ∀ w ∈ Bundle.chain0Atoms "java/lang/RuntimeException" ["java/lang/Exception"], okW w = true := by decide +kernel
theorem thW_ok : ∀ w ∈ Bundle.throwableAtoms, okW w = true ∨ w = .laysStatic Bundle.tN "UNASSIGNED_STACK" Bundle.steD ∨ w = .laysStatic Bundle.tN "SUPPRESSED_SENTINEL" Bundle.listD := by decide +kernel
abbrev fs0W : List Value := [.null, .null, .null, .null, .null, .int 0, .int 0]
def PreNW (D : va_G) (ct : Nat → ClassId) (h0 : Nat) (sz : Nat) (U : State) : Prop := PreC D ct [(h0, .inr (15, fs0W))] sz U ∧ (∃ kX : Class, U.vm.classes[D.1 15]? = some kX ∧ U.heap[h0]? = some (freshCell (D.1 15) kX))
theorem blindNW {av : List Value} {D : va_G} {ct : Nat → ClassId} {h0 : Nat} {sz : Nat} : FrameBlind (va_Pc av (PreNW D ct h0 sz)) := fun a U g mk q => by
  obtain ⟨q0, q1, q2⟩ := q
  exact ⟨q0, (blindC a U g mk ⟨q0, q1⟩).2, q2⟩
theorem xw_0 : Cond.methodLink RX15 1 (Bundle.init0 "java/lang/RuntimeException") ∈ lw_tbl := List.mem_append_right _ (List.mem_of_getElem? (i := 1939) (by decide +kernel))
theorem xw_1 : Cond.instanceMethod (Bundle.init0 "java/lang/RuntimeException") ∈ lw_tbl := List.mem_append_right _ (List.mem_of_getElem? (i := 1878) (by decide +kernel))
theorem xw_2 : Cond.code (Bundle.init0 "java/lang/RuntimeException") Bundle.five 1 none ∈ lw_tbl := List.mem_append_right _ (List.mem_of_getElem? (i := 1879) (by decide +kernel))
theorem xw_3 : Cond.selects RX15 Bundle.tFill0 Bundle.tFill0 ∈ lw_tbl := List.mem_append_right _ (List.mem_of_getElem? (i := 1930) (by decide +kernel))
theorem xw_4 : Cond.selects RX15 Bundle.tFill Bundle.tFill ∈ lw_tbl := List.mem_append_right _ (List.mem_of_getElem? (i := 1867) (by decide +kernel))
theorem xw_5 : Cond.lays RX15 Bundle.tN "cause" "Ljava/lang/Throwable;" ∈ lw_tbl := List.mem_append_right _ (List.mem_of_getElem? (i := 1931) (by decide +kernel))
theorem xw_6 : Cond.lays RX15 Bundle.tN "stackTrace" Bundle.steD ∈ lw_tbl := List.mem_append_right _ (List.mem_of_getElem? (i := 1932) (by decide +kernel))
theorem xw_7 : Cond.lays RX15 Bundle.tN "suppressedExceptions" Bundle.listD ∈ lw_tbl := List.mem_append_right _ (List.mem_of_getElem? (i := 1933) (by decide +kernel))
theorem xw_8 : Cond.lays RX15 Bundle.tN "backtrace" "Ljava/lang/Object;" ∈ lw_tbl := List.mem_append_right _ (List.mem_of_getElem? (i := 1935) (by decide +kernel))
theorem xw_9 : Cond.fieldLink Bundle.tN 198 Bundle.tN "backtrace" "Ljava/lang/Object;" ∈ lw_tbl := List.mem_append_right _ (List.mem_of_getElem? (i := 1855) (by decide +kernel))
theorem xw_10 : Cond.lays Bundle.tN Bundle.tN "backtrace" "Ljava/lang/Object;" ∈ lw_tbl := List.mem_append_right _ (List.mem_of_getElem? (i := 1854) (by decide +kernel))
set_option maxHeartbeats 4000000 in
set_option maxRecDepth 100000 in
/-- Wrong(p): the object's last field is p -/
theorem c_X15_init (l : Launch) (hst : l.stackTraces = false) (D : va_G) (ct : Nat → ClassId) (h0 : Nat) (p0 : Int32) : ∀ sz : Nat, Met l yX15_init [Cond.code yX15_init cX15_init 2 none] ({ frames := 6, cells := 0, slots := 0, locals := 120 }) (va_Pc [.ref h0, .int p0] (PreNW D ct h0 sz)) (va_Qv (fun fs : List Value => fs.length = 7 ∧ fs[6]? = some (.int p0)) (PoC D (va_A [(h0, .inr (15, fs0W))] sz) (fun fs : List Value => [(h0, .inr (15, fs))])) (va_A [(h0, .inr (15, fs0W))] sz)) 0 0 (va_A [(h0, .inr (15, fs0W))] sz) := by
  intro sz
  refine Met.ofW (cc := cX15_init) (maxL := 2) (ret := none) (by decide) rfl ?_
  intro p e s m args below meth c s₁ B hml hv
  obtain ⟨rfl, ⟨hsz, hP, hK, hD0, hn, hSK, hZs⟩, ⟨kX, hkX, hfr⟩⟩ := hv
  have hZ := hZs.1
  have hown : s.vm.findClass RX15 = some m.cls := findClass_of_methodNamed B.named
  have hin : meth.name = "<init>" := (name_of_methodNamed B.named B.method).1
  subst hsz
  have hD := hD0.self (sz := s.heap.size)
  have hx := B.exec
  have hb := B.bytes
  have hr := B.returns
  have hlocks := B.notSynchronized
  clear hZs
  generalize hAe : va_A [(h0, .inr (15, fs0W))] s.heap.size = A at hD hZ ⊢
  have hl := lv_entry ([.ref h0, .int p0]) (n := 2) (Nat.le_of_ble_eq_true rfl)
  rw [lg_entry_eq]
  generalize (lg_sl ([.ref h0, .int p0]) ++ List.replicate (2 - (lg_sl ([.ref h0, .int p0])).length) Slot.unset).toArray = ls at hl ⊢
  have hl : lv_has ls 2 [(0, .ref h0), (1, .int p0)] := hl
  refine lv_aload_n hx hb dX15_init_0 rfl (lv_at hl 0 rfl) ?_
  intro T hT X
  have htr : e.platform.stackTraces = false := (show e.platform.stackTraces = l.stackTraces by rw [X.admits.platform]).trans hst
  have hKw := (hK.1 15 (RX15, TX15, 7) rfl)
  obtain ⟨c1, kX', hc1, hk1, hord, -, -, -⟩ := Cond.instantiable_spec (hn.get (args := #[]) mw_1928 rfl)
  cases Option.some.inj (hc1.symm.trans hKw.2.1)
  cases Option.some.inj (hk1.symm.trans hkX)
  obtain ⟨V, ce, L, X2, hLb, hV, e1, e2, e3, st⟩ := xw_ctor0 X hx htr (own := RX15) (cls := "java/lang/RuntimeException") (XO := RX15) (names := ["java/lang/Exception"]) (ic := 1) (a := h0) hown (by decide +kernel) (by decide +kernel)
    (fun a ha => by
      rcases thW_ok a ha with h | h | h
      · exact hn.get (thW_in a ha) h
      · rw [h]; exact hZ.1.2.word
      · rw [h]; exact hZ.2.2.word)
    (fun a ha => hn.get (chW_in a ha) (chW_ok a ha))
    (hn.get xw_0 rfl) (hn.get xw_1 rfl) (hn.get xw_2 rfl) (hn.get xw_3 rfl) (hn.get xw_4 rfl) (hn.get xw_5 rfl) (hn.get xw_6 rfl) (hn.get xw_7 rfl) (hn.get xw_8 rfl)
    (vx_isRefq hZ.1.1) (vx_isRefq hZ.2.1) (hn.get xw_9 rfl) (hn.get xw_10 rfl) (fun x hx9 => nomatch hx9) hKw.2.1 hkX hord (by rw [hT]; exact hfr)
    (g := F0 m (0 + 1) ls [.ref h0]) rfl (by rw [hml]; exact hl.1) (rest := []) rfl (by rw [hb]; exact dX15_init_1) (Nat.le_of_ble_eq_true rfl) (Nat.le_of_ble_eq_true rfl)
  have hlt : h0 < s.heap.size := (Array.getElem?_eq_some_iff.mp hfr).1
  have hVs : V.heap = s.heap := by rw [hV, hT]
  have g1 : (V.setCell h0 ce).heap[h0]? = some ce := by
    show (V.heap.setIfInBounds h0 ce)[h0]? = some ce
    rw [hVs]; simp [hlt]
  have g2 : ∀ q : Nat, q ≠ h0 → (V.setCell h0 ce).heap[q]? = s.heap[q]? := fun q hq => by
    show (V.heap.setIfInBounds h0 ce)[q]? = s.heap[q]?
    rw [hVs, Array.getElem?_setIfInBounds_ne (fun h => hq h.symm)]
  have g3 : (V.setCell h0 ce).heap.size = s.heap.size := by
    show (V.heap.setIfInBounds h0 ce).size = s.heap.size
    rw [hVs]; simp
  generalize hH1 : (V.setCell h0 ce).heap = H1 at g1 g2 g3
  obtain ⟨vf, hvf⟩ : ∃ vf : Nat → Value, ∀ k, k < 7 → ce.slots[D.2 15 k]? = some (vf k) := by
    refine ⟨fun k => ce.slots.getD (D.2 15 k) .null, fun k hk => ?_⟩
    obtain ⟨r, hr9, cell, f1, f2, f3, f4⟩ := hP 0 _ rfl
    cases hr9
    have f5 := f4 k hk
    cases Option.some.inj (f1.symm.trans hfr)
    have f6 : D.2 15 k < ce.slots.size := by rw [e3]; exact (Array.getElem?_eq_some_iff.mp f5).1
    simp [Array.getD, f6]
  have hP1 : va_P D vwCl [(h0, .inr (15, [vf 0, vf 1, vf 2, vf 3, vf 4, vf 5, vf 6]))] H1 := fun k q hq => by
    match k, hq with
    | 0, hq =>
      cases hq
      refine ⟨_, rfl, ce, g1, e1, e2, fun k hk => ?_⟩
      match k, hk with
      | 0, _ => exact hvf 0 (by decide)
      | 1, _ => exact hvf 1 (by decide)
      | 2, _ => exact hvf 2 (by decide)
      | 3, _ => exact hvf 3 (by decide)
      | 4, _ => exact hvf 4 (by decide)
      | 5, _ => exact hvf 5 (by decide)
      | 6, _ => exact hvf 6 (by decide)
    | k + 1, hq => simp at hq
  have hAh : A h0 := by rw [← hAe]; exact Or.inl ⟨0, _, rfl⟩
  have hD1 : va_D A [(h0, .inr (15, [vf 0, vf 1, vf 2, vf 3, vf 4, vf 5, vf 6]))] := ⟨fun i j p q hi hj _ => by
    have a1 := (List.getElem?_eq_some_iff.mp hi).1
    have a2 := (List.getElem?_eq_some_iff.mp hj).1
    simp at a1 a2
    omega, fun k q hq => by
    match k, hq with
    | 0, hq => cases hq; exact hAh
    | k + 1, hq => simp at hq⟩
  have hS1 : va_S A s.heap H1 ([] ++ L) := ⟨by rw [g3]; exact Nat.le_refl _, fun q hq hnA => g2 q (fun h => hnA (by rw [h]; exact hAh)), fun z hz => by rw [hLb z (by simpa using hz)]; exact hAh⟩
  have K : W p l e ({ frames := 6, cells := 0, slots := 0, locals := 120 }) s m #[.ref h0, .int p0] below meth c H1 ([] ++ L) 0 0 (MQ below (va_Qv (fun fs : List Value => fs.length = 7 ∧ fs[6]? = some (.int p0)) (PoC D A (fun fs : List Value => [(h0, .inr (15, fs))])) A) #[.ref h0, .int p0] s 0 0 A) (F0 m 4 ls []) := by
    have hP := hP1
    have hD := hD1
    have hS := hS1
    refine lv_aload_n hx hb dX15_init_4 rfl (lv_at hl 0 rfl) ?_
    refine lv_iload_n hx hb dX15_init_5 rfl (lv_at hl 1 rfl) ?_
    refine va_putF (D := D) (ci := 15) (v := .int p0) (ty := .int) (C := RX15) (T := TX15) (N := 7) hx hb (htX15 hn) (fun _ h => h) tyX15 tyX15_ok nmX15 hown hK hP hD hS 0 rfl rfl 6 (by decide) (hn.get mw_1940 rfl) (fun _ h9 => h9) rfl hin rfl (by decide +kernel) rfl rfl (Nat.le_of_ble_eq_true rfl) dX15_init_6 (fun H locs hP hD hS => ?_)
    have hP : va_P D vwCl [(h0, .inr (15, [vf 0, vf 1, vf 2, vf 3, vf 4, vf 5, .int p0]))] _ := hP
    have hD : va_D A [(h0, .inr (15, [vf 0, vf 1, vf 2, vf 3, vf 4, vf 5, .int p0]))] := hD
    exact end_v hx hb hr hlocks dX15_init_9 [vf 0, vf 1, vf 2, vf 3, vf 4, vf 5, .int p0] ⟨rfl, rfl⟩ hP hD hS [0] rfl (by decide) rfl (Nat.le_refl _) (Nat.le_refl _)
  obtain ⟨t, a1, b1⟩ := K (V.setCell h0 ce) hH1 X2
  exact ⟨t, st t a1, b1⟩
section NEWW
variable {p : Program} {l : Launch} {e : Env} {R : Room} {s : State} {m : MethodId} {args : Array Value} {below : List Frame} {meth : Method} {c : Code} {H H0 : Heap} {locs : List Loc} {cells slots : Nat} {Q : State → Prop} {A : Nat → Prop}
variable {D : va_G} {ct : Nat → ClassId} {ws : va_W} {own : String} {index k1 n1 pc : Nat} {cc : ByteArray} {rest : List Value} {ls : Array Slot}
theorem nw_W (hexec : p.tables.exec = Jvm.exec) (hb : c.code = cc) (hn : nwOK s) (hown : s.vm.findClass own = some m.cls) (hcl : Cond.classLink own index RX15 ∈ lw_tbl) (hinst : Cond.instantiable RX15 7 ∈ lw_tbl) (hini : Cond.initialized RX15 ∈ lw_tbl)
    (hK : va_K D vwCl (TY ct) s) (hP : va_P D vwCl ws H) (hD : va_D A ws) (hS : va_S A H0 H locs) (hA : ∀ q, H0.size ≤ q → A q) (h1 : cells + 1 ≤ k1) (h2 : slots + 7 ≤ n1) (hcells : k1 ≤ R.cells) (hslots : n1 ≤ R.slots) (hdg : decode cc pc = .ok (.new index, 3))
    (kk : ∀ (q : Nat) (H1 : Heap), (∃ kX : Class, s.vm.classes[D.1 15]? = some kX ∧ H1[q]? = some (freshCell (D.1 15) kX)) → va_P D vwCl (ws ++ [(q, .inr (15, fs0W))]) H1 → va_D A (ws ++ [(q, .inr (15, fs0W))]) → va_S A H0 H1 locs →
      W p l e R s m args below meth c H1 locs k1 n1 Q (F0 m (pc + 3) ls (.ref q :: rest))) : W p l e R s m args below meth c H locs cells slots Q (F0 m pc ls rest) := by
  have hKn := hK.1 15 (RX15, TX15, 7) rfl
  refine W.newcK hexec hb hown (hn.get hcl rfl) (hn.get hinst rfl) (hn.get hini rfl) rfl hdg (Nat.le_trans h1 hcells) (Nat.le_trans h2 hslots) hKn.2.1 rfl fun H1 kC hkC e1 z1 o1 => ?_
  have hk : ∀ (k : Nat) (x : Nat × va_E), ws[k]? = some x → H1[x.1]? = H[x.1]? := fun k x hx => o1 x.1 ((hP k x hx).lt)
  refine W.widen h1 h2 (kk H.size H1 ⟨kC, hkC, e1⟩ ((hP.kept hk).app (fun k x hx => ?_)) (hD.push hP rfl (hA _ hS.1)) ⟨Nat.le_trans hS.1 (by omega), fun x h1 h2 => (o1 x (Nat.lt_of_lt_of_le h1 hS.1)).trans (hS.2.1 x h1 h2), hS.2.2⟩)
  have hz : k < 1 := (List.getElem?_eq_some_iff.mp hx).1
  rw [show k = 0 by omega] at hx
  cases hx
  exact ⟨_, rfl, (u_born tyX15 (htX15 hn (args := args)) (fun _ h => h) hKn hkC e1 tyX15_ok).to dfX15⟩
theorem preN_of {av : List Value} {q : Nat} (hPc : va_P D vwCl [(q, .inr (15, fs0W))] H) (hK : va_K D vwCl (TY ct) s) {A' : Nat → Prop} (hDc : va_D A' [(q, .inr (15, fs0W))]) (hn : nwOK s) (hSK : SK ct s) (hZ : ZS ct A s s.heap) (hS : va_S A s.heap H locs) (hF : ∀ x, va_A [(q, .inr (15, fs0W))] H.size x → A x) (hfr : ∃ kX : Class, s.vm.classes[D.1 15]? = some kX ∧ H[q]? = some (freshCell (D.1 15) kX)) :
    ∀ U : State, U.heap = H → s.WarmedH U.vm → va_Pc av (PreNW D ct q H.size) av.toArray U := fun U hU hW => by
  refine ⟨rfl, (preC_of (av := av) hPc hK hDc hn hSK hZ hS hF U hU hW).2, ?_⟩
  obtain ⟨kX, h1, h2⟩ := hfr
  obtain ⟨k', hk', he⟩ := hW.alike.2.2 _ _ h1
  refine ⟨k', hk', ?_⟩
  rw [hU, h2, he]
end NEWW
abbrev fs0N : List Value := [.null, .null, .null, .null, .null, .int 0]
def PreNN (D : va_G) (ct : Nat → ClassId) (h0 : Nat) (sz : Nat) (U : State) : Prop := PreC D ct [(h0, .inr (13, fs0N))] sz U ∧ (∃ kX : Class, U.vm.classes[D.1 13]? = some kX ∧ U.heap[h0]? = some (freshCell (D.1 13) kX))
theorem blindNN {av : List Value} {D : va_G} {ct : Nat → ClassId} {h0 : Nat} {sz : Nat} : FrameBlind (va_Pc av (PreNN D ct h0 sz)) := fun a U g mk q => by
  obtain ⟨q0, q1, q2⟩ := q
  exact ⟨q0, (blindC a U g mk ⟨q0, q1⟩).2, q2⟩
theorem xn_0 : Cond.methodLink RX13 1 (Bundle.init0 "java/lang/RuntimeException") ∈ lw_tbl := List.mem_append_right _ (List.mem_of_getElem? (i := 1877) (by decide +kernel))
theorem xn_1 : Cond.instanceMethod (Bundle.init0 "java/lang/RuntimeException") ∈ lw_tbl := List.mem_append_right _ (List.mem_of_getElem? (i := 1878) (by decide +kernel))
theorem xn_2 : Cond.code (Bundle.init0 "java/lang/RuntimeException") Bundle.five 1 none ∈ lw_tbl := List.mem_append_right _ (List.mem_of_getElem? (i := 1879) (by decide +kernel))
theorem xn_3 : Cond.selects RX13 Bundle.tFill0 Bundle.tFill0 ∈ lw_tbl := List.mem_append_right _ (List.mem_of_getElem? (i := 1843) (by decide +kernel))
theorem xn_4 : Cond.selects RX13 Bundle.tFill Bundle.tFill ∈ lw_tbl := List.mem_append_right _ (List.mem_of_getElem? (i := 1844) (by decide +kernel))
theorem xn_5 : Cond.lays RX13 Bundle.tN "cause" "Ljava/lang/Throwable;" ∈ lw_tbl := List.mem_append_right _ (List.mem_of_getElem? (i := 1845) (by decide +kernel))
theorem xn_6 : Cond.lays RX13 Bundle.tN "stackTrace" Bundle.steD ∈ lw_tbl := List.mem_append_right _ (List.mem_of_getElem? (i := 1847) (by decide +kernel))
theorem xn_7 : Cond.lays RX13 Bundle.tN "suppressedExceptions" Bundle.listD ∈ lw_tbl := List.mem_append_right _ (List.mem_of_getElem? (i := 1849) (by decide +kernel))
theorem xn_8 : Cond.lays RX13 Bundle.tN "backtrace" "Ljava/lang/Object;" ∈ lw_tbl := List.mem_append_right _ (List.mem_of_getElem? (i := 1853) (by decide +kernel))
theorem xn_9 : Cond.fieldLink Bundle.tN 198 Bundle.tN "backtrace" "Ljava/lang/Object;" ∈ lw_tbl := List.mem_append_right _ (List.mem_of_getElem? (i := 1855) (by decide +kernel))
theorem xn_10 : Cond.lays Bundle.tN Bundle.tN "backtrace" "Ljava/lang/Object;" ∈ lw_tbl := List.mem_append_right _ (List.mem_of_getElem? (i := 1854) (by decide +kernel))
set_option maxHeartbeats 4000000 in
set_option maxRecDepth 100000 in
/-- Never() -/
theorem c_X13_init (l : Launch) (hst : l.stackTraces = false) (D : va_G) (ct : Nat → ClassId) (h0 : Nat) : ∀ sz : Nat, Met l yX13_init [Cond.code yX13_init cX13_init 1 none] ({ frames := 6, cells := 0, slots := 0, locals := 120 }) (va_Pc [.ref h0] (PreNN D ct h0 sz)) (va_Qv (fun fs : List Value => fs.length = 6) (PoC D (va_A [(h0, .inr (13, fs0N))] sz) (fun fs : List Value => [(h0, .inr (13, fs))])) (va_A [(h0, .inr (13, fs0N))] sz)) 0 0 (va_A [(h0, .inr (13, fs0N))] sz) := by
  intro sz
  refine Met.ofW (cc := cX13_init) (maxL := 1) (ret := none) (by decide) rfl ?_
  intro p e s m args below meth c s₁ B hml hv
  obtain ⟨rfl, ⟨hsz, hP, hK, hD0, hn, hSK, hZs⟩, ⟨kX, hkX, hfr⟩⟩ := hv
  have hZ := hZs.1
  have hown : s.vm.findClass RX13 = some m.cls := findClass_of_methodNamed B.named
  have hin : meth.name = "<init>" := (name_of_methodNamed B.named B.method).1
  subst hsz
  have hD := hD0.self (sz := s.heap.size)
  have hx := B.exec
  have hb := B.bytes
  have hr := B.returns
  have hlocks := B.notSynchronized
  clear hZs
  generalize hAe : va_A [(h0, .inr (13, fs0N))] s.heap.size = A at hD hZ ⊢
  have hl := lv_entry ([.ref h0]) (n := 1) (Nat.le_of_ble_eq_true rfl)
  rw [lg_entry_eq]
  generalize (lg_sl ([.ref h0]) ++ List.replicate (1 - (lg_sl ([.ref h0])).length) Slot.unset).toArray = ls at hl ⊢
  have hl : lv_has ls 1 [(0, .ref h0)] := hl
  refine lv_aload_n hx hb dX13_init_0 rfl (lv_at hl 0 rfl) ?_
  intro T hT X
  have htr : e.platform.stackTraces = false := (show e.platform.stackTraces = l.stackTraces by rw [X.admits.platform]).trans hst
  have hKw := (hK.1 13 (RX13, TX13, 6) rfl)
  obtain ⟨c1, kX', hc1, hk1, hord, -, -, -⟩ := Cond.instantiable_spec (hn.get (args := #[]) mw_1835 rfl)
  cases Option.some.inj (hc1.symm.trans hKw.2.1)
  cases Option.some.inj (hk1.symm.trans hkX)
  obtain ⟨V, ce, L, X2, hLb, hV, e1, e2, e3, st⟩ := xw_ctor0 X hx htr (own := RX13) (cls := "java/lang/RuntimeException") (XO := RX13) (names := ["java/lang/Exception"]) (ic := 1) (a := h0) hown (by decide +kernel) (by decide +kernel)
    (fun a ha => by
      rcases thW_ok a ha with h | h | h
      · exact hn.get (thW_in a ha) h
      · rw [h]; exact hZ.1.2.word
      · rw [h]; exact hZ.2.2.word)
    (fun a ha => hn.get (chW_in a ha) (chW_ok a ha))
    (hn.get xn_0 rfl) (hn.get xn_1 rfl) (hn.get xn_2 rfl) (hn.get xn_3 rfl) (hn.get xn_4 rfl) (hn.get xn_5 rfl) (hn.get xn_6 rfl) (hn.get xn_7 rfl) (hn.get xn_8 rfl)
    (vx_isRefq hZ.1.1) (vx_isRefq hZ.2.1) (hn.get xn_9 rfl) (hn.get xn_10 rfl) (fun x hx9 => nomatch hx9) hKw.2.1 hkX hord (by rw [hT]; exact hfr)
    (g := F0 m (0 + 1) ls [.ref h0]) rfl (by rw [hml]; exact hl.1) (rest := []) rfl (by rw [hb]; exact dX13_init_1) (Nat.le_of_ble_eq_true rfl) (Nat.le_of_ble_eq_true rfl)
  have hlt : h0 < s.heap.size := (Array.getElem?_eq_some_iff.mp hfr).1
  have hVs : V.heap = s.heap := by rw [hV, hT]
  have g1 : (V.setCell h0 ce).heap[h0]? = some ce := by
    show (V.heap.setIfInBounds h0 ce)[h0]? = some ce
    rw [hVs]; simp [hlt]
  have g2 : ∀ q : Nat, q ≠ h0 → (V.setCell h0 ce).heap[q]? = s.heap[q]? := fun q hq => by
    show (V.heap.setIfInBounds h0 ce)[q]? = s.heap[q]?
    rw [hVs, Array.getElem?_setIfInBounds_ne (fun h => hq h.symm)]
  have g3 : (V.setCell h0 ce).heap.size = s.heap.size := by
    show (V.heap.setIfInBounds h0 ce).size = s.heap.size
    rw [hVs]; simp
  generalize hH1 : (V.setCell h0 ce).heap = H1 at g1 g2 g3
  obtain ⟨vf, hvf⟩ : ∃ vf : Nat → Value, ∀ k, k < 6 → ce.slots[D.2 13 k]? = some (vf k) := by
    refine ⟨fun k => ce.slots.getD (D.2 13 k) .null, fun k hk => ?_⟩
    obtain ⟨r, hr9, cell, f1, f2, f3, f4⟩ := hP 0 _ rfl
    cases hr9
    have f5 := f4 k hk
    cases Option.some.inj (f1.symm.trans hfr)
    have f6 : D.2 13 k < ce.slots.size := by rw [e3]; exact (Array.getElem?_eq_some_iff.mp f5).1
    simp [Array.getD, f6]
  have hP1 : va_P D vwCl [(h0, .inr (13, [vf 0, vf 1, vf 2, vf 3, vf 4, vf 5]))] H1 := fun k q hq => by
    match k, hq with
    | 0, hq =>
      cases hq
      refine ⟨_, rfl, ce, g1, e1, e2, fun k hk => ?_⟩
      match k, hk with
      | 0, _ => exact hvf 0 (by decide)
      | 1, _ => exact hvf 1 (by decide)
      | 2, _ => exact hvf 2 (by decide)
      | 3, _ => exact hvf 3 (by decide)
      | 4, _ => exact hvf 4 (by decide)
      | 5, _ => exact hvf 5 (by decide)
    | k + 1, hq => simp at hq
  have hAh : A h0 := by rw [← hAe]; exact Or.inl ⟨0, _, rfl⟩
  have hD1 : va_D A [(h0, .inr (13, [vf 0, vf 1, vf 2, vf 3, vf 4, vf 5]))] := ⟨fun i j p q hi hj _ => by
    have a1 := (List.getElem?_eq_some_iff.mp hi).1
    have a2 := (List.getElem?_eq_some_iff.mp hj).1
    simp at a1 a2
    omega, fun k q hq => by
    match k, hq with
    | 0, hq => cases hq; exact hAh
    | k + 1, hq => simp at hq⟩
  have hS1 : va_S A s.heap H1 ([] ++ L) := ⟨by rw [g3]; exact Nat.le_refl _, fun q hq hnA => g2 q (fun h => hnA (by rw [h]; exact hAh)), fun z hz => by rw [hLb z (by simpa using hz)]; exact hAh⟩
  have K : W p l e ({ frames := 6, cells := 0, slots := 0, locals := 120 }) s m #[.ref h0] below meth c H1 ([] ++ L) 0 0 (MQ below (va_Qv (fun fs : List Value => fs.length = 6) (PoC D A (fun fs : List Value => [(h0, .inr (13, fs))])) A) #[.ref h0] s 0 0 A) (F0 m 4 ls []) := by
    have hP := hP1
    have hD := hD1
    have hS := hS1
    exact end_v hx hb hr hlocks dX13_init_4 [vf 0, vf 1, vf 2, vf 3, vf 4, vf 5] rfl hP hD hS [0] rfl (by decide) rfl (Nat.le_refl _) (Nat.le_refl _)
  obtain ⟨t, a1, b1⟩ := K (V.setCell h0 ce) hH1 X2
  exact ⟨t, st t a1, b1⟩
section NEWN
variable {p : Program} {l : Launch} {e : Env} {R : Room} {s : State} {m : MethodId} {args : Array Value} {below : List Frame} {meth : Method} {c : Code} {H H0 : Heap} {locs : List Loc} {cells slots : Nat} {Q : State → Prop} {A : Nat → Prop}
variable {D : va_G} {ct : Nat → ClassId} {ws : va_W} {own : String} {index k1 n1 pc : Nat} {cc : ByteArray} {rest : List Value} {ls : Array Slot}
theorem nw_N (hexec : p.tables.exec = Jvm.exec) (hb : c.code = cc) (hn : nwOK s) (hown : s.vm.findClass own = some m.cls) (hcl : Cond.classLink own index RX13 ∈ lw_tbl) (hinst : Cond.instantiable RX13 6 ∈ lw_tbl) (hini : Cond.initialized RX13 ∈ lw_tbl)
    (hK : va_K D vwCl (TY ct) s) (hP : va_P D vwCl ws H) (hD : va_D A ws) (hS : va_S A H0 H locs) (hA : ∀ q, H0.size ≤ q → A q) (h1 : cells + 1 ≤ k1) (h2 : slots + 6 ≤ n1) (hcells : k1 ≤ R.cells) (hslots : n1 ≤ R.slots) (hdg : decode cc pc = .ok (.new index, 3))
    (kk : ∀ (q : Nat) (H1 : Heap), (∃ kX : Class, s.vm.classes[D.1 13]? = some kX ∧ H1[q]? = some (freshCell (D.1 13) kX)) → va_P D vwCl (ws ++ [(q, .inr (13, fs0N))]) H1 → va_D A (ws ++ [(q, .inr (13, fs0N))]) → va_S A H0 H1 locs →
      W p l e R s m args below meth c H1 locs k1 n1 Q (F0 m (pc + 3) ls (.ref q :: rest))) : W p l e R s m args below meth c H locs cells slots Q (F0 m pc ls rest) := by
  have hKn := hK.1 13 (RX13, TX13, 6) rfl
  refine W.newcK hexec hb hown (hn.get hcl rfl) (hn.get hinst rfl) (hn.get hini rfl) rfl hdg (Nat.le_trans h1 hcells) (Nat.le_trans h2 hslots) hKn.2.1 rfl fun H1 kC hkC e1 z1 o1 => ?_
  have hk : ∀ (k : Nat) (x : Nat × va_E), ws[k]? = some x → H1[x.1]? = H[x.1]? := fun k x hx => o1 x.1 ((hP k x hx).lt)
  refine W.widen h1 h2 (kk H.size H1 ⟨kC, hkC, e1⟩ ((hP.kept hk).app (fun k x hx => ?_)) (hD.push hP rfl (hA _ hS.1)) ⟨Nat.le_trans hS.1 (by omega), fun x h1 h2 => (o1 x (Nat.lt_of_lt_of_le h1 hS.1)).trans (hS.2.1 x h1 h2), hS.2.2⟩)
  have hz : k < 1 := (List.getElem?_eq_some_iff.mp hx).1
  rw [show k = 0 by omega] at hx
  cases hx
  exact ⟨_, rfl, (u_born tyX13 (htX13 hn (args := args)) (fun _ h => h) hKn hkC e1 tyX13_ok).to dfX13⟩
theorem preNN_of {av : List Value} {q : Nat} (hPc : va_P D vwCl [(q, .inr (13, fs0N))] H) (hK : va_K D vwCl (TY ct) s) {A' : Nat → Prop} (hDc : va_D A' [(q, .inr (13, fs0N))]) (hn : nwOK s) (hSK : SK ct s) (hZ : ZS ct A s s.heap) (hS : va_S A s.heap H locs) (hF : ∀ x, va_A [(q, .inr (13, fs0N))] H.size x → A x) (hfr : ∃ kX : Class, s.vm.classes[D.1 13]? = some kX ∧ H[q]? = some (freshCell (D.1 13) kX)) :
    ∀ U : State, U.heap = H → s.WarmedH U.vm → va_Pc av (PreNN D ct q H.size) av.toArray U := fun U hU hW => by
  refine ⟨rfl, (preC_of (av := av) hPc hK hDc hn hSK hZ hS hF U hU hW).2, ?_⟩
  obtain ⟨kX, h1, h2⟩ := hfr
  obtain ⟨k', hk', he⟩ := hW.alike.2.2 _ _ h1
  refine ⟨k', hk', ?_⟩
  rw [hU, h2, he]
end NEWN
theorem va_Ppre {D : va_G} {cl : List vw_C} {X pl : va_W} {H : Heap} (h : va_P D cl (X ++ pl) H) : va_P D cl X H := fun k q hk => h k q (by rw [List.getElem?_append_left (List.getElem?_eq_some_iff.mp hk).1]; exact hk)
theorem va_Dpre {A : Nat → Prop} {X pl : va_W} (h : va_D A (X ++ pl)) : va_D A X := ⟨fun i j p q hi hj e => h.1 i j p q (by rw [List.getElem?_append_left (List.getElem?_eq_some_iff.mp hi).1]; exact hi) (by rw [List.getElem?_append_left (List.getElem?_eq_some_iff.mp hj).1]; exact hj) e, fun k q hk => h.2 k q (by rw [List.getElem?_append_left (List.getElem?_eq_some_iff.mp hk).1]; exact hk)⟩
def qa {V S : Type} (mk : V → Option Value) (post : V → S → Prop) (B : S → State → Prop) (k n : S → Nat) (A : Nat → Prop) : Array Value → State → Outcome → State → Prop := fun _ st oc t => (∃ (r : V) (u : S), oc = .returned (mk r) ∧ post r u ∧ B u t ∧ Acct st.heap t.heap (k u) (n u)) ∧ va_F A st t
def BX {SX : Type} (D : va_G) (A : Nat → Prop) (ci : Nat) (E : String) (xw : SX → va_W) : Addr → String → SX × List Value → State → Prop := fun q E' u t => E' = E ∧ va_P D vwCl (xw u.1 ++ [(q, .inr (ci, u.2))]) t.heap ∧ va_D A (xw u.1 ++ [(q, .inr (ci, u.2))])
def XQ {SX : Type} (D : va_G) (A : Nat → Prop) (ci : Nat) (E : String) (pe : List Value → Prop) (px : SX → Prop) (xw : SX → va_W) : Addr → String → State → State → Prop := vx_X (fun u : SX × List Value => px u.1 ∧ pe u.2) (BX D A ci E xw) A
abbrev KT {V S SX : Type} (l : Launch) (y : MethodName) (b : ByteArray) (nL : Nat) (ret : Option FieldType) (fr lo : Nat) (D : va_G) (ct : Nat → ClassId) (av : List Value) (wc : va_W) (mc ms : Nat) (mk : V → Option Value) (post : V → S → Prop) (w1 : S → va_W) (k n : S → Nat) (ci : Nat) (E : String) (pe : List Value → Prop) (px : SX → Prop) (xw : SX → va_W) : Prop :=
  ∀ sz : Nat, vx_Met l y [Cond.code y b nL ret] ({ frames := fr, cells := mc, slots := ms, locals := lo }) (va_Pc av (PreC D ct wc sz)) (qa mk post (PoC D (va_A wc sz) w1) k n (va_A wc sz)) (XQ D (va_A wc sz) ci E pe px xw) mc ms (va_A wc sz)
theorem KT_of {V S SX : Type} {l : Launch} {y : MethodName} {b : ByteArray} {nL : Nat} {ret : Option FieldType} {fr lo mc ms : Nat} {D : va_G} {ct : Nat → ClassId} {av : List Value} {wc : va_W} {mk : V → Option Value} {post : V → S → Prop} {w1 : S → va_W} {k n : S → Nat} {ci : Nat} {E : String} {pe : List Value → Prop} {px : SX → Prop} {xw : SX → va_W} (hy : plainName y.cls = true) (hlen : (lg_sl av).length ≤ nL)
    (body : ∀ (p : Program) (e : Env) (s : State) (m : MethodId) (below : List Frame) (meth : Method) (c : Code) (A : Nat → Prop) (Q : State → Prop), CxB p s m meth c y b nL ret D ct A → (∀ x ∈ c.exceptionTable.toList, False) → (∀ q, s.heap.size ≤ q → A q) → ∀ (H : Heap) (locs : List Loc), va_S A s.heap H locs → va_P D vwCl wc H → va_D A wc → vx_MQ below (qa mk post (PoC D A w1) k n A) (XQ D A ci E pe px xw) av.toArray s mc ms A = Q → ∀ ls : Array Slot, lv_has ls nL (lv_args 0 av) →
      W p l e ({ frames := fr, cells := mc, slots := ms, locals := lo }) s m av.toArray below meth c H locs 0 0 Q (F0 m 0 ls [])) :
    KT l y b nL ret fr lo D ct av wc mc ms mk post w1 k n ci E pe px xw := by
  intro sz
  refine vx_ofW (cc := b) (maxL := nL) (ret := ret) hy rfl ?_
  intro p e s m args below meth c s₁ B hml htab hv
  obtain ⟨rfl, hsz, hP, hK, hD0, hn, hSK, hZ⟩ := hv
  have hown : s.vm.findClass y.cls = some m.cls := findClass_of_methodNamed B.named
  have hin : meth.name = y.name := (name_of_methodNamed B.named B.method).1
  subst hsz
  have hD := hD0.self (sz := s.heap.size)
  have hl := lv_entry av (n := nL) hlen
  rw [lg_entry_eq]
  exact body p e s m below meth c (va_A wc s.heap.size) _ ⟨B.exec, B.bytes, B.returns, hown, hin, hml, B.notSynchronized, hn, hK, hZ, hSK⟩ htab (fun q h => Or.inr h) _ _ va_S.rf hP hD rfl _ hl
section TCALLS
variable {p : Program} {l : Launch} {e : Env} {R : Room} {s : State} {m : MethodId} {args : Array Value} {below : List Frame} {meth : Method} {c : Code} {H : Heap} {locs : List Loc} {cells slots : Nat} {Q : State → Prop} {A : Nat → Prop}
variable {D : va_G} {ct : Nat → ClassId} {X ws wc cx wr pl : va_W} {own : String} {index nL maxL mc ms fr lo n pc : Nat} {y : MethodName} {bytes cc : ByteArray} {ret : Option FieldType} {b : Addr} {As rest st0 : List Value} {ls : Array Slot}
theorem rt_V {Qc : Array Value → State → Outcome → State → Prop} {XC : Addr → String → State → State → Prop} {free : Addr → Prop} (hM : vx_Met l y [Cond.code y bytes maxL ret] ({ frames := fr, cells := mc, slots := ms, locals := lo }) (va_Pc (Value.ref b :: As) (PreC D ct wc H.size)) Qc XC mc ms free)
    (cb : CallB R s args own index y bytes maxL ret [Cond.code y bytes maxL ret] ({ frames := fr, cells := mc, slots := ms, locals := lo }) mc ms n)
    (hx : p.tables.exec = Jvm.exec) (hb : c.code = cc) (hml : c.maxLocals = nL) (hown : s.vm.findClass own = some m.cls) (hn : nwOK s) (hK : va_K D vwCl (TY ct) s) (hSK : SK ct s) (hZ : ZS ct A s s.heap) (hS : va_S A s.heap H locs)
    (hinst : Cond.instanceMethod y ∈ lw_tbl) (hsel : Cond.selects y.cls y y ∈ lw_tbl) {ci q0 : Nat} {q : vw_C} {fs : List Value} (hc : vwCl[ci]? = some q) (hq : q.1 = y.cls) (he : wc[q0]? = some (b, .inr (ci, fs)))
    (hln : As.length = n) (hsize : ls.size = nL) (hW : (rest.map fun v => v.category).sum ≤ 8) (hdg : decode cc pc = .ok (.invokevirtual index, 3)) (hf : cells + mc ≤ R.cells ∧ slots + ms ≤ R.slots) (hP : va_P D vwCl wc H) (hD : va_D A wc) (hF : ∀ q, va_A wc H.size q → A q) :
    vx_Run p l e R s m args below meth c H locs cells slots mc ms (F0 m pc ls (As.reverse ++ .ref b :: rest)) rest (Qc (Value.ref b :: As).toArray) XC free := by
  refine vx_runV (C := y.cls) (fix0 hx hb hml hown) hM ⟨cb, hn.get hinst rfl, hn.get hsel rfl⟩ ⟨blindC, ?_, preC_of hP hK hD hn hSK hZ hS hF⟩ rfl hln hsize rfl (lv_room hW) hdg hf
  have h := va_recv hK hP hc he
  rw [hq] at h
  exact h
theorem rt_S {Qc : Array Value → State → Outcome → State → Prop} {XC : Addr → String → State → State → Prop} {free : Addr → Prop} (hM : vx_Met l y [Cond.code y bytes maxL ret] ({ frames := fr, cells := mc, slots := ms, locals := lo }) (va_Pc As (PreC D ct wc H.size)) Qc XC mc ms free)
    (cb : CallB R s args own index y bytes maxL ret [Cond.code y bytes maxL ret] ({ frames := fr, cells := mc, slots := ms, locals := lo }) mc ms n)
    (hx : p.tables.exec = Jvm.exec) (hb : c.code = cc) (hml : c.maxLocals = nL) (hown : s.vm.findClass own = some m.cls) (hn : nwOK s) (hK : va_K D vwCl (TY ct) s) (hSK : SK ct s) (hZ : ZS ct A s s.heap) (hS : va_S A s.heap H locs)
    (hstat : Cond.static y ∈ lw_tbl) (hln : As.length = n) (hsize : ls.size = nL) (hW : (rest.map fun v => v.category).sum ≤ 8) (hdg : decode cc pc = .ok (.invokestatic index, 3)) (hf : cells + mc ≤ R.cells ∧ slots + ms ≤ R.slots) (hP : va_P D vwCl wc H) (hD : va_D A wc) (hF : ∀ q, va_A wc H.size q → A q) :
    vx_Run p l e R s m args below meth c H locs cells slots mc ms (F0 m pc ls (As.reverse ++ rest)) rest (Qc As.toArray) XC free :=
  vx_runS (fix0 hx hb hml hown) hM ⟨cb, hn.get hstat rfl⟩ ⟨blindC, preC_of hP hK hD hn hSK hZ hS hF⟩ rfl hln hsize rfl (lv_room hW) hdg hf
/-- a call that may throw: the callee gets the pool, too -/
theorem gt_p {V S SX : Type} {mk : V → Option Value} {post : V → S → Prop} {rx pl1 : S → va_W} {k n' : S → Nat} {ci : Nat} {E : String} {pe : List Value → Prop} {px : SX → Prop} {xw : SX → va_W} {a : Array Value} (isC isR : List Nat) (hr0 : va_P D vwCl (cx ++ pl) H → va_D A (cx ++ pl) → (∀ q, va_A (cx ++ pl) H.size q → A q) → vx_Run p l e R s m args below meth c H locs cells slots mc ms (F0 m pc ls st0) rest (qa mk post (PoC D (va_A (cx ++ pl) H.size) (fun u => rx u ++ pl1 u)) k n' (va_A (cx ++ pl) H.size) a) (XQ D (va_A (cx ++ pl) H.size) ci E pe px xw) (va_A (cx ++ pl) H.size))
    (hP : va_P D vwCl (X ++ pl) H) (hD : va_D A (X ++ pl)) (hS : va_S A s.heap H locs) (hA : ∀ q, s.heap.size ≤ q → A q) (hC : isC.map (fun i => X[i]?) = cx.map some) (hR : isR.map (fun i => X[i]?) = wr.map some) (hnc : va_nd isC = true) (hnd : va_nd isR = true) (hdis : ∀ i ∈ isR, i ∉ isC)
    (kx : ∀ (q : Addr) (u : SX) (fs : List Value) (H1 : Heap) (locs1 : List Loc), px u → pe fs → va_P D vwCl (wr ++ (xw u ++ [(q, .inr (ci, fs))])) H1 → va_D A (wr ++ (xw u ++ [(q, .inr (ci, fs))])) → va_S A s.heap H1 locs1 → vx_W p l e R s m args below meth c H1 locs1 (cells + mc) (slots + ms) Q (F0 m pc ls rest) q)
    (kk : ∀ (r : V) (u : S) (H1 : Heap) (locs1 : List Loc), post r u → va_P D vwCl ((wr ++ rx u) ++ pl1 u) H1 → va_D A ((wr ++ rx u) ++ pl1 u) → va_S A s.heap H1 locs1 → W p l e R s m args below meth c H1 locs1 (cells + k u) (slots + n' u) Q (F0 m (pc + 3) ls ((mk r).toList ++ rest))) : W p l e R s m args below meth c H locs cells slots Q (F0 m pc ls st0) := by
  have hF := va_freeP hD hS hA isC hC
  have hr := hr0 (hP.part isC hC) (hD.part isC hnc hC) hF
  refine W.facts (fun hac => ?_)
  intro T hT X0
  rcases hr T hT X0 with ⟨v, st₀, t, T', L, h0, X', hL, e1, e2, ⟨⟨r, u, hv, hp, ⟨hP1, hD1⟩, hac2⟩, hFr⟩, st⟩ | ⟨q, st₀, t, T', L, E', ce, h0, X', hL, e1, e2, ⟨u, ⟨hpx, hpe⟩, ⟨hE, hP1, hD1⟩, hFr⟩, hce, hcv, hcl, st⟩
  · cases hv
    obtain ⟨k1', k2, k3⟩ := vx_keep h0 e1 hS (fun q _ h => hF q h) hF hL hFr
    rw [← e1] at hP1
    obtain ⟨hP2, hD2⟩ := va_joinP hP hD isC isR hC hR hnd hdis k2 hF hP1 hD1
    rw [h0, ← e1] at hac2
    obtain ⟨t2, a1, b1⟩ := W.shrink (hac.trans hac2) (kk r u T'.heap (locs ++ L) hp hP2 hD2 k3) T' rfl X'
    exact ⟨t2, st t2 a1, b1⟩
  · obtain ⟨k1', k2, k3⟩ := vx_keep h0 e1 hS (fun q _ h => hF q h) hF hL hFr
    rw [← e1] at hP1
    obtain ⟨hP2, hD2⟩ := va_joinP (pl1 := []) hP hD isC isR hC hR hnd hdis k2 hF (by rw [List.append_nil]; exact hP1) (by rw [List.append_nil]; exact hD1)
    rw [List.append_nil] at hP2 hD2
    obtain ⟨t2, a1, b1⟩ := kx q u.1 u.2 T'.heap (locs ++ L) hpx hpe hP2 hD2 k3 T' rfl X'
    exact ⟨t2, st.trans a1, b1⟩
/-- .. the pool stays with the caller -/
theorem gt_q {V S SX : Type} {mk : V → Option Value} {post : V → S → Prop} {w1 : S → va_W} {k n' : S → Nat} {ci : Nat} {E : String} {pe : List Value → Prop} {px : SX → Prop} {xw : SX → va_W} {a : Array Value} (isC isR : List Nat) (hr0 : va_P D vwCl cx H → va_D A cx → (∀ q, va_A cx H.size q → A q) → vx_Run p l e R s m args below meth c H locs cells slots mc ms (F0 m pc ls st0) rest (qa mk post (PoC D (va_A cx H.size) w1) k n' (va_A cx H.size) a) (XQ D (va_A cx H.size) ci E pe px xw) (va_A cx H.size))
    (hP : va_P D vwCl (X ++ pl) H) (hD : va_D A (X ++ pl)) (hS : va_S A s.heap H locs) (hA : ∀ q, s.heap.size ≤ q → A q) (hC : isC.map (fun i => X[i]?) = cx.map some) (hR : isR.map (fun i => X[i]?) = wr.map some) (hnc : va_nd isC = true) (hnd : va_nd isR = true) (hdis : ∀ i ∈ isR, i ∉ isC)
    (kx : ∀ (q : Addr) (u : SX) (fs : List Value) (H1 : Heap) (locs1 : List Loc), px u → pe fs → va_P D vwCl (wr ++ (xw u ++ [(q, .inr (ci, fs))])) H1 → va_D A (wr ++ (xw u ++ [(q, .inr (ci, fs))])) → va_S A s.heap H1 locs1 → vx_W p l e R s m args below meth c H1 locs1 (cells + mc) (slots + ms) Q (F0 m pc ls rest) q)
    (kk : ∀ (r : V) (u : S) (H1 : Heap) (locs1 : List Loc), post r u → va_P D vwCl ((wr ++ w1 u) ++ pl) H1 → va_D A ((wr ++ w1 u) ++ pl) → va_S A s.heap H1 locs1 → W p l e R s m args below meth c H1 locs1 (cells + k u) (slots + n' u) Q (F0 m (pc + 3) ls ((mk r).toList ++ rest))) : W p l e R s m args below meth c H locs cells slots Q (F0 m pc ls st0) := by
  have hF := va_free hD hS hA isC (mp_of hC)
  have hr := hr0 (hP.sub isC (fm_of (mp_of hC))) (hD.sub isC hnc (mp_of hC)) hF
  refine W.facts (fun hac => ?_)
  intro T hT X0
  rcases hr T hT X0 with ⟨v, st₀, t, T', L, h0, X', hL, e1, e2, ⟨⟨r, u, hv, hp, ⟨hP1, hD1⟩, hac2⟩, hFr⟩, st⟩ | ⟨q, st₀, t, T', L, E', ce, h0, X', hL, e1, e2, ⟨u, ⟨hpx, hpe⟩, ⟨hE, hP1, hD1⟩, hFr⟩, hce, hcv, hcl, st⟩
  · cases hv
    obtain ⟨k1', k2, k3⟩ := vx_keep h0 e1 hS (fun q _ h => hF q h) hF hL hFr
    rw [← e1] at hP1
    obtain ⟨hP2, hD2⟩ := va_joinQ hP hD isC isR hC hR hnd hdis k2 hF hP1 hD1
    rw [h0, ← e1] at hac2
    obtain ⟨t2, a1, b1⟩ := W.shrink (hac.trans hac2) (kk r u T'.heap (locs ++ L) hp hP2 hD2 k3) T' rfl X'
    exact ⟨t2, st t2 a1, b1⟩
  · obtain ⟨k1', k2, k3⟩ := vx_keep h0 e1 hS (fun q _ h => hF q h) hF hL hFr
    rw [← e1] at hP1
    obtain ⟨hP2, hD2⟩ := va_joinQ hP hD isC isR hC hR hnd hdis k2 hF hP1 hD1
    obtain ⟨t2, a1, b1⟩ := kx q u.1 u.2 T'.heap (locs ++ L) hpx hpe (va_Ppre hP2) (va_Dpre hD2) k3 T' rfl X'
    exact ⟨t2, st.trans a1, b1⟩
/-- it isn't caught here -/
theorem xo {V S SX : Type} {mk : V → Option Value} {post : V → S → Prop} {B : S → State → Prop} {k n' : S → Nat} {ci : Nat} {E : String} {pe : List Value → Prop} {px : SX → Prop} {xw : SX → va_W} (hQ : vx_MQ below (qa mk post B k n' A) (XQ D A ci E pe px xw) args s mc ms A = Q) (htab : ∀ x ∈ c.exceptionTable.toList, False) (hlocks : meth.locks = false) (hK : va_K D vwCl (TY ct) s) {T : u_T} {N : Nat} (hcl : vwCl[ci]? = some (E, T, N)) (hP : va_P D vwCl ws H) (hD : va_D A ws) (hS : va_S A s.heap H locs)
    (u : SX) {q : Addr} {fs : List Value} (hpx : px u) (hpe : pe fs) (is : List Nat) (hnd : va_nd is = true) (hs2 : is.map (fun i => ws[i]?) = (xw u ++ ([(q, .inr (ci, fs))] : va_W)).map some) {kq : Nat} (hkq : ws[kq]? = some ((q, .inr (ci, fs)) : Nat × va_E)) (h1 : cells ≤ mc) (h2 : slots ≤ ms) :
    vx_W p l e R s m args below meth c H locs cells slots Q (F0 m pc ls rest) q := by
  subst hQ
  obtain ⟨r, hr, cell, e1, e2, e3, -⟩ := hP kq _ hkq
  have h4 := (hK.1 ci (E, T, N) hcl).2
  exact vx_out (E := E) (fun x hx => absurd (htab x hx) id) hlocks e1 e3 (by rw [e2]; exact h4.1) (fun t ht hvm => ⟨(u, fs), ⟨hpx, hpe⟩, ⟨rfl, by rw [ht]; exact hP.sub is (fm_of hs2), hD.sub is hnd hs2⟩, hS.F ht⟩) hS.2.2 h1 h2
/-- the ends of those that may throw -/
theorem et_v {S SX : Type} {post : Unit → S → Prop} {rx pl1 : S → va_W} {k n' : S → Nat} {XC : Addr → String → State → State → Prop} (hQ : vx_MQ below (qa (fun _ : Unit => none) post (PoC D A (fun u => rx u ++ pl1 u)) k n' A) XC args s mc ms A = Q) (hx : p.tables.exec = Jvm.exec) (hb : c.code = cc) (hr : meth.sig.returnType = none) (hlocks : meth.locks = false) (hdg : decode cc pc = .ok (.return_, 1)) (u : S) (hpost : post () u) (hP : va_P D vwCl (X ++ pl1 u) H) (hD : va_D A (X ++ pl1 u)) (hS : va_S A s.heap H locs)
    (is : List Nat) (hnd : va_nd is = true) (hs2 : is.map (fun i => X[i]?) = (rx u).map some) (h1 : cells ≤ k u) (h2 : slots ≤ n' u) (h3 : k u ≤ mc) (h4 : n' u ≤ ms) : W p l e R s m args below meth c H locs cells slots Q (F0 m pc ls []) := by
  subst hQ
  refine vx_ret (W.facts (fun hac => W.widen (Nat.le_trans h1 h3) (Nat.le_trans h2 h4) ?_))
  exact W.vret hx hb hr (fun t ht hW => ⟨⟨(), u, rfl, hpost, ⟨by rw [ht]; exact hP.part is hs2, hD.part is hnd hs2⟩, by rw [ht]; exact hac.mono h1 h2⟩, hS.F ht⟩) hS.2.2 hdg
theorem et_i {S SX : Type} {post : Int32 → S → Prop} {rx pl1 : S → va_W} {k n' : S → Nat} {XC : Addr → String → State → State → Prop} {ty : FieldType} (hQ : vx_MQ below (qa (fun r : Int32 => some (.int r)) post (PoC D A (fun u => rx u ++ pl1 u)) k n' A) XC args s mc ms A = Q) (hx : p.tables.exec = Jvm.exec) (hb : c.code = cc) (hr : meth.sig.returnType = some ty) (hlocks : meth.locks = false) (hdg : decode cc pc = .ok (.ireturn, 1)) {r : Int32} (hnar : narrow ty (.int r) = .int r) (u : S) (hpost : post r u) (hP : va_P D vwCl (X ++ pl1 u) H) (hD : va_D A (X ++ pl1 u)) (hS : va_S A s.heap H locs)
    (is : List Nat) (hnd : va_nd is = true) (hs2 : is.map (fun i => X[i]?) = (rx u).map some) (h1 : cells ≤ k u) (h2 : slots ≤ n' u) (h3 : k u ≤ mc) (h4 : n' u ≤ ms) : W p l e R s m args below meth c H locs cells slots Q (F0 m pc ls [.int r]) := by
  subst hQ
  refine vx_ret (W.facts (fun hac => W.widen (Nat.le_trans h1 h3) (Nat.le_trans h2 h4) ?_))
  exact W.zret hx hb hr hnar (fun t ht hW => ⟨⟨r, u, rfl, hpost, ⟨by rw [ht]; exact hP.part is hs2, hD.part is hnd hs2⟩, by rw [ht]; exact hac.mono h1 h2⟩, hS.F ht⟩) hS.2.2 hdg
theorem et_l {S SX : Type} {post : Int64 → S → Prop} {rx pl1 : S → va_W} {k n' : S → Nat} {XC : Addr → String → State → State → Prop} (hQ : vx_MQ below (qa (fun r : Int64 => some (.long r)) post (PoC D A (fun u => rx u ++ pl1 u)) k n' A) XC args s mc ms A = Q) (hx : p.tables.exec = Jvm.exec) (hb : c.code = cc) (hr : meth.sig.returnType = some .long) (hlocks : meth.locks = false) (hdg : decode cc pc = .ok (.lreturn, 1)) {r : Int64} (u : S) (hpost : post r u) (hP : va_P D vwCl (X ++ pl1 u) H) (hD : va_D A (X ++ pl1 u)) (hS : va_S A s.heap H locs)
    (is : List Nat) (hnd : va_nd is = true) (hs2 : is.map (fun i => X[i]?) = (rx u).map some) (h1 : cells ≤ k u) (h2 : slots ≤ n' u) (h3 : k u ≤ mc) (h4 : n' u ≤ ms) : W p l e R s m args below meth c H locs cells slots Q (F0 m pc ls [.long r]) := by
  subst hQ
  refine vx_ret (W.facts (fun hac => W.widen (Nat.le_trans h1 h3) (Nat.le_trans h2 h4) ?_))
  exact W.lret hx hb hr (fun t ht hW => ⟨⟨r, u, rfl, hpost, ⟨by rw [ht]; exact hP.part is hs2, hD.part is hnd hs2⟩, by rw [ht]; exact hac.mono h1 h2⟩, hS.F ht⟩) hS.2.2 hdg
theorem et_r {S SX : Type} {post : Nat → S → Prop} {rx pl1 : S → va_W} {k n' : S → Nat} {XC : Addr → String → State → State → Prop} {cn : String} (hQ : vx_MQ below (qa (fun r : Nat => some (.ref r)) post (PoC D A (fun u => rx u ++ pl1 u)) k n' A) XC args s mc ms A = Q) (hx : p.tables.exec = Jvm.exec) (hb : c.code = cc) (hr : meth.sig.returnType = some (.object cn)) (hlocks : meth.locks = false) (hdg : decode cc pc = .ok (.areturn, 1)) {r : Nat} (u : S) (hpost : post r u) (hP : va_P D vwCl (X ++ pl1 u) H) (hD : va_D A (X ++ pl1 u)) (hS : va_S A s.heap H locs)
    (is : List Nat) (hnd : va_nd is = true) (hs2 : is.map (fun i => X[i]?) = (rx u).map some) (h1 : cells ≤ k u) (h2 : slots ≤ n' u) (h3 : k u ≤ mc) (h4 : n' u ≤ ms) : W p l e R s m args below meth c H locs cells slots Q (F0 m pc ls [.ref r]) := by
  subst hQ
  refine vx_ret (W.facts (fun hac => W.widen (Nat.le_trans h1 h3) (Nat.le_trans h2 h4) ?_))
  exact W.aret hx hb hr (Or.inl ⟨cn, rfl⟩) (Or.inr ⟨r, rfl⟩) (fun t ht hW => ⟨⟨r, u, rfl, hpost, ⟨by rw [ht]; exact hP.part is hs2, hD.part is hnd hs2⟩, by rw [ht]; exact hac.mono h1 h2⟩, hS.F ht⟩) hS.2.2 hdg
end TCALLS
def peW (fs : List Value) : Prop := fs.length = 7 ∧ ∃ pl : Int32, fs[6]? = some (.int pl)
def peN (fs : List Value) : Prop := fs.length = 6
section LDCW
variable {p : Program} {l : Launch} {e : Env} {R : Room} {s : State} {m : MethodId} {args : Array Value} {below : List Frame} {meth : Method} {c : Code} {H : Heap} {locs : List Loc} {cells slots : Nat} {cc : ByteArray} {pc : Nat} {ls : Array Slot} {rest : List Value} {Q : State → Prop}
theorem va_ldcwS (hexec : p.tables.exec = Jvm.exec) (hb : c.code = cc) {own tx : String} {index q : Nat} (hown : s.vm.findClass own = some m.cls) (hZ : vk_R own index tx q s) (hdg : decode cc pc = .ok (.ldc_w index, 3))
    (k : W p l e R s m args below meth c H locs cells slots Q (F0 m (pc + 3) ls (.ref q :: rest))) : W p l e R s m args below meth c H locs cells slots Q (F0 m pc ls rest) := by
  intro T hT X
  obtain ⟨t, a1, b1⟩ := k T hT X
  refine ⟨t, ?_, b1⟩
  obtain ⟨k', cf, i, a', hk, hcf, hcp, -, hr, hev'⟩ := Cond.stringRef_spec hown hZ.1
  cases hZ.2.symm.trans hev'
  obtain ⟨k2, hk2, he⟩ := X.warmed.alike.2.2 _ _ hk
  have hr2 : k2.resolved[index]? = some (some (.string q)) := by
    rcases X.warmed.entry hk hk2 index with h | ⟨h, -⟩
    · rw [h]; exact hr
    · rw [hr] at h; cases h
  have hd2 : decode c.code (F0 m pc ls rest).pc = .ok (.ldc_w index, 3) := by rw [hb]; exact hdg
  jvm_step X.here [hexec, hd2, ldc_w.wp_string (e := e) (s := T) (f := F0 m pc ls rest) X.here.top hk2 (by rw [he]; exact hcf) hcp hr2]
  exact a1
end LDCW
