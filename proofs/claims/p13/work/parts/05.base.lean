/-! ===== BEGIN words of one list among another's, by their places ===== -/
theorem goodIn_r {big : List Cond} (ws : List Cond) (ps : List Nat) (hp : ws = ps.filterMap (fun i => big[i]?)) (h : ws.all goodWord = true) : GoodIn big ws := by
  intro w hw
  have h1 := List.all_eq_true.mp h w hw
  rw [hp] at hw
  obtain ⟨i, -, hi⟩ := List.mem_filterMap.mp hw
  have hm : w ∈ big := by first | exact List.mem_of_getElem? hi | exact List.getElem?_mem hi
  exact ⟨hm, good_of_word h1⟩
theorem goodIn_app {big a b : List Cond} (ha : GoodIn big a) (hb : GoodIn big b) : GoodIn big (a ++ b) := fun w h => (List.mem_append.mp h).elim (ha w) (hb w)
theorem goodIn_ca {big a b : List Cond} {c : Cond} (ha : GoodIn big (c :: a)) (hb : GoodIn big b) : GoodIn big (c :: (a ++ b)) := fun w h => (List.mem_cons.mp h).elim (fun e => ha w (List.mem_cons.mpr (Or.inl e))) (fun h => (List.mem_append.mp h).elim (fun h => ha w (List.mem_cons.mpr (Or.inr h))) (hb w))
theorem goodIn_sub {big ws : List Cond} (hm : ∀ w ∈ ws, w ∈ big) (h : ws.all goodWord = true) : GoodIn big ws := fun w hw => ⟨hm w hw, good_of_word (List.all_eq_true.mp h w hw)⟩
/-! ===== END ===== -/
/-! the words of the tables as one premise; worlds over one list of classes and of array classes; calls and ends in few rows -/
def dcW (w : Cond) : Bool := match w with
  | .declares _ => true
  | .castable _ _ => true
  | _ => false
def okW (w : Cond) : Bool := (goodWord w || (w.onTables && w.keepsH)) || dcW w
def nwOK (U : State) : Prop := (∀ w ∈ lw_tbl, okW w = true → w.before #[] U = true) ∧ (∀ (own : String) (k : Nat) (tx : String), Cond.stringRef own k tx ∈ tables_1 → ∃ a : Nat, vk_R own k tx a U) ∧ va_AO "FilterForge$Fact" U ∧ va_AO "FilterForgeModel$Filter" U ∧ va_AO "FilterForgeModel$Sum" U
theorem okW_at {args a' : Array Value} {s U : State} (hW : s.WarmedH U.vm) {w : Cond} (ho : okW w = true) (h : w.before args s = true) : w.before a' U = true := by
  rcases (Bool.or_eq_true _ _).mp ho with h0 | h0
  rcases (Bool.or_eq_true _ _).mp h0 with h1 | h1
  · exact word_at hW (good_of_word h1) h
  rotate_left
  · unfold dcW at h0
    split at h0
    · exact va_Nw.use rfl (va_Nw.warmD hW (va_Nw.of rfl h))
    · exact va_Nw.use rfl (va_Nw.warmC hW (va_Nw.of rfl h))
    · exact absurd h0 (by decide)
  · have h2 := (Bool.and_eq_true _ _).mp h1
    have h3 := Cond.onTables_warmH (args' := a') (T := U) hW h2.1 h2.2 h
    rwa [State.setVm_self] at h3
theorem nwOK.warm {s U : State} (hW : s.WarmedH U.vm) (h : nwOK s) : nwOK U := ⟨fun w hm ho => okW_at hW ho (h.1 w hm ho), fun own k tx hm => by
  obtain ⟨a, ha⟩ := h.2.1 own k tx hm
  exact ⟨a, vk_R.warm hW ha⟩, h.2.2.1.moved hW.alike, h.2.2.2.1.moved hW.alike, h.2.2.2.2.moved hW.alike⟩
theorem nwOK.same {u U : State} (hv : U.vm = u.vm) (h : nwOK u) : nwOK U := h.warm (by rw [hv]; exact State.WarmedH.refl u)
theorem nwOK.get {s : State} (h : nwOK s) {args : Array Value} {w : Cond} (hm : w ∈ lw_tbl) (ho : okW w = true) : w.before args s = true := okW_at (State.WarmedH.refl s) ho (h.1 w hm ho)
abbrev TY (ct : Nat → ClassId) : List (ClassId × FieldType) := [(ct 0, .byte), (ct 1, .int), (ct 2, .long), (ct 3, .boolean), (ct 4, .object "FilterForge$Fact"), (ct 5, .object "FilterForgeModel$Filter"), (ct 6, .object "FilterForgeModel$Sum")]
/-! what the heap holds of statics, outside of what is made here: Throwable's two, and the two tables of numbers -/
def ZQ (A : Nat → Prop) (U : State) (H : Heap) : Prop := vx_Zq Bundle.tN "UNASSIGNED_STACK" Bundle.steD A U H ∧ vx_Zq Bundle.tN "SUPPRESSED_SENTINEL" Bundle.listD A U H
theorem ZQ.kept {A : Nat → Prop} {U : State} {H H1 : Heap} (h : ZQ A U H) (hq : ∀ a : Nat, a < H.size → ¬ A a → H1[a]? = H[a]?) : ZQ A U H1 := ⟨h.1.kept hq, h.2.kept hq⟩
theorem ZQ.narrow {A B : Nat → Prop} {U : State} {H : Heap} (h : ZQ A U H) (hAB : ∀ q, B q → A q) : ZQ B U H := ⟨h.1.narrow hAB, h.2.narrow hAB⟩
theorem ZQ.moved {A : Nat → Prop} {u U : State} {H : Heap} (hvm : u.vm.Alike U.vm) (h : ZQ A u H) : ZQ A U H := ⟨h.1.moved hvm, h.2.moved hvm⟩
def ZT (n : String) (A : Nat → Prop) (U : State) (H : Heap) : Prop := ∃ (t : Nat) (f : Nat → Int32), va_Z "FilterForge$Translator" n "[I" (.ref t) A U H ∧ va_T .int t 13 (fun j => .int (f j)) A U H
theorem ZT.kept {n : String} {A : Nat → Prop} {U : State} {H H1 : Heap} (h : ZT n A U H) (hq : ∀ a : Nat, a < H.size → ¬ A a → H1[a]? = H[a]?) : ZT n A U H1 := by
  obtain ⟨t, f, h1, h2⟩ := h; exact ⟨t, f, h1.kept hq, h2.kept hq⟩
theorem ZT.narrow {n : String} {A B : Nat → Prop} {U : State} {H : Heap} (h : ZT n A U H) (hAB : ∀ q, B q → A q) : ZT n B U H := by
  obtain ⟨t, f, h1, h2⟩ := h; exact ⟨t, f, h1.narrow hAB, h2.narrow hAB⟩
theorem ZT.moved {n : String} {A : Nat → Prop} {u U : State} {H : Heap} (hvm : u.vm.Alike U.vm) (h : ZT n A u H) : ZT n A U H := by
  obtain ⟨t, f, h1, h2⟩ := h; exact ⟨t, f, h1.moved hvm, h2.moved hvm⟩
/-! the String constants: constant i lies at ct (100 + i), its bytes at ct (200 + i) -/
def sOwn : List String := ["FilterForge$Reader", "FilterForge$Reader", "FilterForge$Reader", "FilterForge$Reader", "FilterForge$Reader", "FilterForge$Reader", "FilterForge$Reader", "FilterForge$Reader", "FilterForge$Reader", "FilterForge$Reader", "FilterForge$Reader", "FilterForge$Reader", "FilterForge$Reader", "FilterForge$Reader", "FilterForge$Reader", "FilterForge$Reader", "FilterForge$Reader", "FilterForge$Reader", "FilterForge$Reader", "FilterForge$Reader", "FilterForgeModel", "FilterForgeModel", "FilterForgeModel", "FilterForgeModel", "FilterForgeModel", "FilterForgeModel", "FilterForgeModel", "FilterForgeModel", "FilterForgeModel", "FilterForgeModel", "FilterForgeModel", "FilterForgeModel", "FilterForgeModel", "FilterForgeModel", "FilterForgeModel", "FilterForgeModel", "FilterForgeModel", "FilterForgeModel", "FilterForgeModel", "FilterForgeModel", "FilterForgeModel", "FilterForgeModel", "FilterForgeModel", "FilterForgeModel", "FilterForgeModel", "FilterForgeModel", "FilterForgeModel", "FilterForgeModel", "FilterForgeModel", "FilterForgeModel", "FilterForgeModel", "FilterForgeModel", "FilterForgeModel", "FilterForgeModel", "FilterForgeModel", "FilterForgeModel", "FilterForgeModel", "FilterForgeModel", "FilterForgeModel", "FilterForgeModel", "FilterForgeModel", "FilterForgeModel", "FilterForgeModel"]
def sIdx : List Nat := [151, 175, 75, 81, 83, 85, 87, 89, 91, 177, 195, 197, 199, 208, 213, 219, 226, 228, 149, 136, 328, 333, 338, 378, 379, 381, 383, 385, 387, 389, 391, 414, 470, 475, 477, 482, 488, 457, 410, 459, 461, 463, 465, 444, 446, 448, 426, 428, 430, 432, 434, 436, 393, 351, 353, 358, 360, 362, 363, 365, 367, 324, 320]
def sTx : List String := ["not", "len", "ether", "ip", "ip6", "arp", "tcp", "udp", "icmp", "proto", "src", "dst", "host", "net", "port", "portrange", "less", "greater", "and", "or", "not", "(", ")", "ether", "ip", "ip6", "arp", "tcp", "udp", "icmp", "[", "-", "{", "}", "len", ":", "]", "*", "/", "%", "&", "<<", ">>", "+", "|", "^", "=", "!=", "<", "<=", ">", ">=", "proto", "less", "greater", "src", "dst", "host", "net", "port", "portrange", "and", "or"]
def sLen : List Nat := [3, 3, 5, 2, 3, 3, 3, 3, 4, 5, 3, 3, 4, 3, 4, 9, 4, 7, 3, 2, 3, 1, 1, 5, 2, 3, 3, 3, 3, 4, 1, 1, 1, 1, 3, 1, 1, 1, 1, 1, 1, 2, 2, 1, 1, 1, 1, 2, 1, 2, 1, 2, 5, 4, 7, 3, 3, 4, 3, 4, 9, 3, 2]
def SK (ct : Nat → ClassId) (U : State) : Prop := ∀ i, i < 63 → vk_R (sOwn.getD i "") (sIdx.getD i 0) (sTx.getD i "") (ct (100 + i)) U
theorem SK.warm {ct : Nat → ClassId} {s U : State} (hW : s.WarmedH U.vm) (h : SK ct s) : SK ct U := fun i hi => (h i hi).warm hW
theorem SK.same {ct : Nat → ClassId} {u U : State} (hv : U.vm = u.vm) (h : SK ct u) : SK ct U := fun i hi => (h i hi).same hv
def ZC (ct : Nat → ClassId) (i : Nat) (A : Nat → Prop) (U : State) (H : Heap) : Prop := va_O "java/lang/String" (ct (100 + i)) A U H ∧ va_OF "java/lang/String" "coder" "B" (.int 0) (ct (100 + i)) A U H ∧ va_OF "java/lang/String" "value" "[B" (.ref (ct (200 + i))) (ct (100 + i)) A U H ∧ ∃ f : Nat → Int32, va_T .byte (ct (200 + i)) (sLen.getD i 0) (fun j => .int (f j)) A U H
def ZK (ct : Nat → ClassId) (A : Nat → Prop) (U : State) (H : Heap) : Prop := va_Z "java/lang/String" "COMPACT_STRINGS" "Z" (.int 1) A U H ∧ (∃ v, va_Z "jdk/internal/util/Preconditions" "SIOOBE_FORMATTER" "Ljava/util/function/BiFunction;" (va_rf v) A U H) ∧ ∀ i, i < 63 → ZC ct i A U H
theorem ZC.kept {ct : Nat → ClassId} {i : Nat} {A : Nat → Prop} {U : State} {H H1 : Heap} (h : ZC ct i A U H) (hq : ∀ a : Nat, a < H.size → ¬ A a → H1[a]? = H[a]?) : ZC ct i A U H1 := ⟨h.1.kept hq, h.2.1.kept hq, h.2.2.1.kept hq, h.2.2.2.elim fun f hf => ⟨f, hf.kept hq⟩⟩
theorem ZC.narrow {ct : Nat → ClassId} {i : Nat} {A B : Nat → Prop} {U : State} {H : Heap} (h : ZC ct i A U H) (hAB : ∀ q, B q → A q) : ZC ct i B U H := ⟨h.1.narrow hAB, h.2.1.narrow hAB, h.2.2.1.narrow hAB, h.2.2.2.elim fun f hf => ⟨f, hf.narrow hAB⟩⟩
theorem ZC.moved {ct : Nat → ClassId} {i : Nat} {A : Nat → Prop} {u U : State} {H : Heap} (hvm : u.vm.Alike U.vm) (h : ZC ct i A u H) : ZC ct i A U H := ⟨va_O.moved hvm h.1, va_OF.moved hvm h.2.1, va_OF.moved hvm h.2.2.1, h.2.2.2.elim fun f hf => ⟨f, va_T.moved hvm hf⟩⟩
theorem ZK.kept {ct : Nat → ClassId} {A : Nat → Prop} {U : State} {H H1 : Heap} (h : ZK ct A U H) (hq : ∀ a : Nat, a < H.size → ¬ A a → H1[a]? = H[a]?) : ZK ct A U H1 := ⟨h.1.kept hq, h.2.1.elim fun v hv => ⟨v, hv.kept hq⟩, fun i hi => (h.2.2 i hi).kept hq⟩
theorem ZK.narrow {ct : Nat → ClassId} {A B : Nat → Prop} {U : State} {H : Heap} (h : ZK ct A U H) (hAB : ∀ q, B q → A q) : ZK ct B U H := ⟨h.1.narrow hAB, h.2.1.elim fun v hv => ⟨v, hv.narrow hAB⟩, fun i hi => (h.2.2 i hi).narrow hAB⟩
theorem ZK.moved {ct : Nat → ClassId} {A : Nat → Prop} {u U : State} {H : Heap} (hvm : u.vm.Alike U.vm) (h : ZK ct A u H) : ZK ct A U H := ⟨va_Z.moved hvm h.1, h.2.1.elim fun v hv => ⟨v, va_Z.moved hvm hv⟩, fun i hi => (h.2.2 i hi).moved hvm⟩
def ZS (ct : Nat → ClassId) (A : Nat → Prop) (U : State) (H : Heap) : Prop := ZQ A U H ∧ ZT "HIGHS" A U H ∧ ZT "MIDDLES" A U H ∧ ZK ct A U H
theorem ZS.kept {ct : Nat → ClassId} {A : Nat → Prop} {U : State} {H H1 : Heap} (h : ZS ct A U H) (hq : ∀ a : Nat, a < H.size → ¬ A a → H1[a]? = H[a]?) : ZS ct A U H1 := ⟨h.1.kept hq, h.2.1.kept hq, h.2.2.1.kept hq, h.2.2.2.kept hq⟩
theorem ZS.narrow {ct : Nat → ClassId} {A B : Nat → Prop} {U : State} {H : Heap} (h : ZS ct A U H) (hAB : ∀ q, B q → A q) : ZS ct B U H := ⟨h.1.narrow hAB, h.2.1.narrow hAB, h.2.2.1.narrow hAB, h.2.2.2.narrow hAB⟩
theorem ZS.moved {ct : Nat → ClassId} {A : Nat → Prop} {u U : State} {H : Heap} (hvm : u.vm.Alike U.vm) (h : ZS ct A u H) : ZS ct A U H := ⟨h.1.moved hvm, h.2.1.moved hvm, h.2.2.1.moved hvm, h.2.2.2.moved hvm⟩
def PreC (D : va_G) (ct : Nat → ClassId) (ws : va_W) (sz : Nat) (U : State) : Prop := U.heap.size = sz ∧ va_P D vwCl ws U.heap ∧ va_K D vwCl (TY ct) U ∧ va_D (fun _ => True) ws ∧ nwOK U ∧ SK ct U ∧ ZS ct (va_A ws sz) U U.heap
def PoC {S : Type} (D : va_G) (A : Nat → Prop) (w1 : S → va_W) : S → State → Prop := fun u t => va_P D vwCl (w1 u) t.heap ∧ va_D A (w1 u)
theorem blindC {av : List Value} {D : va_G} {ct : Nat → ClassId} {wc : va_W} {sz : Nat} : FrameBlind (va_Pc av (PreC D ct wc sz)) := fun a U g mk q => by
  obtain ⟨q0, q1, q2, q3, q4, q5, q7, q6⟩ := q
  exact ⟨q0, q1, q2, va_K.moved (u := U) (U := U.calling g mk a) (Vm.Alike.refl U.vm) q3, q4, nwOK.same (u := U) rfl q5, SK.same (u := U) rfl q7, ZS.moved (u := U) (U := U.calling g mk a) (Vm.Alike.refl U.vm) q6⟩
theorem preC_of {s : State} {H : Heap} {locs : List Loc} {av : List Value} {D : va_G} {ct : Nat → ClassId} {wc : va_W} {A A' : Nat → Prop} (hP : va_P D vwCl wc H) (hK : va_K D vwCl (TY ct) s) (hD : va_D A' wc) (hn : nwOK s) (hSK : SK ct s) (hZ : ZS ct A s s.heap) (hS : va_S A s.heap H locs) (hF : ∀ q, va_A wc H.size q → A q) : ∀ U : State, U.heap = H → s.WarmedH U.vm → va_Pc av (PreC D ct wc H.size) av.toArray U := fun U hU hW =>
  ⟨rfl, by rw [hU], by rw [hU]; exact hP, va_K.moved hW.alike hK, hD.weaken (fun _ _ _ _ => trivial), hn.warm hW, hSK.warm hW, by rw [hU]; exact ((hZ.kept hS.2.1).narrow hF).moved hW.alike⟩
/-- contracts: of void, int, long, a reference -/
abbrev KV {S : Type} (l : Launch) (y : MethodName) (b : ByteArray) (nL : Nat) (ret : Option FieldType) (fr lo : Nat) (D : va_G) (ct : Nat → ClassId) (av : List Value) (wc : va_W) (mc ms : Nat) (post : S → Prop) (w1 : S → va_W) : Prop :=
  ∀ sz : Nat, Met l y [Cond.code y b nL ret] ({ frames := fr, cells := mc, slots := ms, locals := lo }) (va_Pc av (PreC D ct wc sz)) (va_Qv post (PoC D (va_A wc sz) w1) (va_A wc sz)) mc ms (va_A wc sz)
abbrev KI {S : Type} (l : Launch) (y : MethodName) (b : ByteArray) (nL : Nat) (ret : Option FieldType) (fr lo : Nat) (D : va_G) (ct : Nat → ClassId) (av : List Value) (wc : va_W) (mc ms : Nat) (post : Int32 → S → Prop) (w1 : S → va_W) : Prop :=
  ∀ sz : Nat, Met l y [Cond.code y b nL ret] ({ frames := fr, cells := mc, slots := ms, locals := lo }) (va_Pc av (PreC D ct wc sz)) (va_Qi post (PoC D (va_A wc sz) w1) (va_A wc sz)) mc ms (va_A wc sz)
abbrev KL {S : Type} (l : Launch) (y : MethodName) (b : ByteArray) (nL : Nat) (ret : Option FieldType) (fr lo : Nat) (D : va_G) (ct : Nat → ClassId) (av : List Value) (wc : va_W) (mc ms : Nat) (post : Int64 → S → Prop) (w1 : S → va_W) : Prop :=
  ∀ sz : Nat, Met l y [Cond.code y b nL ret] ({ frames := fr, cells := mc, slots := ms, locals := lo }) (va_Pc av (PreC D ct wc sz)) (va_Ql post (PoC D (va_A wc sz) w1) (va_A wc sz)) mc ms (va_A wc sz)
/-- what a method's walk begins with -/
def CxB (p : Program) (s : State) (m : MethodId) (meth : Method) (c : Code) (y : MethodName) (b : ByteArray) (nL : Nat) (ret : Option FieldType) (D : va_G) (ct : Nat → ClassId) (A : Nat → Prop) : Prop :=
  p.tables.exec = Jvm.exec ∧ c.code = b ∧ meth.sig.returnType = ret ∧ s.vm.findClass y.cls = some m.cls ∧ meth.name = y.name ∧ c.maxLocals = nL ∧ meth.locks = false ∧ nwOK s ∧ va_K D vwCl (TY ct) s ∧ ZS ct A s s.heap ∧ SK ct s
theorem K_of {l : Launch} {y : MethodName} {b : ByteArray} {nL : Nat} {ret : Option FieldType} {fr lo mc ms : Nat} {D : va_G} {ct : Nat → ClassId} {av : List Value} {wc : va_W} {Qf : (Nat → Prop) → Array Value → State → Outcome → State → Prop} (sz : Nat) (hy : plainName y.cls = true) (hlen : (lg_sl av).length ≤ nL)
    (body : ∀ (p : Program) (e : Env) (s : State) (m : MethodId) (below : List Frame) (meth : Method) (c : Code) (A : Nat → Prop), CxB p s m meth c y b nL ret D ct A → (∀ q, s.heap.size ≤ q → A q) → va_S A s.heap s.heap [] → va_P D vwCl wc s.heap → va_D A wc → ∀ ls : Array Slot, lv_has ls nL (lv_args 0 av) →
      W p l e ({ frames := fr, cells := mc, slots := ms, locals := lo }) s m av.toArray below meth c s.heap [] 0 0 (MQ below (Qf A) av.toArray s mc ms A) (F0 m 0 ls [])) :
    Met l y [Cond.code y b nL ret] ({ frames := fr, cells := mc, slots := ms, locals := lo }) (va_Pc av (PreC D ct wc sz)) (Qf (va_A wc sz)) mc ms (va_A wc sz) := by
  refine Met.ofW (cc := b) (maxL := nL) (ret := ret) hy rfl ?_
  intro p e s m args below meth c s₁ B hml hv
  obtain ⟨rfl, hsz, hP, hK, hD0, hn, hSK, hZ⟩ := hv
  have hown : s.vm.findClass y.cls = some m.cls := findClass_of_methodNamed B.named
  have hin : meth.name = y.name := (name_of_methodNamed B.named B.method).1
  subst hsz
  have hD := hD0.self (sz := s.heap.size)
  have hl := lv_entry av (n := nL) hlen
  rw [lg_entry_eq]
  exact body p e s m below meth c (va_A wc s.heap.size) ⟨B.exec, B.bytes, B.returns, hown, hin, hml, B.notSynchronized, hn, hK, hZ, hSK⟩ (fun q h => Or.inr h) va_S.rf hP hD _ hl
theorem KV_of {S : Type} {l : Launch} {y : MethodName} {b : ByteArray} {nL : Nat} {ret : Option FieldType} {fr lo mc ms : Nat} {D : va_G} {ct : Nat → ClassId} {av : List Value} {wc : va_W} {post : S → Prop} {w1 : S → va_W} (hy : plainName y.cls = true) (hlen : (lg_sl av).length ≤ nL)
    (body : ∀ (p : Program) (e : Env) (s : State) (m : MethodId) (below : List Frame) (meth : Method) (c : Code) (A : Nat → Prop), CxB p s m meth c y b nL ret D ct A → (∀ q, s.heap.size ≤ q → A q) → va_S A s.heap s.heap [] → va_P D vwCl wc s.heap → va_D A wc → ∀ ls : Array Slot, lv_has ls nL (lv_args 0 av) →
      W p l e ({ frames := fr, cells := mc, slots := ms, locals := lo }) s m av.toArray below meth c s.heap [] 0 0 (MQ below (va_Qv post (PoC D A w1) A) av.toArray s mc ms A) (F0 m 0 ls [])) :
    KV l y b nL ret fr lo D ct av wc mc ms post w1 := fun sz => K_of (Qf := fun A => va_Qv post (PoC D A w1) A) sz hy hlen body
theorem KI_of {S : Type} {l : Launch} {y : MethodName} {b : ByteArray} {nL : Nat} {ret : Option FieldType} {fr lo mc ms : Nat} {D : va_G} {ct : Nat → ClassId} {av : List Value} {wc : va_W} {post : Int32 → S → Prop} {w1 : S → va_W} (hy : plainName y.cls = true) (hlen : (lg_sl av).length ≤ nL)
    (body : ∀ (p : Program) (e : Env) (s : State) (m : MethodId) (below : List Frame) (meth : Method) (c : Code) (A : Nat → Prop), CxB p s m meth c y b nL ret D ct A → (∀ q, s.heap.size ≤ q → A q) → va_S A s.heap s.heap [] → va_P D vwCl wc s.heap → va_D A wc → ∀ ls : Array Slot, lv_has ls nL (lv_args 0 av) →
      W p l e ({ frames := fr, cells := mc, slots := ms, locals := lo }) s m av.toArray below meth c s.heap [] 0 0 (MQ below (va_Qi post (PoC D A w1) A) av.toArray s mc ms A) (F0 m 0 ls [])) :
    KI l y b nL ret fr lo D ct av wc mc ms post w1 := fun sz => K_of (Qf := fun A => va_Qi post (PoC D A w1) A) sz hy hlen body
theorem KL_of {S : Type} {l : Launch} {y : MethodName} {b : ByteArray} {nL : Nat} {ret : Option FieldType} {fr lo mc ms : Nat} {D : va_G} {ct : Nat → ClassId} {av : List Value} {wc : va_W} {post : Int64 → S → Prop} {w1 : S → va_W} (hy : plainName y.cls = true) (hlen : (lg_sl av).length ≤ nL)
    (body : ∀ (p : Program) (e : Env) (s : State) (m : MethodId) (below : List Frame) (meth : Method) (c : Code) (A : Nat → Prop), CxB p s m meth c y b nL ret D ct A → (∀ q, s.heap.size ≤ q → A q) → va_S A s.heap s.heap [] → va_P D vwCl wc s.heap → va_D A wc → ∀ ls : Array Slot, lv_has ls nL (lv_args 0 av) →
      W p l e ({ frames := fr, cells := mc, slots := ms, locals := lo }) s m av.toArray below meth c s.heap [] 0 0 (MQ below (va_Ql post (PoC D A w1) A) av.toArray s mc ms A) (F0 m 0 ls [])) :
    KL l y b nL ret fr lo D ct av wc mc ms post w1 := fun sz => K_of (Qf := fun A => va_Ql post (PoC D A w1) A) sz hy hlen body
section CALLS
variable {p : Program} {l : Launch} {e : Env} {R : Room} {s : State} {m : MethodId} {args : Array Value} {below : List Frame} {meth : Method} {c : Code} {H H0 : Heap} {locs : List Loc} {cells slots : Nat} {Q : State → Prop} {A : Nat → Prop}
variable {D : va_G} {ct : Nat → ClassId} {ws wc wr : va_W} {own : String} {index nL maxL mc ms fr lo n k1 n1 pc : Nat} {y : MethodName} {bytes cc : ByteArray} {ret : Option FieldType} {b : Addr} {As rest : List Value} {ls : Array Slot} {Qc : Array Value → State → Outcome → State → Prop} {free : Addr → Prop}
abbrev okMH (y : MethodName) (n : Nat) : Prop := y.cls ≠ "java/lang/invoke/MethodHandle" ∧ y.cls ≠ "java/lang/invoke/VarHandle" ∧ (parseMethodDescriptor y.desc).map (fun d => d.parameters.length) = some n
theorem cb_of (hn : nwOK s) (hcode : Cond.code y bytes maxL ret ∈ lw_tbl) (hini : Cond.initialized y.cls ∈ lw_tbl) (hl : Cond.methodLink own index y ∈ lw_tbl) (hd : okMH y n) (hR : fr + 1 ≤ R.frames ∧ 8 + (maxL + 11) + lo ≤ R.locals) :
    CallB R s args own index y bytes maxL ret [Cond.code y bytes maxL ret] ({ frames := fr, cells := mc, slots := ms, locals := lo }) mc ms n := by
  refine ⟨rfl, rfl, hR.1, hR.2, fun w hw a' U hW => ?_, List.mem_cons_self, hn.get hcode rfl, hn.get hini rfl, ⟨hd.1, hd.2.1⟩, fun sig h => ?_, hn.get hl rfl⟩
  · have hw' : w = Cond.code y bytes maxL ret := by simpa using hw
    subst hw'
    exact okW_at hW rfl (hn.get (args := args) hcode rfl)
  · have h2 := hd.2.2
    rw [h] at h2
    exact (Option.some.inj h2).symm
theorem cn_of {host : String} (hn : nwOK s) (hcode : Cond.code y bytes maxL ret ∈ lw_tbl) (hini : Cond.initialized y.cls ∈ lw_tbl) (hl : Cond.methodLinkNest own index y host ∈ lw_tbl) (hd : okMH y n) (hR : fr + 1 ≤ R.frames ∧ 8 + (maxL + 11) + lo ≤ R.locals) :
    va_CN R s args own index y host bytes maxL ret [Cond.code y bytes maxL ret] ({ frames := fr, cells := mc, slots := ms, locals := lo }) mc ms n := by
  refine ⟨⟨rfl, rfl, hR.1, hR.2, fun w hw a' U hW => ?_, List.mem_cons_self⟩, hn.get hcode rfl, hn.get hini rfl, ⟨hd.1, hd.2.1⟩, fun sig h => ?_, hn.get hl rfl⟩
  · have hw' : w = Cond.code y bytes maxL ret := by simpa using hw
    subst hw'
    exact okW_at hW rfl (hn.get (args := args) hcode rfl)
  · have h2 := hd.2.2
    rw [h] at h2
    exact (Option.some.inj h2).symm
theorem fix0 (hx : p.tables.exec = Jvm.exec) (hb : c.code = cc) (hml : c.maxLocals = nL) (hown : s.vm.findClass own = some m.cls) : CallFix p m c cc nL s args [] own := ⟨hx, hb, hml, hown, fun _ h => absurd h List.not_mem_nil⟩
/-- a method of the same class, or a public one, by the receiver -/
theorem rn_V (hM : Met l y [Cond.code y bytes maxL ret] ({ frames := fr, cells := mc, slots := ms, locals := lo }) (va_Pc (Value.ref b :: As) (PreC D ct wc H.size)) Qc mc ms free)
    (cb : CallB R s args own index y bytes maxL ret [Cond.code y bytes maxL ret] ({ frames := fr, cells := mc, slots := ms, locals := lo }) mc ms n)
    (hx : p.tables.exec = Jvm.exec) (hb : c.code = cc) (hml : c.maxLocals = nL) (hown : s.vm.findClass own = some m.cls) (hn : nwOK s) (hK : va_K D vwCl (TY ct) s) (hSK : SK ct s) (hZ : ZS ct A s s.heap) (hS : va_S A s.heap H locs)
    (hinst : Cond.instanceMethod y ∈ lw_tbl) (hsel : Cond.selects y.cls y y ∈ lw_tbl) {ci q0 : Nat} {q : vw_C} {fs : List Value} (hc : vwCl[ci]? = some q) (hq : q.1 = y.cls) (he : wc[q0]? = some (b, .inr (ci, fs)))
    (hln : As.length = n) (hsize : ls.size = nL) (hW : (rest.map fun v => v.category).sum ≤ 8) (hdg : decode cc pc = .ok (.invokevirtual index, 3)) (hf : cells + mc ≤ R.cells ∧ slots + ms ≤ R.slots) (hP : va_P D vwCl wc H) (hD : va_D A wc) (hF : ∀ q, va_A wc H.size q → A q) :
    va_Run p l e R s m args below meth c H locs cells slots mc ms (F0 m pc ls (As.reverse ++ .ref b :: rest)) rest (Qc (Value.ref b :: As).toArray) free := by
  refine va_runV (C := y.cls) (fix0 hx hb hml hown) hM ⟨cb, hn.get hinst rfl, hn.get hsel rfl⟩ ⟨blindC, ?_, preC_of hP hK hD hn hSK hZ hS hF⟩ rfl hln hsize rfl (lv_room hW) hdg hf
  have h := va_recv hK hP hc he
  rw [hq] at h
  exact h
/-- a private method of a nest mate -/
theorem rn_VN {host : String} (hM : Met l y [Cond.code y bytes maxL ret] ({ frames := fr, cells := mc, slots := ms, locals := lo }) (va_Pc (Value.ref b :: As) (PreC D ct wc H.size)) Qc mc ms free)
    (cb : va_CN R s args own index y host bytes maxL ret [Cond.code y bytes maxL ret] ({ frames := fr, cells := mc, slots := ms, locals := lo }) mc ms n)
    (hx : p.tables.exec = Jvm.exec) (hb : c.code = cc) (hml : c.maxLocals = nL) (hown : s.vm.findClass own = some m.cls) (hn : nwOK s) (hK : va_K D vwCl (TY ct) s) (hSK : SK ct s) (hZ : ZS ct A s s.heap) (hS : va_S A s.heap H locs)
    (hinst : Cond.instanceMethod y ∈ lw_tbl) (hsel : Cond.selects y.cls y y ∈ lw_tbl) {ci q0 : Nat} {q : vw_C} {fs : List Value} (hc : vwCl[ci]? = some q) (hq : q.1 = y.cls) (he : wc[q0]? = some (b, .inr (ci, fs)))
    (hln : As.length = n) (hsize : ls.size = nL) (hW : (rest.map fun v => v.category).sum ≤ 8) (hdg : decode cc pc = .ok (.invokevirtual index, 3)) (hf : cells + mc ≤ R.cells ∧ slots + ms ≤ R.slots) (hP : va_P D vwCl wc H) (hD : va_D A wc) (hF : ∀ q, va_A wc H.size q → A q) :
    va_Run p l e R s m args below meth c H locs cells slots mc ms (F0 m pc ls (As.reverse ++ .ref b :: rest)) rest (Qc (Value.ref b :: As).toArray) free := by
  refine va_runVN (C := y.cls) (fix0 hx hb hml hown) hM ⟨cb, hn.get hinst rfl, hn.get hsel rfl⟩ ⟨blindC, ?_, preC_of hP hK hD hn hSK hZ hS hF⟩ rfl hln hsize rfl (lv_room hW) hdg hf
  have h := va_recv hK hP hc he
  rw [hq] at h
  exact h
theorem rn_S (hM : Met l y [Cond.code y bytes maxL ret] ({ frames := fr, cells := mc, slots := ms, locals := lo }) (va_Pc As (PreC D ct wc H.size)) Qc mc ms free)
    (cb : CallB R s args own index y bytes maxL ret [Cond.code y bytes maxL ret] ({ frames := fr, cells := mc, slots := ms, locals := lo }) mc ms n)
    (hx : p.tables.exec = Jvm.exec) (hb : c.code = cc) (hml : c.maxLocals = nL) (hown : s.vm.findClass own = some m.cls) (hn : nwOK s) (hK : va_K D vwCl (TY ct) s) (hSK : SK ct s) (hZ : ZS ct A s s.heap) (hS : va_S A s.heap H locs)
    (hstat : Cond.static y ∈ lw_tbl) (hln : As.length = n) (hsize : ls.size = nL) (hW : (rest.map fun v => v.category).sum ≤ 8) (hdg : decode cc pc = .ok (.invokestatic index, 3)) (hf : cells + mc ≤ R.cells ∧ slots + ms ≤ R.slots) (hP : va_P D vwCl wc H) (hD : va_D A wc) (hF : ∀ q, va_A wc H.size q → A q) :
    va_Run p l e R s m args below meth c H locs cells slots mc ms (F0 m pc ls (As.reverse ++ rest)) rest (Qc As.toArray) free :=
  va_runS (fix0 hx hb hml hown) hM ⟨cb, hn.get hstat rfl⟩ ⟨blindC, preC_of hP hK hD hn hSK hZ hS hF⟩ rfl hln hsize rfl (lv_room hW) hdg hf
theorem rn_SN {host : String} (hM : Met l y [Cond.code y bytes maxL ret] ({ frames := fr, cells := mc, slots := ms, locals := lo }) (va_Pc As (PreC D ct wc H.size)) Qc mc ms free)
    (cb : va_CN R s args own index y host bytes maxL ret [Cond.code y bytes maxL ret] ({ frames := fr, cells := mc, slots := ms, locals := lo }) mc ms n)
    (hx : p.tables.exec = Jvm.exec) (hb : c.code = cc) (hml : c.maxLocals = nL) (hown : s.vm.findClass own = some m.cls) (hn : nwOK s) (hK : va_K D vwCl (TY ct) s) (hSK : SK ct s) (hZ : ZS ct A s s.heap) (hS : va_S A s.heap H locs)
    (hstat : Cond.static y ∈ lw_tbl) (hln : As.length = n) (hsize : ls.size = nL) (hW : (rest.map fun v => v.category).sum ≤ 8) (hdg : decode cc pc = .ok (.invokestatic index, 3)) (hf : cells + mc ≤ R.cells ∧ slots + ms ≤ R.slots) (hP : va_P D vwCl wc H) (hD : va_D A wc) (hF : ∀ q, va_A wc H.size q → A q) :
    va_Run p l e R s m args below meth c H locs cells slots mc ms (F0 m pc ls (As.reverse ++ rest)) rest (Qc As.toArray) free :=
  va_runSN (fix0 hx hb hml hown) hM ⟨cb, hn.get hstat rfl, trivial⟩ ⟨blindC, preC_of hP hK hD hn hSK hZ hS hF⟩ rfl hln hsize rfl (lv_room hW) hdg hf
theorem rn_I (hM : Met l y [Cond.code y bytes maxL none] ({ frames := fr, cells := mc, slots := ms, locals := lo }) (va_Pc (Value.ref b :: As) (PreC D ct wc H.size)) Qc mc ms free)
    (cb : CallB R s args own index y bytes maxL none [Cond.code y bytes maxL none] ({ frames := fr, cells := mc, slots := ms, locals := lo }) mc ms n)
    (hx : p.tables.exec = Jvm.exec) (hb : c.code = cc) (hml : c.maxLocals = nL) (hown : s.vm.findClass own = some m.cls) (hn : nwOK s) (hK : va_K D vwCl (TY ct) s) (hSK : SK ct s) (hZ : ZS ct A s s.heap) (hS : va_S A s.heap H locs)
    (hinst : Cond.instanceMethod y ∈ lw_tbl) (hin : y.name = "<init>") (hln : As.length = n) (hsize : ls.size = nL) (hW : (rest.map fun v => v.category).sum ≤ 8) (hdg : decode cc pc = .ok (.invokespecial index, 3)) (hf : cells + mc ≤ R.cells ∧ slots + ms ≤ R.slots) (hP : va_P D vwCl wc H) (hD : va_D A wc) (hF : ∀ q, va_A wc H.size q → A q) :
    va_Run p l e R s m args below meth c H locs cells slots mc ms (F0 m pc ls (As.reverse ++ .ref b :: rest)) rest (Qc (Value.ref b :: As).toArray) free :=
  va_runI (fix0 hx hb hml hown) hM ⟨cb, hin, hn.get hinst rfl⟩ ⟨blindC, preC_of hP hK hD hn hSK hZ hS hF⟩ rfl hln hsize rfl (lv_room hW) hdg hf
theorem rn_IN {host : String} (hM : Met l y [Cond.code y bytes maxL none] ({ frames := fr, cells := mc, slots := ms, locals := lo }) (va_Pc (Value.ref b :: As) (PreC D ct wc H.size)) Qc mc ms free)
    (cb : va_CN R s args own index y host bytes maxL none [Cond.code y bytes maxL none] ({ frames := fr, cells := mc, slots := ms, locals := lo }) mc ms n)
    (hx : p.tables.exec = Jvm.exec) (hb : c.code = cc) (hml : c.maxLocals = nL) (hown : s.vm.findClass own = some m.cls) (hn : nwOK s) (hK : va_K D vwCl (TY ct) s) (hSK : SK ct s) (hZ : ZS ct A s s.heap) (hS : va_S A s.heap H locs)
    (hinst : Cond.instanceMethod y ∈ lw_tbl) (hin : y.name = "<init>") (hln : As.length = n) (hsize : ls.size = nL) (hW : (rest.map fun v => v.category).sum ≤ 8) (hdg : decode cc pc = .ok (.invokespecial index, 3)) (hf : cells + mc ≤ R.cells ∧ slots + ms ≤ R.slots) (hP : va_P D vwCl wc H) (hD : va_D A wc) (hF : ∀ q, va_A wc H.size q → A q) :
    va_Run p l e R s m args below meth c H locs cells slots mc ms (F0 m pc ls (As.reverse ++ .ref b :: rest)) rest (Qc (Value.ref b :: As).toArray) free :=
  va_runIN (fix0 hx hb hml hown) hM ⟨cb, hin, hn.get hinst rfl⟩ ⟨blindC, preC_of hP hK hD hn hSK hZ hS hF⟩ rfl hln hsize rfl (lv_room hW) hdg hf
theorem fm_of {is : List Nat} {ws wc : va_W} (h : is.map (fun i => ws[i]?) = wc.map some) : is.filterMap (fun i => ws[i]?) = wc := by
  induction is generalizing wc with
  | nil => cases wc with
    | nil => rfl
    | cons a b => cases h
  | cons i is ih => cases wc with
    | nil => cases h
    | cons a b =>
      simp only [List.map_cons, List.cons.injEq] at h
      rw [List.filterMap_cons, h.1]
      show a :: _ = a :: b
      rw [ih h.2]
/-- behind the call: the callee's places isC of the world, the rest's isR -/
theorem go_v {S : Type} {post : S → Prop} {w1 : S → va_W} {a : Array Value} {st0 : List Value} (isC isR : List Nat) (hr0 : va_P D vwCl wc H → va_D A wc → (∀ q, va_A wc H.size q → A q) → va_Run p l e R s m args below meth c H locs cells slots mc ms (F0 m pc ls st0) rest (va_Qv post (PoC D (va_A wc H.size) w1) (va_A wc H.size) a) (va_A wc H.size))
    (hP : va_P D vwCl ws H) (hD : va_D A ws) (hS : va_S A H0 H locs) (hA : ∀ q, H0.size ≤ q → A q) (hC : isC.map (fun i => ws[i]?) = wc.map some) (hR : isR.map (fun i => ws[i]?) = wr.map some) (hnc : va_nd isC = true) (hnd : va_nd isR = true) (hdis : ∀ i ∈ isR, i ∉ isC) (h1 : cells + mc ≤ k1) (h2 : slots + ms ≤ n1)
    (kk : ∀ (u : S) (H1 : Heap) (locs1 : List Loc), post u → va_P D vwCl (wr ++ w1 u) H1 → va_D A (wr ++ w1 u) → va_S A H0 H1 locs1 → W p l e R s m args below meth c H1 locs1 k1 n1 Q (F0 m (pc + 3) ls rest)) : W p l e R s m args below meth c H locs cells slots Q (F0 m pc ls st0) := by
  have hF := va_free hD hS hA isC hC
  have hr := hr0 (hP.sub isC (fm_of hC)) (hD.sub isC hnc hC) hF
  refine va_callv hr hS (fun q _ h => hF q h) hF (fun u t H1 locs1 ht hvm hpost hB hsz hk hS1 => ?_)
  obtain ⟨hP1, hD1⟩ := hB
  rw [ht] at hP1
  obtain ⟨hP2, hD2⟩ := va_join hP hD isC isR hC hR hnd hdis hk hF hP1 hD1
  exact W.widen h1 h2 (kk u H1 locs1 hpost hP2 hD2 hS1)
theorem go_i {S : Type} {post : Int32 → S → Prop} {w1 : S → va_W} {a : Array Value} {st0 : List Value} (isC isR : List Nat) (hr0 : va_P D vwCl wc H → va_D A wc → (∀ q, va_A wc H.size q → A q) → va_Run p l e R s m args below meth c H locs cells slots mc ms (F0 m pc ls st0) rest (va_Qi post (PoC D (va_A wc H.size) w1) (va_A wc H.size) a) (va_A wc H.size))
    (hP : va_P D vwCl ws H) (hD : va_D A ws) (hS : va_S A H0 H locs) (hA : ∀ q, H0.size ≤ q → A q) (hC : isC.map (fun i => ws[i]?) = wc.map some) (hR : isR.map (fun i => ws[i]?) = wr.map some) (hnc : va_nd isC = true) (hnd : va_nd isR = true) (hdis : ∀ i ∈ isR, i ∉ isC) (h1 : cells + mc ≤ k1) (h2 : slots + ms ≤ n1)
    (kk : ∀ (r : Int32) (u : S) (H1 : Heap) (locs1 : List Loc), post r u → va_P D vwCl (wr ++ w1 u) H1 → va_D A (wr ++ w1 u) → va_S A H0 H1 locs1 → W p l e R s m args below meth c H1 locs1 k1 n1 Q (F0 m (pc + 3) ls (.int r :: rest))) : W p l e R s m args below meth c H locs cells slots Q (F0 m pc ls st0) := by
  have hF := va_free hD hS hA isC hC
  have hr := hr0 (hP.sub isC (fm_of hC)) (hD.sub isC hnc hC) hF
  refine va_calli hr hS (fun q _ h => hF q h) hF (fun r u t H1 locs1 ht hvm hpost hB hsz hk hS1 => ?_)
  obtain ⟨hP1, hD1⟩ := hB
  rw [ht] at hP1
  obtain ⟨hP2, hD2⟩ := va_join hP hD isC isR hC hR hnd hdis hk hF hP1 hD1
  exact W.widen h1 h2 (kk r u H1 locs1 hpost hP2 hD2 hS1)
theorem go_l {S : Type} {post : Int64 → S → Prop} {w1 : S → va_W} {a : Array Value} {st0 : List Value} (isC isR : List Nat) (hr0 : va_P D vwCl wc H → va_D A wc → (∀ q, va_A wc H.size q → A q) → va_Run p l e R s m args below meth c H locs cells slots mc ms (F0 m pc ls st0) rest (va_Ql post (PoC D (va_A wc H.size) w1) (va_A wc H.size) a) (va_A wc H.size))
    (hP : va_P D vwCl ws H) (hD : va_D A ws) (hS : va_S A H0 H locs) (hA : ∀ q, H0.size ≤ q → A q) (hC : isC.map (fun i => ws[i]?) = wc.map some) (hR : isR.map (fun i => ws[i]?) = wr.map some) (hnc : va_nd isC = true) (hnd : va_nd isR = true) (hdis : ∀ i ∈ isR, i ∉ isC) (h1 : cells + mc ≤ k1) (h2 : slots + ms ≤ n1)
    (kk : ∀ (r : Int64) (u : S) (H1 : Heap) (locs1 : List Loc), post r u → va_P D vwCl (wr ++ w1 u) H1 → va_D A (wr ++ w1 u) → va_S A H0 H1 locs1 → W p l e R s m args below meth c H1 locs1 k1 n1 Q (F0 m (pc + 3) ls (.long r :: rest))) : W p l e R s m args below meth c H locs cells slots Q (F0 m pc ls st0) := by
  have hF := va_free hD hS hA isC hC
  have hr := hr0 (hP.sub isC (fm_of hC)) (hD.sub isC hnc hC) hF
  refine va_calll hr hS (fun q _ h => hF q h) hF (fun r u t H1 locs1 ht hvm hpost hB hsz hk hS1 => ?_)
  obtain ⟨hP1, hD1⟩ := hB
  rw [ht] at hP1
  obtain ⟨hP2, hD2⟩ := va_join hP hD isC isR hC hR hnd hdis hk hF hP1 hD1
  exact W.widen h1 h2 (kk r u H1 locs1 hpost hP2 hD2 hS1)
/-- the ends -/
theorem end_v {S : Type} {post : S → Prop} {w1 : S → va_W} (hx : p.tables.exec = Jvm.exec) (hb : c.code = cc) (hr : meth.sig.returnType = none) (hlocks : meth.locks = false) (hdg : decode cc pc = .ok (.return_, 1)) (u : S) (hpost : post u) (hP : va_P D vwCl ws H) (hD : va_D A ws) (hS : va_S A s.heap H locs)
    (is : List Nat) (hs : is.filterMap (fun i => ws[i]?) = w1 u) (hnd : va_nd is = true) (hs2 : is.map (fun i => ws[i]?) = (w1 u).map some) (h1 : cells ≤ mc) (h2 : slots ≤ ms) : W p l e R s m args below meth c H locs cells slots (MQ below (va_Qv post (PoC D A w1) A) args s mc ms A) (F0 m pc ls []) := by
  refine W.widen h1 h2 ?_
  exact W.vret hx hb hr (fun t ht hW => ⟨⟨u, rfl, hpost, by rw [ht]; exact hP.sub is hs, hD.sub is hnd hs2⟩, hS.F ht⟩) hS.2.2 hdg
theorem end_i {S : Type} {post : Int32 → S → Prop} {w1 : S → va_W} {ty : FieldType} (hx : p.tables.exec = Jvm.exec) (hb : c.code = cc) (hr : meth.sig.returnType = some ty) (hlocks : meth.locks = false) (hdg : decode cc pc = .ok (.ireturn, 1)) {r : Int32} (hnar : narrow ty (.int r) = .int r) (u : S) (hpost : post r u) (hP : va_P D vwCl ws H) (hD : va_D A ws) (hS : va_S A s.heap H locs)
    (is : List Nat) (hs : is.filterMap (fun i => ws[i]?) = w1 u) (hnd : va_nd is = true) (hs2 : is.map (fun i => ws[i]?) = (w1 u).map some) (h1 : cells ≤ mc) (h2 : slots ≤ ms) : W p l e R s m args below meth c H locs cells slots (MQ below (va_Qi post (PoC D A w1) A) args s mc ms A) (F0 m pc ls [.int r]) := by
  refine W.widen h1 h2 ?_
  exact W.zret hx hb hr hnar (fun t ht hW => ⟨⟨r, u, rfl, hpost, by rw [ht]; exact hP.sub is hs, hD.sub is hnd hs2⟩, hS.F ht⟩) hS.2.2 hdg
theorem end_l {S : Type} {post : Int64 → S → Prop} {w1 : S → va_W} (hx : p.tables.exec = Jvm.exec) (hb : c.code = cc) (hr : meth.sig.returnType = some .long) (hlocks : meth.locks = false) (hdg : decode cc pc = .ok (.lreturn, 1)) {r : Int64} (u : S) (hpost : post r u) (hP : va_P D vwCl ws H) (hD : va_D A ws) (hS : va_S A s.heap H locs)
    (is : List Nat) (hs : is.filterMap (fun i => ws[i]?) = w1 u) (hnd : va_nd is = true) (hs2 : is.map (fun i => ws[i]?) = (w1 u).map some) (h1 : cells ≤ mc) (h2 : slots ≤ ms) : W p l e R s m args below meth c H locs cells slots (MQ below (va_Ql post (PoC D A w1) A) args s mc ms A) (F0 m pc ls [.long r]) := by
  refine W.widen h1 h2 ?_
  exact W.lret hx hb hr (fun t ht hW => ⟨⟨r, u, rfl, hpost, by rw [ht]; exact hP.sub is hs, hD.sub is hnd hs2⟩, hS.F ht⟩) hS.2.2 hdg
/-- a computed number that is known -/
theorem top_c {x v : Int32} (h : x = v) (k : W p l e R s m args below meth c H locs cells slots Q (F0 m pc ls (.int v :: rest))) : W p l e R s m args below meth c H locs cells slots Q (F0 m pc ls (.int x :: rest)) := by
  rw [h]; exact k
theorem top_l {x v : Int64} (h : x = v) (k : W p l e R s m args below meth c H locs cells slots Q (F0 m pc ls (.long v :: rest))) : W p l e R s m args below meth c H locs cells slots Q (F0 m pc ls (.long x :: rest)) := by
  rw [h]; exact k
/-- a new array, of the array class that the tables have -/
theorem na_ty {ty : FieldType} {a b : ClassId} (ha : va_RA s a ty) (hb : va_RA s b ty) : a = b := by
  cases ty with
  | object C =>
    obtain ⟨_, _, -, -, -, h1⟩ := ha
    obtain ⟨_, _, -, -, -, h2⟩ := hb
    exact Option.some.inj (h1.symm.trans h2)
  | _ => exact Option.some.inj (Eq.trans (Eq.symm ha) hb)
theorem na_new (hexec : p.tables.exec = Jvm.exec) (hb : c.code = cc) {atype : ArrayType} {ty : FieldType} (hn0 : nwOK s) (harr : Cond.arrayClass (newarray.typeOf atype) ∈ lw_tbl) (hty : newarray.typeOf atype = ty) (hK : va_K D vwCl (TY ct) s) (hP : va_P D vwCl ws H) (hD : va_D A ws) (hS : va_S A H0 H locs) (hA : ∀ q, H0.size ≤ q → A q)
    (t0 : Nat) {cX : ClassId} (ht : (TY ct)[t0]? = some (cX, ty)) {n : Int32} (N' : Nat) (a0 : vp_A) (ha : ∀ cA : ClassId, vp_cell cA a0 = arrV cA N' (fun _ => defaultValue ty)) (hn : ¬ n < 0) (hN : n.toNatClampNeg = N') (hbytes : N' * componentBytes ty ≤ 536870912) (h1 : cells + 1 ≤ k1) (h2 : slots + N' ≤ n1) (hcells : k1 ≤ R.cells) (hslots : n1 ≤ R.slots) (hdg : decode cc pc = .ok (.newarray atype, 2))
    (kk : ∀ (q : Nat) (H1 : Heap), va_P D vwCl (ws ++ [(q, .inl (cX, a0))]) H1 → va_D A (ws ++ [(q, .inl (cX, a0))]) → va_S A H0 H1 locs → W p l e R s m args below meth c H1 locs k1 n1 Q (F0 m (pc + 2) ls (.ref q :: rest))) : W p l e R s m args below meth c H locs cells slots Q (F0 m pc ls (.int n :: rest)) := by
  refine va_newa (a0 := a0) hexec hb (hn0.get harr rfl) hty hK hP hD hS hA ha hn hN hbytes (Nat.le_trans h1 hcells) (Nat.le_trans h2 hslots) hdg (fun q cA H1 hK1 hP1 hD1 hS1 => ?_)
  have e : cA = cX := na_ty (hK1.2 (TY ct).length (cA, ty) (by simp)).2 (hK.2 t0 (cX, ty) ht).2
  subst e
  exact W.widen h1 h2 (kk q H1 hP1 hD1 hS1)
theorem na_newq (hexec : p.tables.exec = Jvm.exec) (hb : c.code = cc) {C : String} (hn0 : nwOK s) (hown : s.vm.findClass own = some m.cls) (hclink : Cond.classLink own index C ∈ lw_tbl) (hover : va_AO C s) (hK : va_K D vwCl (TY ct) s) (hP : va_P D vwCl ws H) (hD : va_D A ws) (hS : va_S A H0 H locs) (hA : ∀ q, H0.size ≤ q → A q)
    (t0 : Nat) {cX : ClassId} (ht : (TY ct)[t0]? = some (cX, .object C)) {n : Int32} (N' : Nat) (hn : ¬ n < 0) (hN : n.toNatClampNeg = N') (hbytes : N' * 4 ≤ 536870912) (h1 : cells + 1 ≤ k1) (h2 : slots + N' ≤ n1) (hcells : k1 ≤ R.cells) (hslots : n1 ≤ R.slots) (hdg : decode cc pc = .ok (.anewarray index, 3))
    (kk : ∀ (q : Nat) (H1 : Heap), va_P D vwCl (ws ++ [(q, .inl (cX, N', .inr (.inr (.inr (.inr (fun _ => none))))))]) H1 → va_D A (ws ++ [(q, .inl (cX, N', .inr (.inr (.inr (.inr (fun _ => none))))))]) → va_S A H0 H1 locs → W p l e R s m args below meth c H1 locs k1 n1 Q (F0 m (pc + 3) ls (.ref q :: rest))) : W p l e R s m args below meth c H locs cells slots Q (F0 m pc ls (.int n :: rest)) := by
  refine va_newq hexec hb hown (hn0.get hclink rfl) hover hK hP hD hS hA hn hN hbytes (Nat.le_trans h1 hcells) (Nat.le_trans h2 hslots) hdg (fun q cA H1 hK1 hP1 hD1 hS1 => ?_)
  have e : cA = cX := na_ty (hK1.2 (TY ct).length (cA, .object C) (by simp)).2 (hK.2 t0 (cX, .object C) ht).2
  subst e
  exact W.widen h1 h2 (kk q H1 hP1 hD1 hS1)
end CALLS
/-! small facts of numbers -/
theorem nn_lt {x y : Int32} {a b : Nat} (hx : x = nI a) (hy : y = nI b) (ha : a < 2 ^ 31) (hb : b < 2 ^ 31) : x < y ↔ a < b := by
  subst hx; subst hy; exact nI_ltI ha hb
theorem nn_le {x y : Int32} {a b : Nat} (hx : x = nI a) (hy : y = nI b) (ha : a < 2 ^ 31) (hb : b < 2 ^ 31) : x ≤ y ↔ a ≤ b := by
  subst hx; subst hy; exact nI_leI ha hb
theorem nn_nlt {x y : Int32} {a b : Nat} (hx : x = nI a) (hy : y = nI b) (ha : a < 2 ^ 31) (hb : b < 2 ^ 31) (h : b ≤ a) : ¬ x < y := fun h1 => absurd ((nn_lt hx hy ha hb).mp h1) (Nat.not_lt.mpr h)
theorem nle_of_nlt {x y : Int32} (h : ¬ x < y) : y ≤ x := Int32.not_lt.mp h
theorem cmp_m1 {j : Int64} {z1 z2 : Int32} (e1 : z1 = lg_cmp j 0) (e2 : z2 = lg_cmp j (-1)) (h : ¬ z1 < 0) : ¬ z2 < 0 := by
  subst e1; subst e2
  intro h2
  have h3 : 0 ≤ lg_cmp j 0 := Int32.not_lt.mp h
  have h4 := (lg_cmp_ge j 0).mp h3
  have h5 : ¬ 0 ≤ lg_cmp j (-1) := Int32.not_le.mpr h2
  refine h5 ((lg_cmp_ge j (-1)).mpr ?_)
  rw [Int64.le_iff_toInt_le] at h4 ⊢
  have a : (0 : Int64).toInt = 0 := by decide
  have b : (-1 : Int64).toInt = -1 := by decide
  omega
theorem fs_ne {fs : List Value} {j k : Nat} {v w : Value} (h : j ≠ k) (hj : fs[j]? = some w) : (fs.set k v)[j]? = some w := by
  rw [List.getElem?_set_ne (fun e => h e.symm)]; exact hj
theorem fs_eq {fs : List Value} {k : Nat} {v : Value} (h : k < fs.length) : (fs.set k v)[k]? = some v := by
  rw [List.getElem?_set_self h]
theorem okW_of {w : Cond} (h : (w.onTables && w.keeps) = true ∨ ∃ ty, w = .arrayClass ty) : okW w = true := by
  unfold okW
  rcases h with h | ⟨ty, rfl⟩
  · have : goodWord w = true := by
      cases w <;> first | rfl | exact h
    simp [this]
  · rfl
