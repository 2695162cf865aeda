/-! trees that lie in a pool, and what is told of them at once -/
def SUB (cs pl : va_W) : Prop := ∀ c ∈ cs, c ∈ pl
theorem SUB.rf (cs : va_W) : SUB cs cs := fun _ h => h
theorem SUB.tr {a b c : va_W} (h : SUB a b) (h2 : SUB b c) : SUB a c := fun x hx => h2 x (h x hx)
theorem SUB.l {a b c : va_W} (h : SUB (a ++ b) c) : SUB a c := fun x hx => h x (List.mem_append_left _ hx)
theorem SUB.r {a b c : va_W} (h : SUB (a ++ b) c) : SUB b c := fun x hx => h x (List.mem_append_right _ hx)
def ST.is1 (T : ST) (k : Int32) (v : Int64) (x : ST) (z : Int32) : Prop := T.fs = [.int k, .long v, .ref x.root, .null, .int z] ∧ x.ok ∧ T.sz = x.sz + 1 ∧ T.dep = x.dep + 1 ∧ SUB x.cells T.cells
def ST.is2 (T : ST) (v : Int64) (x y : ST) : Prop := T.fs = [.int 2, .long v, .ref x.root, .ref y.root, .int 0] ∧ x.ok ∧ y.ok ∧ T.sz = x.sz + y.sz + 1 ∧ x.dep ≤ T.dep ∧ y.dep + 1 ≤ T.dep ∧ T.c4 = x.c4 + y.c4 ∧ SUB x.cells T.cells ∧ SUB y.cells T.cells
def ST.two_ (T : ST) : Prop := ∃ v x y, T.is2 v x y
section STC
variable {T : ST} {pl : va_W}
theorem ST.mem (h : T.ok) : (T.root, T.ent) ∈ T.cells := by
  obtain ⟨n, h⟩ := h
  cases n with
  | zero => exact h.elim
  | succ n =>
    rcases h with ⟨a, b, v, rfl⟩ | ⟨a, x, -, rfl⟩ | ⟨a, x, -, rfl⟩ | ⟨a, v, x, z, -, -, rfl⟩ | ⟨a, v, x, y, -, -, rfl⟩ <;> exact List.mem_append_right _ (List.mem_singleton.mpr rfl)
theorem ST.cases_ (h : T.ok) : (∃ v, T.fs = [.int 0, .long v, .null, .null, .int 0] ∧ T.sz = 1 ∧ T.c4 = 0) ∨ (∃ v, T.fs = [.int 1, .long v, .null, .null, .int 0] ∧ T.sz = 1 ∧ T.c4 = 0) ∨ (∃ v x y, T.is2 v x y) ∨ (∃ x, T.is1 3 0 x 0 ∧ T.c4 = x.c4) ∨ (∃ v x z, T.is1 4 v x z ∧ (1 ≤ z.toInt ∧ z.toInt ≤ 4) ∧ z.toInt = 4 ∧ T.c4 = x.c4 + 1) ∨ (∃ v x z, T.is1 4 v x z ∧ (1 ≤ z.toInt ∧ z.toInt ≤ 4) ∧ z.toInt ≠ 4 ∧ T.c4 = x.c4) ∨ (∃ x, T.is1 5 0 x 0 ∧ T.c4 = x.c4) := by
  obtain ⟨n, h⟩ := h
  cases n with
  | zero => exact h.elim
  | succ n =>
    rcases h with ⟨a, b, v, rfl⟩ | ⟨a, x, hx, rfl⟩ | ⟨a, x, hx, rfl⟩ | ⟨a, v, x, z, hx, hz, rfl⟩ | ⟨a, v, x, y, hx, hy, rfl⟩
    · cases b
      · exact Or.inl ⟨v, rfl, rfl, rfl⟩
      · exact Or.inr (Or.inl ⟨v, rfl, rfl, rfl⟩)
    · exact Or.inr (Or.inr (Or.inr (Or.inl ⟨x, ⟨rfl, ⟨n, hx⟩, rfl, rfl, fun c hc => List.mem_append_left _ hc⟩, rfl⟩)))
    · exact Or.inr (Or.inr (Or.inr (Or.inr (Or.inr (Or.inr ⟨x, ⟨rfl, ⟨n, hx⟩, rfl, rfl, fun c hc => List.mem_append_left _ hc⟩, rfl⟩)))))
    · by_cases h4 : z = 4
      · exact Or.inr (Or.inr (Or.inr (Or.inr (Or.inl ⟨v, x, z, ⟨rfl, ⟨n, hx⟩, rfl, rfl, fun c hc => List.mem_append_left _ hc⟩, hz, (congrArg Int32.toInt h4).trans (by decide), by rw [ST.c4_acc, if_pos h4]⟩))))
      · exact Or.inr (Or.inr (Or.inr (Or.inr (Or.inr (Or.inl ⟨v, x, z, ⟨rfl, ⟨n, hx⟩, rfl, rfl, fun c hc => List.mem_append_left _ hc⟩, hz, fun h5 => h4 (Int32.toInt_inj.mp (h5.trans (by decide))), by rw [ST.c4_acc, if_neg h4, Nat.add_zero]⟩)))))
    · exact Or.inr (Or.inr (Or.inl ⟨v, x, y, rfl, ⟨n, hx⟩, ⟨n, hy⟩, rfl, Nat.le_max_left _ _, Nat.le_max_right _ _, rfl, fun c hc => List.mem_append_left _ (List.mem_append_left _ hc), fun c hc => List.mem_append_left _ (List.mem_append_right _ hc)⟩))
theorem ST.nodeP {fs : List Value} (h : T.ok) (hs : SUB T.cells pl) (hf : T.fs = fs) : ((T.root, .inr (14, fs)) : Nat × va_E) ∈ pl := by
  have h1 := hs _ (ST.mem h)
  rw [ST.ent, hf] at h1
  exact h1
end STC
/-- the sums on the left sides' way from T to X, in their order -/
def Chain (g : Nat → Option Nat) : Nat → Nat → ST → ST → Prop
  | _, 0, T, X => T = X
  | k, n + 1, T, X => ∃ v x y, T.is2 v x y ∧ g k = some T.root ∧ Chain g (k + 1) n x X
section CHAIN
variable {g g2 : Nat → Option Nat}
theorem Chain.push : ∀ {n k : Nat} {T X : ST} {v : Int64} {x y : ST}, Chain g k n T X → X.is2 v x y → g (k + n) = some X.root → Chain g k (n + 1) T x
  | 0, k, T, X, v, x, y, h, h2, h3 => by
    cases h
    exact ⟨v, x, y, h2, h3, rfl⟩
  | n + 1, k, T, X, v, x, y, ⟨v1, x1, y1, a, b, c⟩, h2, h3 => ⟨v1, x1, y1, a, b, Chain.push c h2 (by rw [show k + 1 + n = k + (n + 1) by omega]; exact h3)⟩
theorem Chain.pop : ∀ {n k : Nat} {T X : ST}, Chain g k (n + 1) T X → ∃ X' v y, Chain g k n T X' ∧ X'.is2 v X y ∧ g (k + n) = some X'.root
  | 0, k, T, X, ⟨v, x, y, a, b, c⟩ => by
    cases c
    exact ⟨T, v, y, rfl, a, b⟩
  | n + 1, k, T, X, ⟨v, x, y, a, b, c⟩ => by
    obtain ⟨X', v', y', h1, h2, h3⟩ := Chain.pop c
    exact ⟨X', v', y', ⟨v, x, y, a, b, h1⟩, h2, by rw [show k + (n + 1) = k + 1 + n by omega]; exact h3⟩
theorem Chain.agree : ∀ {n k : Nat} {T X : ST}, (∀ j, j < k + n → g2 j = g j) → Chain g k n T X → Chain g2 k n T X
  | 0, _, _, _, _, h => h
  | n + 1, k, T, X, ha, ⟨v, x, y, a, b, c⟩ => ⟨v, x, y, a, (ha k (by omega)).trans b, Chain.agree (fun j hj => ha j (by omega)) c⟩
theorem Chain.facts : ∀ {n k : Nat} {T X : ST}, Chain g k n T X → X.sz + n ≤ T.sz ∧ X.dep ≤ T.dep ∧ X.c4 ≤ T.c4 ∧ SUB X.cells T.cells ∧ (T.ok → X.ok)
  | 0, _, T, X, h => by
    cases h
    exact ⟨Nat.le_refl _, Nat.le_refl _, Nat.le_refl _, SUB.rf _, id⟩
  | n + 1, k, T, X, ⟨v, x, y, ⟨_, hx, hy, e1, e2, e3, e4, s1, s2⟩, b, c⟩ => by
    obtain ⟨f1, f2, f3, f4, f5⟩ := Chain.facts c
    exact ⟨by omega, by omega, by omega, f4.tr s1, fun _ => f5 hx⟩
end CHAIN
def CH (g : Nat → Option Nat) (lo hi : Int) (T X : ST) : Prop := ∃ k n : Nat, lo = k ∧ hi = k + n ∧ Chain g k n T X
def AG (g g2 : Nat → Option Nat) (n : Int) : Prop := ∀ k : Nat, (k : Int) < n → g2 k = g k
section CHS
variable {g g2 : Nat → Option Nat} {lo hi : Int} {T X : ST}
theorem AG.rf {n : Int} : AG g g n := fun _ _ => rfl
theorem AG.tr {g3 : Nat → Option Nat} {n m r : Int} (h : AG g g2 n) (h2 : AG g2 g3 m) (h1 : r ≤ n) (h3 : r ≤ m) : AG g g3 r := fun k hk => (h2 k (by omega)).trans (h k (by omega))
theorem AG.put {i : Int32} {n : Int} {v : Option Nat} (e : g2 = va_up g i.toNatClampNeg v) (hi : 0 ≤ i.toInt) (hn : n ≤ i.toInt) : AG g g2 n := fun k hk => by
  subst e
  have := ncn_nat hi
  show (if k = i.toNatClampNeg then v else g k) = g k
  rw [if_neg (by omega)]
theorem CH.nil (h : 0 ≤ lo) (he : hi = lo) : CH g lo hi T T := ⟨lo.toNat, 0, by omega, by omega, rfl⟩
theorem CH.push {i : Int32} {v : Int64} {x y : ST} {hi2 : Int} (h : CH g lo hi T X) (h2 : X.is2 v x y) (e : g2 = va_up g i.toNatClampNeg (some X.root)) (hi0 : i.toInt = hi) (hh : hi2 = hi + 1) : CH g2 lo hi2 T x := by
  obtain ⟨k, n, e1, e2, hc⟩ := h
  have h0 := ncn_nat (i := i) (by omega)
  refine ⟨k, n + 1, e1, by omega, Chain.push (Chain.agree (fun j hj => ?_) hc) h2 ?_⟩
  · subst e
    show (if j = i.toNatClampNeg then _ else g j) = g j
    rw [if_neg (by omega)]
  · subst e
    show (if k + n = i.toNatClampNeg then _ else g (k + n)) = _
    rw [if_pos (by omega)]
theorem CH.pop {i : Int32} (h : CH g lo hi T X) (hi0 : i.toInt + 1 = hi) (hl : lo < hi) : ∃ X' v y, CH g lo i.toInt T X' ∧ X'.is2 v X y ∧ g i.toNatClampNeg = some X'.root := by
  obtain ⟨k, n, e1, e2, hc⟩ := h
  obtain ⟨n, rfl⟩ : ∃ n', n = n' + 1 := ⟨n - 1, by omega⟩
  obtain ⟨X', v, y, h1, h2, h3⟩ := Chain.pop hc
  have h0 := ncn_nat (i := i) (by omega)
  exact ⟨X', v, y, ⟨k, n, e1, by omega, h1⟩, h2, by rw [show i.toNatClampNeg = k + n by omega]; exact h3⟩
theorem CH.end_ (h : CH g lo hi T X) (hl : hi ≤ lo) : X = T := by
  obtain ⟨k, n, e1, e2, hc⟩ := h
  obtain rfl : n = 0 := by omega
  exact hc.symm
theorem CH.agree {n : Int} (h : CH g lo hi T X) (ha : AG g g2 n) (hn : hi ≤ n) : CH g2 lo hi T X := by
  obtain ⟨k, m, e1, e2, hc⟩ := h
  exact ⟨k, m, e1, e2, Chain.agree (fun j hj => ha j (by omega)) hc⟩
theorem CH.sz (h : CH g lo hi T X) : ((X.sz : Nat) : Int) + (hi - lo) ≤ ((T.sz : Nat) : Int) ∧ ((X.dep : Nat) : Int) ≤ ((T.dep : Nat) : Int) ∧ ((X.c4 : Nat) : Int) ≤ ((T.c4 : Nat) : Int) ∧ 0 ≤ lo ∧ lo ≤ hi := by
  obtain ⟨k, n, e1, e2, hc⟩ := h
  have := Chain.facts hc
  omega
theorem CH.sub (h : CH g lo hi T X) : SUB X.cells T.cells := by
  obtain ⟨k, n, e1, e2, hc⟩ := h
  exact (Chain.facts hc).2.2.2.1
theorem CH.ok (h : CH g lo hi T X) (ho : T.ok) : X.ok := by
  obtain ⟨k, n, e1, e2, hc⟩ := h
  exact (Chain.facts hc).2.2.2.2 ho
end CHS
/-- what is told of a node, over numbers -/
theorem ST.is2_f {T : ST} {v : Int64} {x y : ST} (h : T.is2 v x y) : ((T.sz : Nat) : Int) = ((x.sz : Nat) : Int) + ((y.sz : Nat) : Int) + 1 ∧ ((x.dep : Nat) : Int) ≤ ((T.dep : Nat) : Int) ∧ ((y.dep : Nat) : Int) + 1 ≤ ((T.dep : Nat) : Int) ∧ ((T.c4 : Nat) : Int) = ((x.c4 : Nat) : Int) + ((y.c4 : Nat) : Int) := by
  obtain ⟨-, -, -, e1, e2, e3, e4, -, -⟩ := h
  omega
theorem ST.is1_f {T : ST} {k : Int32} {v : Int64} {x : ST} {z : Int32} (h : T.is1 k v x z) : ((T.sz : Nat) : Int) = ((x.sz : Nat) : Int) + 1 ∧ ((T.dep : Nat) : Int) = ((x.dep : Nat) : Int) + 1 := by
  obtain ⟨-, -, e1, e2, -⟩ := h
  omega
theorem ST.sz_pos {T : ST} (h : T.ok) : 1 ≤ ((T.sz : Nat) : Int) := by
  rcases ST.cases_ h with ⟨v, -, h1, -⟩ | ⟨v, -, h1, -⟩ | ⟨v, x, y, h1⟩ | ⟨x, h1, -⟩ | ⟨v, x, z, h1, -⟩ | ⟨v, x, z, h1, -⟩ | ⟨x, h1, -⟩
  · omega
  · omega
  · have := h1.2.2.2.1; omega
  all_goals have := h1.2.2.1; omega
theorem ST.nt_of {T : ST} {k : Int32} {r : List Value} (hf : T.fs = .int k :: r) (hk : k ≠ 2) : ¬ T.two_ := fun ⟨v, x, y, h⟩ => by
  have h1 := h.1.symm.trans hf
  injection h1 with h2 _
  injection h2 with h3
  exact hk h3.symm
theorem AG.copy {g g1 g2 : Nat → Option Nat} {i : Int32} {n : Int} {q : Nat} (h : AG g g1 i.toInt) (e : g2 = va_up g1 i.toNatClampNeg (some q)) (hq : g i.toNatClampNeg = some q) (h0 : 0 ≤ i.toInt) (hn : n = i.toInt + 1) : AG g g2 n := fun k hk => by
  subst e
  have := ncn_nat h0
  show (if k = i.toNatClampNeg then some q else g1 k) = g k
  by_cases hki : k = i.toNatClampNeg
  · rw [if_pos hki, hki, hq]
  · rw [if_neg hki]; exact h k (by omega)
theorem AG.zero {g g2 : Nat → Option Nat} {n : Int} (h : n ≤ 0) : AG g g2 n := fun k hk => by omega
/-- what the places of a row hold lies in the pool -/
def EL (ci : Nat) (g : Nat → Option Nat) (n : Int) (pl : va_W) : Prop := ∀ k : Nat, (k : Int) < n → ∃ (q : Nat) (fs : List Value), g k = some q ∧ ((q, .inr (ci, fs)) : Nat × va_E) ∈ pl
section ELS
variable {ci : Nat} {g g2 : Nat → Option Nat} {n m : Int} {pl : va_W}
theorem EL.zero (h : n ≤ 0) : EL ci g n pl := fun k hk => by omega
theorem EL.mono (h : EL ci g n pl) (hm : m ≤ n) : EL ci g m pl := fun k hk => h k (by omega)
theorem EL.agree (h : EL ci g n pl) (ha : AG g g2 m) (hm : m ≤ n) : EL ci g2 m pl := fun k hk => by
  rw [ha k hk]; exact h k (by omega)
theorem EL.at {i : Int32} (h : EL ci g n pl) (h0 : 0 ≤ i.toInt) (hn : i.toInt < n) : ∃ (q : Nat) (fs : List Value), g i.toNatClampNeg = some q ∧ ((q, .inr (ci, fs)) : Nat × va_E) ∈ pl := h _ (by have := ncn_nat h0; omega)
theorem EL.push {i : Int32} {q : Nat} {fs : List Value} (h : EL ci g i.toInt pl) (e : g2 = va_up g i.toNatClampNeg (some q)) (h0 : 0 ≤ i.toInt) (hm : ((q, .inr (ci, fs)) : Nat × va_E) ∈ pl) (hn : n = i.toInt + 1) : EL ci g2 n pl := fun k hk => by
  subst e
  have := ncn_nat h0
  show ∃ q' fs', (if k = i.toNatClampNeg then some q else g k) = some q' ∧ _
  by_cases hki : k = i.toNatClampNeg
  · rw [if_pos hki]; exact ⟨q, fs, rfl, hm⟩
  · rw [if_neg hki]; exact h k (by omega)
end ELS
/-! methods that read trees of a pool: the pool goes in and comes out, thrown or not; what is made is told in both -/
def XQp {SX : Type} (D : va_G) (A : Nat → Prop) (ci : Nat) (E : String) (pe : List Value → Prop) (px : SX → Prop) (xw : SX → va_W) (kx nx : SX → Nat) : Addr → String → State → State → Prop := fun q E' st t => ∃ u : SX × List Value, (px u.1 ∧ pe u.2) ∧ BX D A ci E xw q E' u t ∧ va_F A st t ∧ Acct st.heap t.heap (kx u.1) (nx u.1)
abbrev KP {V S SX : Type} (l : Launch) (y : MethodName) (b : ByteArray) (nL : Nat) (ret : Option FieldType) (fr lo : Nat) (D : va_G) (ct : Nat → ClassId) (av : List Value) (wc : va_W) (mc ms : Nat) (mk : V → Option Value) (post : V → S → Prop) (w1 : S → va_W) (k n : S → Nat) (ci : Nat) (E : String) (pe : List Value → Prop) (px : SX → Prop) (xw : SX → va_W) (kx nx : SX → Nat) : Prop :=
  ∀ sz : Nat, vx_Met l y [Cond.code y b nL ret] ({ frames := fr, cells := mc, slots := ms, locals := lo }) (va_Pc av (PreC D ct wc sz)) (qa mk post (PoC D (va_A wc sz) w1) k n (va_A wc sz)) (XQp D (va_A wc sz) ci E pe px xw kx nx) mc ms (va_A wc sz)
theorem KP_of {V S SX : Type} {l : Launch} {y : MethodName} {b : ByteArray} {nL : Nat} {ret : Option FieldType} {fr lo mc ms : Nat} {D : va_G} {ct : Nat → ClassId} {av : List Value} {wc : va_W} {mk : V → Option Value} {post : V → S → Prop} {w1 : S → va_W} {k n : S → Nat} {ci : Nat} {E : String} {pe : List Value → Prop} {px : SX → Prop} {xw : SX → va_W} {kx nx : SX → Nat} (hy : plainName y.cls = true) (hlen : (lg_sl av).length ≤ nL)
    (body : ∀ (p : Program) (e : Env) (s : State) (m : MethodId) (below : List Frame) (meth : Method) (c : Code) (A : Nat → Prop) (Q : State → Prop), CxB p s m meth c y b nL ret D ct A → (∀ x ∈ c.exceptionTable.toList, False) → (∀ q, s.heap.size ≤ q → A q) → ∀ (H : Heap) (locs : List Loc), va_S A s.heap H locs → va_P D vwCl wc H → va_D A wc → vx_MQ below (qa mk post (PoC D A w1) k n A) (XQp D A ci E pe px xw kx nx) av.toArray s mc ms A = Q → ∀ ls : Array Slot, lv_has ls nL (lv_args 0 av) →
      W p l e ({ frames := fr, cells := mc, slots := ms, locals := lo }) s m av.toArray below meth c H locs 0 0 Q (F0 m 0 ls [])) :
    KP l y b nL ret fr lo D ct av wc mc ms mk post w1 k n ci E pe px xw kx nx := by
  intro sz
  refine vx_ofW (cc := b) (maxL := nL) (ret := ret) hy rfl ?_
  intro p e s m args below meth c s₁ B hml htab hv
  obtain ⟨rfl, hsz, hP, hK, hD0, hn, hSK, hZ⟩ := hv
  have hown : s.vm.findClass y.cls = some m.cls := findClass_of_methodNamed B.named
  have hin : meth.name = y.name := (name_of_methodNamed B.named B.method).1
  subst hsz
  have hD := hD0.self (sz := s.heap.size)
  have hl := lv_entry av (n := nL) hlen
  rw [lg_entry_eq]
  exact body p e s m below meth c (va_A wc s.heap.size) _ ⟨B.exec, B.bytes, B.returns, hown, hin, hml, B.notSynchronized, hn, hK, hZ, hSK⟩ htab (fun q h => Or.inr h) _ _ va_S.rf hP hD rfl _ hl
section PCALLS
variable {p : Program} {l : Launch} {e : Env} {R : Room} {s : State} {m : MethodId} {args : Array Value} {below : List Frame} {meth : Method} {c : Code} {H H0 : Heap} {locs : List Loc} {cells slots : Nat} {Q : State → Prop} {A : Nat → Prop}
variable {D : va_G} {ct : Nat → ClassId} {X ws wc cx wr pl : va_W} {own : String} {index nL maxL mc ms fr lo n pc : Nat} {y : MethodName} {bytes cc : ByteArray} {ret : Option FieldType} {b : Addr} {As rest st0 : List Value} {ls : Array Slot}
theorem vx_W.shrink {k n : Nat} {g : JFrame} {q : Addr} (h : Acct s.heap H k n) (kk : vx_W p l e R s m args below meth c H locs k n Q g q) : vx_W p l e R s m args below meth c H locs cells slots Q g q := fun T hT X =>
  kk T hT { X with same := ⟨X.same.1, X.same.2.1, by show T.heap.size ≤ _; rw [hT]; exact h.1, X.same.2.2.2.1, by show newS s.heap.size T.heap ≤ _; rw [hT]; exact h.2.1, X.same.2.2.2.2.2⟩ }
theorem vx_W.facts {g : JFrame} {q : Addr} (kk : Acct s.heap H cells slots → vx_W p l e R s m args below meth c H locs cells slots Q g q) : vx_W p l e R s m args below meth c H locs cells slots Q g q := fun T hT X => by
  have h1 : T.heap.size ≤ s.heap.size + cells := X.same.2.2.1
  have h2 : newS s.heap.size T.heap ≤ slots := X.same.2.2.2.2.1
  have h0 : s.heap.size ≤ T.heap.size := X.same.2.1
  refine kk ⟨by rw [← hT]; exact h1, by rw [← hT]; exact h2, by rw [← hT]; exact h0, fun a cl ha => ?_⟩ T hT X
  obtain ⟨c', e1, -, e3, -⟩ := X.same.2.2.2.2.2 a cl ha
  exact ⟨c', by rw [← hT]; exact e1, e3⟩
/-- a call of one that reads the pool -/
theorem gt_P {V S SX : Type} {mk : V → Option Value} {post : V → S → Prop} {rx pl1 : S → va_W} {k n' : S → Nat} {ci : Nat} {E : String} {pe : List Value → Prop} {px : SX → Prop} {rxx : SX → va_W} {kx nx : SX → Nat} {a : Array Value} (isC isR : List Nat) (hr0 : va_P D vwCl (cx ++ pl) H → va_D A (cx ++ pl) → (∀ q, va_A (cx ++ pl) H.size q → A q) → vx_Run p l e R s m args below meth c H locs cells slots mc ms (F0 m pc ls st0) rest (qa mk post (PoC D (va_A (cx ++ pl) H.size) (fun u => rx u ++ pl1 u)) k n' (va_A (cx ++ pl) H.size) a) (XQp D (va_A (cx ++ pl) H.size) ci E pe px (fun u => rxx u ++ pl) kx nx) (va_A (cx ++ pl) H.size))
    (hP : va_P D vwCl (X ++ pl) H) (hD : va_D A (X ++ pl)) (hS : va_S A s.heap H locs) (hA : ∀ q, s.heap.size ≤ q → A q) (hC : isC.map (fun i => X[i]?) = cx.map some) (hR : isR.map (fun i => X[i]?) = wr.map some) (hnc : va_nd isC = true) (hnd : va_nd isR = true) (hdis : ∀ i ∈ isR, i ∉ isC)
    (kth : ∀ (q : Addr) (u : SX) (fs : List Value) (H1 : Heap) (locs1 : List Loc), px u → pe fs → va_P D vwCl ((wr ++ (rxx u ++ [(q, .inr (ci, fs))])) ++ pl) H1 → va_D A ((wr ++ (rxx u ++ [(q, .inr (ci, fs))])) ++ pl) → va_S A s.heap H1 locs1 → vx_W p l e R s m args below meth c H1 locs1 (cells + kx u) (slots + nx u) Q (F0 m pc ls rest) q)
    (kk : ∀ (r : V) (u : S) (H1 : Heap) (locs1 : List Loc), post r u → va_P D vwCl ((wr ++ rx u) ++ pl1 u) H1 → va_D A ((wr ++ rx u) ++ pl1 u) → va_S A s.heap H1 locs1 → W p l e R s m args below meth c H1 locs1 (cells + k u) (slots + n' u) Q (F0 m (pc + 3) ls ((mk r).toList ++ rest))) : W p l e R s m args below meth c H locs cells slots Q (F0 m pc ls st0) := by
  have hF := va_freeP hD hS hA isC hC
  have hr := hr0 (hP.part isC hC) (hD.part isC hnc hC) hF
  refine W.facts (fun hac => ?_)
  intro T hT X0
  rcases hr T hT X0 with ⟨v, st₀, t, T', L, h0, X', hL, e1, e2, ⟨⟨r, u, hv, hp, ⟨hP1, hD1⟩, hac2⟩, hFr⟩, st⟩ | ⟨q, st₀, t, T', L, E', ce, h0, X', hL, e1, e2, ⟨u, ⟨hpx, hpe⟩, ⟨hE, hP1, hD1⟩, hFr, hac2⟩, hce, hcv, hcl, st⟩
  · cases hv
    obtain ⟨k1', k2, k3⟩ := vx_keep h0 e1 hS (fun q _ h => hF q h) hF hL hFr
    rw [← e1] at hP1
    obtain ⟨hP2, hD2⟩ := va_joinP hP hD isC isR hC hR hnd hdis k2 hF hP1 hD1
    rw [h0, ← e1] at hac2
    obtain ⟨t2, a1, b1⟩ := W.shrink (hac.trans hac2) (kk r u T'.heap (locs ++ L) hp hP2 hD2 k3) T' rfl X'
    exact ⟨t2, st t2 a1, b1⟩
  · obtain ⟨k1', k2, k3⟩ := vx_keep h0 e1 hS (fun q _ h => hF q h) hF hL hFr
    rw [← e1] at hP1
    obtain ⟨hP2, hD2⟩ := va_joinP (pl1 := []) hP hD isC isR hC hR hnd hdis k2 hF (by rw [List.append_nil]; exact hP1) (by rw [List.append_nil]; exact hD1)
    have hpm : ((wr ++ ((rxx u.1 ++ pl) ++ ([(q, .inr (ci, u.2))] : va_W))) ++ []).Perm ((wr ++ (rxx u.1 ++ ([(q, .inr (ci, u.2))] : va_W))) ++ pl) := seg_perm (fun f => by simp only [List.map_append, List.sum_append, List.map_nil, List.sum_nil]; omega)
    rw [h0, ← e1] at hac2
    obtain ⟨t2, a1, b1⟩ := vx_W.shrink (hac.trans hac2) (kth q u.1 u.2 T'.heap (locs ++ L) hpx hpe (hP2.perm hpm) (hD2.perm hpm) k3) T' rfl X'
    exact ⟨t2, st.trans a1, b1⟩
/-- a call that may throw, of one without the pool: it stays here, thrown or not -/
theorem gt_R {V S SX : Type} {mk : V → Option Value} {post : V → S → Prop} {w1 : S → va_W} {k n' : S → Nat} {ci : Nat} {E : String} {pe : List Value → Prop} {px : SX → Prop} {xw : SX → va_W} {a : Array Value} (isC isR : List Nat) (hr0 : va_P D vwCl cx H → va_D A cx → (∀ q, va_A cx H.size q → A q) → vx_Run p l e R s m args below meth c H locs cells slots mc ms (F0 m pc ls st0) rest (qa mk post (PoC D (va_A cx H.size) w1) k n' (va_A cx H.size) a) (XQ D (va_A cx H.size) ci E pe px xw) (va_A cx H.size))
    (hP : va_P D vwCl (X ++ pl) H) (hD : va_D A (X ++ pl)) (hS : va_S A s.heap H locs) (hA : ∀ q, s.heap.size ≤ q → A q) (hC : isC.map (fun i => X[i]?) = cx.map some) (hR : isR.map (fun i => X[i]?) = wr.map some) (hnc : va_nd isC = true) (hnd : va_nd isR = true) (hdis : ∀ i ∈ isR, i ∉ isC)
    (kth : ∀ (q : Addr) (u : SX) (fs : List Value) (H1 : Heap) (locs1 : List Loc), px u → pe fs → va_P D vwCl ((wr ++ (xw u ++ [(q, .inr (ci, fs))])) ++ pl) H1 → va_D A ((wr ++ (xw u ++ [(q, .inr (ci, fs))])) ++ pl) → va_S A s.heap H1 locs1 → vx_W p l e R s m args below meth c H1 locs1 (cells + mc) (slots + ms) Q (F0 m pc ls rest) q)
    (kk : ∀ (r : V) (u : S) (H1 : Heap) (locs1 : List Loc), post r u → va_P D vwCl ((wr ++ w1 u) ++ pl) H1 → va_D A ((wr ++ w1 u) ++ pl) → va_S A s.heap H1 locs1 → W p l e R s m args below meth c H1 locs1 (cells + k u) (slots + n' u) Q (F0 m (pc + 3) ls ((mk r).toList ++ rest))) : W p l e R s m args below meth c H locs cells slots Q (F0 m pc ls st0) := by
  have hF := va_free hD hS hA isC (mp_of hC)
  have hr := hr0 (hP.sub isC (fm_of (mp_of hC))) (hD.sub isC hnc (mp_of hC)) hF
  refine W.facts (fun hac => ?_)
  intro T hT X0
  rcases hr T hT X0 with ⟨v, st₀, t, T', L, h0, X', hL, e1, e2, ⟨⟨r, u, hv, hp, ⟨hP1, hD1⟩, hac2⟩, hFr⟩, st⟩ | ⟨q, st₀, t, T', L, E', ce, h0, X', hL, e1, e2, ⟨u, ⟨hpx, hpe⟩, ⟨hE, hP1, hD1⟩, hFr⟩, hce, hcv, hcl, st⟩
  · cases hv
    obtain ⟨k1', k2, k3⟩ := vx_keep h0 e1 hS (fun q _ h => hF q h) hF hL hFr
    rw [← e1] at hP1
    obtain ⟨hP2, hD2⟩ := va_joinQ hP hD isC isR hC hR hnd hdis k2 hF hP1 hD1
    rw [h0, ← e1] at hac2
    obtain ⟨t2, a1, b1⟩ := W.shrink (hac.trans hac2) (kk r u T'.heap (locs ++ L) hp hP2 hD2 k3) T' rfl X'
    exact ⟨t2, st t2 a1, b1⟩
  · obtain ⟨k1', k2, k3⟩ := vx_keep h0 e1 hS (fun q _ h => hF q h) hF hL hFr
    rw [← e1] at hP1
    obtain ⟨hP2, hD2⟩ := va_joinQ hP hD isC isR hC hR hnd hdis k2 hF hP1 hD1
    obtain ⟨t2, a1, b1⟩ := kth q u.1 u.2 T'.heap (locs ++ L) hpx hpe hP2 hD2 k3 T' rfl X'
    exact ⟨t2, st.trans a1, b1⟩
/-- it isn't caught here; the pool goes out with it -/
theorem xo_P {V S SX : Type} {mk : V → Option Value} {post : V → S → Prop} {B : S → State → Prop} {k n' : S → Nat} {ci : Nat} {E : String} {pe : List Value → Prop} {px : SX → Prop} {rxx : SX → va_W} {kx nx : SX → Nat} (hQ : vx_MQ below (qa mk post B k n' A) (XQp D A ci E pe px (fun u => rxx u ++ pl) kx nx) args s mc ms A = Q) (htab : ∀ x ∈ c.exceptionTable.toList, False) (hlocks : meth.locks = false) (hK : va_K D vwCl (TY ct) s) {T : u_T} {N : Nat} (hcl : vwCl[ci]? = some (E, T, N)) (hP : va_P D vwCl (X ++ pl) H) (hD : va_D A (X ++ pl)) (hS : va_S A s.heap H locs)
    (u : SX) {q : Addr} {fs : List Value} (hpx : px u) (hpe : pe fs) (is : List Nat) (hnd : va_nd is = true) (hs2 : is.map (fun i => X[i]?) = (rxx u ++ ([(q, .inr (ci, fs))] : va_W)).map some) {kq : Nat} (hkq : (X ++ pl)[kq]? = some ((q, .inr (ci, fs)) : Nat × va_E)) (h1 : cells ≤ kx u) (h2 : slots ≤ nx u) (h3 : kx u ≤ mc) (h4 : nx u ≤ ms) :
    vx_W p l e R s m args below meth c H locs cells slots Q (F0 m pc ls rest) q := by
  subst hQ
  obtain ⟨r, hr, cell, e1, e2, e3, -⟩ := hP kq _ hkq
  have hc4 := (hK.1 ci (E, T, N) hcl).2
  have hpm : ((rxx u ++ ([(q, .inr (ci, fs))] : va_W)) ++ pl).Perm ((rxx u ++ pl) ++ ([(q, .inr (ci, fs))] : va_W)) := seg_perm (fun f => by simp only [List.map_append, List.sum_append]; omega)
  refine vx_W.facts (fun hac => ?_)
  exact vx_out (E := E) (fun x hx => absurd (htab x hx) id) hlocks e1 e3 (by rw [e2]; exact hc4.1) (fun t ht hvm => ⟨(u, fs), ⟨hpx, hpe⟩, ⟨rfl, by rw [ht]; exact (hP.part is hs2).perm hpm, (hD.part is hnd hs2).perm hpm⟩, hS.F ht, by rw [ht]; exact hac.mono h1 h2⟩) hS.2.2 (Nat.le_trans h1 h3) (Nat.le_trans h2 h4)
/-- rows of references -/
theorem aq_ld (hexec : p.tables.exec = Jvm.exec) (hb : c.code = cc) {tys : List (ClassId × FieldType)} (hK : va_K D vwCl tys s) (hP : va_P D vwCl ws H) (q0 t0 : Nat) {a : Addr} {cA : ClassId} {C : String} {n q : Nat} {f : Nat → Option Nat} (ha : ws[q0]? = some (a, .inl (cA, n, .inr (.inr (.inr (.inr f)))))) (ht : tys[t0]? = some (cA, .object C)) {i : Int32} (hin : vp_in i n) (hq : f i.toNatClampNeg = some q) (hdg : decode cc pc = .ok (.aaload, 1))
    (kk : W p l e R s m args below meth c H locs cells slots Q (F0 m (pc + 1) ls (.ref q :: rest))) : W p l e R s m args below meth c H locs cells slots Q (F0 m pc ls (.int i :: .ref a :: rest)) :=
  va_aldq hexec hb hK hP q0 t0 ha ht hin hdg (by rw [hq]; exact kk)
end PCALLS
theorem pl_last {X pl : va_W} {c : Nat × va_E} : ((X ++ pl) ++ [c]).Perm ((X ++ [c]) ++ pl) := seg_perm (fun f => by simp only [List.map_append, List.sum_append]; omega)
/-! methods that catch what is thrown in them; a pool goes in and comes out -/
abbrev KW {V S : Type} (l : Launch) (y : MethodName) (b : ByteArray) (nL : Nat) (ret : Option FieldType) (hh : List (Nat × Nat × Nat × Nat)) (fr lo : Nat) (D : va_G) (ct : Nat → ClassId) (av : List Value) (wc : va_W) (mc ms : Nat) (mk : V → Option Value) (post : V → S → Prop) (w1 : S → va_W) (k n : S → Nat) : Prop :=
  ∀ sz : Nat, Met l y [Cond.codeWith y b nL ret hh] ({ frames := fr, cells := mc, slots := ms, locals := lo }) (va_Pc av (PreC D ct wc sz)) (qa mk post (PoC D (va_A wc sz) w1) k n (va_A wc sz)) mc ms (va_A wc sz)
theorem KW_of {V S : Type} {l : Launch} {y : MethodName} {b : ByteArray} {nL : Nat} {ret : Option FieldType} {hh : List (Nat × Nat × Nat × Nat)} {fr lo mc ms : Nat} {D : va_G} {ct : Nat → ClassId} {av : List Value} {wc : va_W} {mk : V → Option Value} {post : V → S → Prop} {w1 : S → va_W} {k n : S → Nat} (hy : plainName y.cls = true) (hlen : (lg_sl av).length ≤ nL)
    (body : ∀ (p : Program) (e : Env) (s : State) (m : MethodId) (below : List Frame) (meth : Method) (c : Code) (A : Nat → Prop) (Q : State → Prop), CxB p s m meth c y b nL ret D ct A → c.exceptionTable.toList = tableOf hh → (∀ q, s.heap.size ≤ q → A q) → ∀ (H : Heap) (locs : List Loc), va_S A s.heap H locs → va_P D vwCl wc H → va_D A wc → MQ below (qa mk post (PoC D A w1) k n A) av.toArray s mc ms A = Q → ∀ ls : Array Slot, lv_has ls nL (lv_args 0 av) →
      W p l e ({ frames := fr, cells := mc, slots := ms, locals := lo }) s m av.toArray below meth c H locs 0 0 Q (F0 m 0 ls [])) :
    KW l y b nL ret hh fr lo D ct av wc mc ms mk post w1 k n := by
  intro sz
  refine va_MetW (cc := b) (maxL := nL) (ret := ret) (hh := hh) hy rfl ?_
  intro p e s m args below meth c s₁ B hml hv
  obtain ⟨rfl, hsz, hP, hK, hD0, hn, hSK, hZ⟩ := hv
  have hown : s.vm.findClass y.cls = some m.cls := findClass_of_methodNamed B.named
  have hin : meth.name = y.name := (name_of_methodNamed B.named B.method).1
  have htab := vx_table (x := y) (hh := hh) B (atoms_spec (ws := [Cond.codeWith y b nL ret hh]) B.pre _ List.mem_cons_self)
  subst hsz
  have hD := hD0.self (sz := s.heap.size)
  have hl := lv_entry av (n := nL) hlen
  rw [lg_entry_eq]
  exact body p e s m below meth c (va_A wc s.heap.size) _ ⟨B.exec, B.bytes, B.returns, hown, hin, hml, B.notSynchronized, hn, hK, hZ, hSK⟩ htab (fun q h => Or.inr h) _ _ va_S.rf hP hD rfl _ hl
section WCALLS
variable {p : Program} {l : Launch} {e : Env} {R : Room} {s : State} {m : MethodId} {args : Array Value} {below : List Frame} {meth : Method} {c : Code} {H : Heap} {locs : List Loc} {cells slots : Nat} {Q : State → Prop} {A : Nat → Prop}
variable {D : va_G} {ct : Nat → ClassId} {X ws wc cx wr pl : va_W} {own : String} {index nL maxL mc ms fr lo n pc : Nat} {y : MethodName} {bytes cc : ByteArray} {ret : Option FieldType} {b : Addr} {As rest st0 : List Value} {ls : Array Slot} {hh : List (Nat × Nat × Nat × Nat)}
theorem cbW_of (hn : nwOK s) (hcode : Cond.codeWith y bytes maxL ret hh ∈ lw_tbl) (hini : Cond.initialized y.cls ∈ lw_tbl) (hl : Cond.methodLink own index y ∈ lw_tbl) (hd : okMH y n) (hR : fr + 1 ≤ R.frames ∧ 8 + (maxL + 11) + lo ≤ R.locals) (hinst : Cond.instanceMethod y ∈ lw_tbl) (hsel : Cond.selects y.cls y y ∈ lw_tbl) :
    vx_CVW R s args own y.cls index y bytes maxL ret hh [Cond.codeWith y bytes maxL ret hh] ({ frames := fr, cells := mc, slots := ms, locals := lo }) mc ms n := by
  refine ⟨⟨rfl, rfl, hR.1, hR.2, fun w hw a' U hW => ?_, List.mem_cons_self⟩, hn.get hcode rfl, hn.get hini rfl, ⟨hd.1, hd.2.1⟩, fun sig h => ?_, hn.get hl rfl, hn.get hinst rfl, hn.get hsel rfl⟩
  · have hw' : w = Cond.codeWith y bytes maxL ret hh := by simpa using hw
    subst hw'
    exact okW_at hW rfl (hn.get (args := args) hcode rfl)
  · have h2 := hd.2.2
    rw [h] at h2
    exact (Option.some.inj h2).symm
theorem rw_V {Qc : Array Value → State → Outcome → State → Prop} {free : Addr → Prop} (hM : Met l y [Cond.codeWith y bytes maxL ret hh] ({ frames := fr, cells := mc, slots := ms, locals := lo }) (va_Pc (Value.ref b :: As) (PreC D ct wc H.size)) Qc mc ms free)
    (cb : vx_CVW R s args own y.cls index y bytes maxL ret hh [Cond.codeWith y bytes maxL ret hh] ({ frames := fr, cells := mc, slots := ms, locals := lo }) mc ms n)
    (hx : p.tables.exec = Jvm.exec) (hb : c.code = cc) (hml : c.maxLocals = nL) (hown : s.vm.findClass own = some m.cls) (hn : nwOK s) (hK : va_K D vwCl (TY ct) s) (hSK : SK ct s) (hZ : ZS ct A s s.heap) (hS : va_S A s.heap H locs)
    {ci q0 : Nat} {q : vw_C} {fs : List Value} (hc : vwCl[ci]? = some q) (hq : q.1 = y.cls) (he : wc[q0]? = some (b, .inr (ci, fs)))
    (hln : As.length = n) (hsize : ls.size = nL) (hW : (rest.map fun v => v.category).sum ≤ 8) (hdg : decode cc pc = .ok (.invokevirtual index, 3)) (hf : cells + mc ≤ R.cells ∧ slots + ms ≤ R.slots) (hP : va_P D vwCl wc H) (hD : va_D A wc) (hF : ∀ q, va_A wc H.size q → A q) :
    va_Run p l e R s m args below meth c H locs cells slots mc ms (F0 m pc ls (As.reverse ++ .ref b :: rest)) rest (Qc (Value.ref b :: As).toArray) free := by
  refine vx_runVW (C := y.cls) (fix0 hx hb hml hown) hM cb ⟨blindC, ?_, preC_of hP hK hD hn hSK hZ hS hF⟩ rfl hln hsize rfl (lv_room hW) hdg hf
  have h := va_recv hK hP hc he
  rw [hq] at h
  exact h
theorem gt_W {V S : Type} {mk : V → Option Value} {post : V → S → Prop} {rx pl1 : S → va_W} {k n' : S → Nat} {a : Array Value} (isC isR : List Nat) (hr0 : va_P D vwCl (cx ++ pl) H → va_D A (cx ++ pl) → (∀ q, va_A (cx ++ pl) H.size q → A q) → va_Run p l e R s m args below meth c H locs cells slots mc ms (F0 m pc ls st0) rest (qa mk post (PoC D (va_A (cx ++ pl) H.size) (fun u => rx u ++ pl1 u)) k n' (va_A (cx ++ pl) H.size) a) (va_A (cx ++ pl) H.size))
    (hP : va_P D vwCl (X ++ pl) H) (hD : va_D A (X ++ pl)) (hS : va_S A s.heap H locs) (hA : ∀ q, s.heap.size ≤ q → A q) (hC : isC.map (fun i => X[i]?) = cx.map some) (hR : isR.map (fun i => X[i]?) = wr.map some) (hnc : va_nd isC = true) (hnd : va_nd isR = true) (hdis : ∀ i ∈ isR, i ∉ isC)
    (kk : ∀ (r : V) (u : S) (H1 : Heap) (locs1 : List Loc), post r u → va_P D vwCl ((wr ++ rx u) ++ pl1 u) H1 → va_D A ((wr ++ rx u) ++ pl1 u) → va_S A s.heap H1 locs1 → W p l e R s m args below meth c H1 locs1 (cells + k u) (slots + n' u) Q (F0 m (pc + 3) ls ((mk r).toList ++ rest))) : W p l e R s m args below meth c H locs cells slots Q (F0 m pc ls st0) := by
  have hF := va_freeP hD hS hA isC hC
  have hr := hr0 (hP.part isC hC) (hD.part isC hnc hC) hF
  refine W.facts (fun hac => ?_)
  intro T hT X0
  obtain ⟨v, st₀, t, T', L, h0, X', hL, e1, e2, ⟨⟨r, u, hv, hp, ⟨hP1, hD1⟩, hac2⟩, hFr⟩, st⟩ := hr T hT X0
  cases hv
  obtain ⟨k1', k2, k3⟩ := vx_keep h0 e1 hS (fun q _ h => hF q h) hF hL hFr
  rw [← e1] at hP1
  obtain ⟨hP2, hD2⟩ := va_joinP hP hD isC isR hC hR hnd hdis k2 hF hP1 hD1
  rw [h0, ← e1] at hac2
  obtain ⟨t2, a1, b1⟩ := W.shrink (hac.trans hac2) (kk r u T'.heap (locs ++ L) hp hP2 hD2 k3) T' rfl X'
  exact ⟨t2, st t2 a1, b1⟩
theorem ew_i {S : Type} {post : Int32 → S → Prop} {rx pl1 : S → va_W} {k n' : S → Nat} {ty : FieldType} (hQ : MQ below (qa (fun r : Int32 => some (.int r)) post (PoC D A (fun u => rx u ++ pl1 u)) k n' A) args s mc ms A = Q) (hx : p.tables.exec = Jvm.exec) (hb : c.code = cc) (hr : meth.sig.returnType = some ty) (hlocks : meth.locks = false) (hdg : decode cc pc = .ok (.ireturn, 1)) {r : Int32} (hnar : narrow ty (.int r) = .int r) (u : S) (hpost : post r u) (hP : va_P D vwCl (X ++ pl1 u) H) (hD : va_D A (X ++ pl1 u)) (hS : va_S A s.heap H locs)
    (is : List Nat) (hnd : va_nd is = true) (hs2 : is.map (fun i => X[i]?) = (rx u).map some) (h1 : cells ≤ k u) (h2 : slots ≤ n' u) (h3 : k u ≤ mc) (h4 : n' u ≤ ms) : W p l e R s m args below meth c H locs cells slots Q (F0 m pc ls [.int r]) := by
  subst hQ
  refine W.facts (fun hac => W.widen (Nat.le_trans h1 h3) (Nat.le_trans h2 h4) ?_)
  exact W.zret hx hb hr hnar (fun t ht hW => ⟨⟨r, u, rfl, hpost, ⟨by rw [ht]; exact hP.part is hs2, hD.part is hnd hs2⟩, by rw [ht]; exact hac.mono h1 h2⟩, hS.F ht⟩) hS.2.2 hdg
theorem exc_at {q : Addr} {ci : Nat} {fs : List Value} {E : String} {T : u_T} {N : Nat} (hK : va_K D vwCl (TY ct) s) (hP : va_P D vwCl ws H) (hcl : vwCl[ci]? = some (E, T, N)) {k : Nat} (hk : ws[k]? = some ((q, .inr (ci, fs)) : Nat × va_E)) : ∃ ce : Cell, H[q]? = some ce ∧ ce.vm = .none ∧ s.vm.findClass E = some ce.cls := by
  obtain ⟨r, hr, cell, h1, h2, h3, -⟩ := hP k _ hk
  have h4 := (hK.1 ci (E, T, N) hcl).2
  exact ⟨cell, h1, h3, by rw [h2]; exact h4.1⟩
end WCALLS
/-- from the first test on, each way goes forward -/
def mrk (a : Int) : Int := if a < 0 then 4000000 else a
theorem mrk_neg {a : Int} (h : a < 0) : mrk a = 4000000 := if_pos h
theorem mrk_pos {a : Int} (h : 0 ≤ a) : mrk a = a := if_neg (by omega)
def TSm (pl : va_W) (q : Nat) (l r : ST) (sg z : Int32) : Prop := ((q, .inr (12, [.int 0, .null, .null, .ref l.root, .ref r.root, .int sg, .int z])) : Nat × va_E) ∈ pl ∧ l.ok ∧ r.ok ∧ SUB l.cells pl ∧ SUB r.cells pl ∧ ((l.dep : Nat) : Int) ≤ 83 ∧ ((r.dep : Nat) : Int) ≤ 83 ∧ ((l.sz : Nat) : Int) ≤ 38000 ∧ ((r.sz : Nat) : Int) ≤ 38000
def FW (i g n : Int) : Prop := (g < 0 ∧ -2 ≤ g) ∨ (i < g ∧ g < n)
def MT (pl : va_W) (gt : Nat → Option Nat) (gy gn : Nat → Int32) (n : Int) : Prop := ∀ i : Nat, (i : Int) < n → (∃ q l r sg z, gt i = some q ∧ TSm pl q l r sg z) ∧ FW i (gy i).toInt n ∧ FW i (gn i).toInt n
theorem MT.at {pl : va_W} {gt : Nat → Option Nat} {gy gn : Nat → Int32} {n : Int} {i : Int32} (h : MT pl gt gy gn n) (h0 : 0 ≤ i.toInt) (hn : i.toInt < n) : (∃ q l r sg z, gt i.toNatClampNeg = some q ∧ TSm pl q l r sg z) ∧ FW i.toInt (gy i.toNatClampNeg).toInt n ∧ FW i.toInt (gn i.toNatClampNeg).toInt n := by
  have := ncn_nat h0
  have h1 := h i.toNatClampNeg (by omega)
  rw [this] at h1
  exact h1
/-! the code that is made: how many reads of four bytes it has -/
def CW (g g2 : Nat → Int64) (n : Int) : Prop := ∀ k : Nat, (k : Int) < n → g2 k = g k
def K4 (g : Nat → Int64) (n m : Int) : Prop := ∀ k : Nat, (k : Int) = n → ((C4 g k : Nat) : Int) ≤ m
def ER (g g2 : Nat → Int64) (n n2 q : Int) : Prop := ∀ m : Int, K4 g n m → K4 g2 n2 (m + q)
section CODES
variable {g g1 g2 : Nat → Int64} {n n1 n2 m q q1 q2 : Int}
theorem CW.rf : CW g g n := fun _ _ => rfl
theorem CW.zero (h : n ≤ 0) : CW g g2 n := fun k hk => by omega
theorem CW.mono (h : CW g g2 n) (hm : m ≤ n) : CW g g2 m := fun k hk => h k (by omega)
theorem CW.copy {i : Int32} {v : Int64} (h : CW g g1 i.toInt) (e : g2 = vp_updL g1 i.toNatClampNeg v) (hv : v = g i.toNatClampNeg) (h0 : 0 ≤ i.toInt) (hn : n = i.toInt + 1) : CW g g2 n := fun k hk => by
  subst e
  have := ncn_nat h0
  show (if k = i.toNatClampNeg then v else g1 k) = g k
  by_cases hki : k = i.toNatClampNeg
  · rw [if_pos hki, hki, hv]
  · rw [if_neg hki]; exact h k (by omega)
theorem C4_agree {g g2 : Nat → Int64} : ∀ {n : Nat}, (∀ k, k < n → g2 k = g k) → C4 g2 n = C4 g n
  | 0, _ => rfl
  | n + 1, h => by
    show C4 g2 n + (if (g2 n).toInt % 256 = 32 ∨ (g2 n).toInt % 256 = 64 then 1 else 0) = C4 g n + _
    rw [C4_agree (fun k hk => h k (by omega)), h n (by omega)]
theorem C4_same {g g2 : Nat → Int64} : ∀ {n : Nat}, (∀ k, k < n → (g2 k).toInt % 256 = (g k).toInt % 256) → C4 g2 n = C4 g n
  | 0, _ => rfl
  | n + 1, h => by
    show C4 g2 n + (if (g2 n).toInt % 256 = 32 ∨ (g2 n).toInt % 256 = 64 then 1 else 0) = C4 g n + (if (g n).toInt % 256 = 32 ∨ (g n).toInt % 256 = 64 then 1 else 0)
    rw [C4_same (fun k hk => h k (by omega)), h n (by omega)]
theorem K4.mono (h : K4 g n m) (hm : m ≤ q) : K4 g n q := fun k hk => Int.le_trans (h k hk) hm
theorem K4.zero (h : n = 0) (hm : 0 ≤ m) : K4 g n m := fun k hk => by
  have : k = 0 := by omega
  subst this
  exact hm
theorem K4.put {i : Int32} {v : Int64} (h : K4 g n m) (e : g2 = vp_updL g i.toNatClampNeg v) (hv : v.toInt % 256 = (g i.toNatClampNeg).toInt % 256) : K4 g2 n m := fun k hk => by
  subst e
  rw [C4_same (g := g) (fun j hj => ?_)]
  · exact h k hk
  · show (if j = i.toNatClampNeg then v else g j).toInt % 256 = _
    by_cases hji : j = i.toNatClampNeg
    · rw [if_pos hji, hji, hv]
    · rw [if_neg hji]
theorem ER.rf (h : n = n2) (hq : 0 ≤ q) : ER g g n n2 q := fun m hm => by subst h; exact hm.mono (by omega)
theorem ER.tr (h : ER g g1 n n1 q1) (h2 : ER g1 g2 n1 n2 q2) (hq : q1 + q2 ≤ q) : ER g g2 n n2 q := fun m hm => (h2 _ (h m hm)).mono (by omega)
theorem ER.mono (h : ER g g1 n n1 q1) (hq : q1 ≤ q) : ER g g1 n n1 q := fun m hm => (h m hm).mono (by omega)
theorem ER.use (h : ER g g1 n n1 q1) (hm : K4 g n m) (hq : m + q1 ≤ q) : K4 g1 n1 q := (h m hm).mono hq
theorem ER.put {i : Int32} {v : Int64} {w : Int} (h : CW g g1 n) (e : g2 = vp_updL g1 i.toNatClampNeg v) (hi : i.toInt = n) (h0 : 0 ≤ i.toInt) (hn : n2 = n + 1) (hv : v.toInt % 256 = w) (hw : w = 32 ∨ w = 64 → 1 ≤ q) (hq : 0 ≤ q) : ER g g2 n n2 q := fun m hm k hk => by
  have h1 := ncn_nat h0
  obtain ⟨j, rfl⟩ : ∃ j, k = j + 1 := ⟨k - 1, by omega⟩
  have h2 := hm j (by omega)
  have e2 : ∀ t, g2 t = if t = i.toNatClampNeg then v else g1 t := fun t => by rw [e]; rfl
  have h3 : C4 g2 j = C4 g j := C4_agree (fun t ht => by rw [e2, if_neg (by omega)]; exact h t (by omega))
  have h4 : g2 j = v := by rw [e2, if_pos (by omega)]
  show ((C4 g2 j + (if (g2 j).toInt % 256 = 32 ∨ (g2 j).toInt % 256 = 64 then 1 else 0) : Nat) : Int) ≤ m + q
  rw [h3, h4, hv]
  split
  · rename_i h5; have := hw h5; omega
  · omega
end CODES
theorem un256 (x : Int64) : x.toInt % 256 = ((UN x % 256 : Nat) : Int) := by
  have h3 : x.toBitVec.toInt = x.toInt := rfl
  rw [BitVec.toInt_eq_toNat_cond] at h3
  show x.toInt % 256 = ((x.toBitVec.toNat % 256 : Nat) : Int)
  split at h3 <;> omega
theorem or256 {x y z : Int64} (e : z = x ||| y) (h : UN y % 256 = 0) : UN z % 256 = UN x % 256 := by
  have h1 : UN z = UN x ||| UN y := by
    show z.toBitVec.toNat = _
    rw [e, Int64.toBitVec_or, BitVec.toNat_or]; rfl
  rw [h1, show (256 : Nat) = 2 ^ 8 from rfl, Nat.or_mod_two_pow, show UN y % 2 ^ 8 = 0 from h, Nat.or_zero]
theorem sh8 {x z : Int64} (e : z = x <<< ((8 : Int32).toInt64 &&& 63)) : UN z % 256 = 0 := by
  have k := UN_shl e
  rw [show 2 ^ (((8 : Int32).toInt64 &&& 63).toBitVec.smod 64).toNat = 256 by decide] at k
  omega
theorem sh16 {x z : Int64} (e : z = x <<< ((16 : Int32).toInt64 &&& 63)) : UN z % 256 = 0 := by
  have k := UN_shl e
  rw [show 2 ^ (((16 : Int32).toInt64 &&& 63).toBitVec.smod 64).toNat = 65536 by decide] at k
  omega
theorem sh32 {x z : Int64} (e : z = x <<< ((32 : Int32).toInt64 &&& 63)) : UN z % 256 = 0 := by
  have k := UN_shl e
  rw [show 2 ^ (((32 : Int32).toInt64 &&& 63).toBitVec.smod 64).toNat = 4294967296 by decide] at k
  omega
theorem emit_low {w : Int32} {z1 z2 z3 z4 z5 z6 z7 a b c : Int64} (e1 : z1 = w.toInt64) (e2 : z2 = a <<< ((8 : Int32).toInt64 &&& 63)) (e3 : z3 = z1 ||| z2) (e4 : z4 = b <<< ((16 : Int32).toInt64 &&& 63)) (e5 : z5 = z3 ||| z4) (e6 : z6 = c <<< ((32 : Int32).toInt64 &&& 63)) (e7 : z7 = z5 ||| z6) : z7.toInt % 256 = w.toInt % 256 := by
  have h1 := un256 z7
  rw [or256 e7 (sh32 e6), or256 e5 (sh16 e4), or256 e3 (sh8 e2)] at h1
  have h2 := un256 z1
  have h3 := eq_i2l e1
  omega
theorem or_low {x y z a : Int64} (e : z = x ||| y) (e2 : y = a <<< ((16 : Int32).toInt64 &&& 63)) : z.toInt % 256 = x.toInt % 256 := by
  rw [un256, un256, or256 e (sh16 e2)]
theorem PB.of {g g2 : Nat → Int64} {n : Int} {k : Nat} {m : Int} (h : K4 g n m) (hc : CW g g2 n) (hk : ((k : Nat) : Int) = n) (hm : 14 * n + 6 * m ≤ 59994) : PB g2 k := by
  have h1 := h k hk
  have h2 : C4 g2 k = C4 g k := C4_agree (fun j hj => hc j (by omega))
  show 14 * k + 6 * C4 g2 k ≤ 59994
  omega
/-- where goes what was told to go: places of the code, tests -/
def WK (ga gw : Nat → Int32) (n c t : Int) : Prop := ∀ i : Nat, (i : Int) < n → (0 ≤ (ga i).toInt ∧ (ga i).toInt < c) ∧ -2 ≤ (gw i).toInt ∧ (gw i).toInt < t
section WKS
variable {ga gw ga1 gw1 ga2 gw2 : Nat → Int32} {n c t c2 n2 : Int}
theorem WK.zero (h : n ≤ 0) : WK ga gw n c t := fun i hi => by omega
theorem WK.mono (h : WK ga gw n c t) (hc : c ≤ c2) : WK ga gw n c2 t := fun i hi => by have := h i hi; omega
theorem WK.at {i : Int32} (h : WK ga gw n c t) (h0 : 0 ≤ i.toInt) (hn : i.toInt < n) : (0 ≤ (ga i.toNatClampNeg).toInt ∧ (ga i.toNatClampNeg).toInt < c) ∧ -2 ≤ (gw i.toNatClampNeg).toInt ∧ (gw i.toNatClampNeg).toInt < t := h _ (by have := ncn_nat h0; omega)
def IW (g g2 : Nat → Int32) (n : Int) : Prop := ∀ k : Nat, (k : Int) < n → g2 k = g k
theorem IW.rf {g : Nat → Int32} : IW g g n := fun _ _ => rfl
theorem IW.zero {g g2 : Nat → Int32} (h : n ≤ 0) : IW g g2 n := fun k hk => by omega
theorem IW.mono {g g2 : Nat → Int32} (h : IW g g2 n) (hm : n2 ≤ n) : IW g g2 n2 := fun k hk => h k (by omega)
theorem IW.copy {g g1 g2 : Nat → Int32} {i v : Int32} (h : IW g g1 i.toInt) (e : g2 = upd g1 i.toNatClampNeg v) (hv : v = g i.toNatClampNeg) (h0 : 0 ≤ i.toInt) (hn : n = i.toInt + 1) : IW g g2 n := fun k hk => by
  subst e
  have := ncn_nat h0
  unfold upd
  by_cases hki : k = i.toNatClampNeg
  · rw [if_pos hki, hki, hv]
  · rw [if_neg hki]; exact h k (by omega)
theorem WK.push {i j a b : Int32} (h : WK ga gw n c t) (ha : IW ga ga1 n) (hw : IW gw gw1 n) (e : ga2 = upd ga1 i.toNatClampNeg a) (e2 : gw2 = upd gw1 j.toNatClampNeg b) (hi : i.toInt = n) (hj : j.toInt = n) (h0 : 0 ≤ n) (hn : n2 = n + 1) (hav : 0 ≤ a.toInt ∧ a.toInt < c) (hbv : -2 ≤ b.toInt ∧ b.toInt < t) : WK ga2 gw2 n2 c t := fun k hk => by
  have h1 := ncn_nat (i := i) (by omega)
  have h2 := ncn_nat (i := j) (by omega)
  subst e; subst e2
  unfold upd
  by_cases hki : k = i.toNatClampNeg
  · rw [if_pos hki, if_pos (by omega)]; exact ⟨hav, hbv⟩
  · rw [if_neg hki, if_neg (by omega), ha k (by omega), hw k (by omega)]; exact h k (by omega)
end WKS
theorem shl16 {x z : Int32} (e : z = x <<< ((4 : Int32) &&& 31)) : z.toInt % 16 = 0 := by
  have h1 : z.toBitVec.toNat = x.toBitVec.toNat * 16 % 4294967296 := by
    rw [e]; show (x <<< ((4 : Int32) &&& 31)).toBitVec.toNat = _
    rw [Int32.toBitVec_shiftLeft, BitVec.shiftLeft_eq', BitVec.toNat_shiftLeft, Nat.shiftLeft_eq, show ((((4 : Int32) &&& 31).toBitVec.smod 32).toNat) = 4 by decide]
  have h3 : z.toBitVec.toInt = z.toInt := rfl
  rw [BitVec.toInt_eq_toNat_cond] at h3
  split at h3 <;> omega
theorem t16 (x : Int32) : x.toInt % 16 = ((x.toBitVec.toNat % 16 : Nat) : Int) := by
  have h3 : x.toBitVec.toInt = x.toInt := rfl
  rw [BitVec.toInt_eq_toNat_cond] at h3
  split at h3 <;> omega
theorem or16 {x c z : Int32} {a b r : Int} (e : z = x ||| c) (hx : x.toInt % 16 = a) (hc : c.toInt % 16 = b) (hr : ((a.toNat ||| b.toNat : Nat) : Int) = r) : z.toInt % 16 = r := by
  have h1 : z.toBitVec.toNat = x.toBitVec.toNat ||| c.toBitVec.toNat := by rw [e, Int32.toBitVec_or, BitVec.toNat_or]
  rw [t16] at hx hc ⊢
  rw [h1, show (16 : Nat) = 2 ^ 4 from rfl, Nat.or_mod_two_pow, ← hr, ← hx, ← hc]
  rfl
theorem mwW_X16_isMatch : Cond.codeWith yX16_isMatch cX16_isMatch 6 (some .boolean) [(7, 69, 72, 520)] ∈ lw_tbl := lc_7 (List.mem_of_getElem? (i := 126) rfl)
theorem mwl_X13 : Cond.classLink RX16 520 RX13 ∈ lw_tbl := lc_7 (List.mem_of_getElem? (i := 127) rfl)
theorem mwc_X13 : Cond.castable RX13 RX13 ∈ lw_tbl := lc_7 (List.mem_of_getElem? (i := 156) rfl)
