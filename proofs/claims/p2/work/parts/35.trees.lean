/-! the reference's trees: sums (class 14) and filters (class 12); each knows its cells -/
inductive ST where
  | leaf (a : Nat) (len : Bool) (v : Int64)
  | minus (a : Nat) (x : ST)
  | group (a : Nat) (x : ST)
  | acc (a : Nat) (v : Int64) (x : ST) (size : Int32)
  | two (a : Nat) (op : Int64) (x y : ST)
inductive FT where
  | test (a : Nat) (l r : ST) (sg : Int32)
  | inv (a : Nat) (x : FT)
  | two (a : Nat) (or : Bool) (x y : FT)
  | pair (a b c : Nat) (s l r : ST)
def ST.root : ST → Nat
  | .leaf a _ _ => a
  | .minus a _ => a
  | .group a _ => a
  | .acc a _ _ _ => a
  | .two a _ _ _ => a
def ST.fs : ST → List Value
  | .leaf _ k v => [.int (if k then 1 else 0), .long v, .null, .null, .int 0]
  | .minus _ x => [.int 3, .long 0, .ref x.root, .null, .int 0]
  | .group _ x => [.int 5, .long 0, .ref x.root, .null, .int 0]
  | .acc _ v x z => [.int 4, .long v, .ref x.root, .null, .int z]
  | .two _ v x y => [.int 2, .long v, .ref x.root, .ref y.root, .int 0]
def ST.ent (T : ST) : va_E := .inr (14, T.fs)
def ST.cells : ST → va_W
  | .leaf a k v => [(a, ST.ent (.leaf a k v))]
  | .minus a x => x.cells ++ [(a, ST.ent (.minus a x))]
  | .group a x => x.cells ++ [(a, ST.ent (.group a x))]
  | .acc a v x z => x.cells ++ [(a, ST.ent (.acc a v x z))]
  | .two a v x y => (x.cells ++ y.cells) ++ [(a, ST.ent (.two a v x y))]
/-- how deep sumOf goes into itself -/
def ST.dep : ST → Nat
  | .leaf _ _ _ => 0
  | .minus _ x => x.dep + 1
  | .group _ x => x.dep + 1
  | .acc _ _ x _ => x.dep + 1
  | .two _ _ x y => max x.dep (y.dep + 1)
/-- how many nodes -/
def ST.sz : ST → Nat
  | .leaf _ _ _ => 1
  | .minus _ x => x.sz + 1
  | .group _ x => x.sz + 1
  | .acc _ _ x _ => x.sz + 1
  | .two _ _ x y => x.sz + y.sz + 1
/-- how many accesses of four bytes -/
def ST.c4 : ST → Nat
  | .leaf _ _ _ => 0
  | .minus _ x => x.c4
  | .group _ x => x.c4
  | .acc _ _ x z => x.c4 + (if z = 4 then 1 else 0)
  | .two _ _ x y => x.c4 + y.c4
def FT.root : FT → Nat
  | .test a _ _ _ => a
  | .inv a _ => a
  | .two a _ _ _ => a
  | .pair a _ _ _ _ _ => a
/-- a filter's fields, its first test being z -/
def FT.fs (z : Int32) : FT → List Value
  | .test _ l r sg => [.int 0, .null, .null, .ref l.root, .ref r.root, .int sg, .int z]
  | .inv _ x => [.int 3, .ref x.root, .null, .null, .null, .int 0, .int z]
  | .two _ k x y => [.int (if k then 2 else 1), .ref x.root, .ref y.root, .null, .null, .int 0, .int z]
  | .pair _ b c _ _ _ => [.int 1, .ref b, .ref c, .null, .null, .int 0, .int z]
def fixed (x : Nat × va_E) : Nat × (Int32 → va_E) := (x.1, fun _ => x.2)
/-- its cells but for what their first tests are -/
def FT.ent (T : FT) (z : Int32) : va_E := .inr (12, T.fs z)
def FT.shape : FT → List (Nat × (Int32 → va_E))
  | .test a l r sg => (l.cells ++ r.cells).map fixed ++ [(a, FT.ent (.test a l r sg))]
  | .inv a x => x.shape ++ [(a, FT.ent (.inv a x))]
  | .two a k x y => (x.shape ++ y.shape) ++ [(a, FT.ent (.two a k x y))]
  | .pair a b c s l r => ((s.cells ++ l.cells) ++ r.cells).map fixed ++ [(b, FT.ent (.test b s l 3)), (c, FT.ent (.test c s r 11)), (a, FT.ent (.two a false (.test b s l 3) (.test c s r 11)))]
abbrev pl_of (F : Nat → Int32) (L : List (Nat × (Int32 → va_E))) : va_W := L.map (fun x => (x.1, x.2 (F x.1)))
def FT.cells (F : Nat → Int32) (T : FT) : va_W := pl_of F T.shape
def FT.dep : FT → Nat
  | .test _ l r _ => max l.dep r.dep
  | .inv _ x => x.dep
  | .two _ _ x y => max x.dep y.dep
  | .pair _ _ _ s l r => max s.dep (max l.dep r.dep)
def FT.sz : FT → Nat
  | .test _ l r _ => l.sz + r.sz + 1
  | .inv _ x => x.sz + 1
  | .two _ _ x y => x.sz + y.sz + 1
  | .pair _ _ _ s l r => s.sz + l.sz + r.sz + 3
def FT.tests : FT → Nat
  | .test _ _ _ _ => 1
  | .inv _ x => x.tests
  | .two _ _ x y => x.tests + y.tests
  | .pair _ _ _ _ _ _ => 2
def FT.c4 : FT → Nat
  | .test _ l r _ => l.c4 + r.c4
  | .inv _ x => x.c4
  | .two _ _ x y => x.c4 + y.c4
  | .pair _ _ _ s l r => 2 * s.c4 + l.c4 + r.c4
theorem FT.tests_pos : ∀ T : FT, 1 ≤ T.tests
  | .test _ _ _ _ => Nat.le_refl _
  | .inv _ x => FT.tests_pos x
  | .two _ _ x y => Nat.le_trans (FT.tests_pos x) (Nat.le_add_right _ _)
  | .pair _ _ _ _ _ _ => by show (1 : Nat) ≤ 2; decide
theorem FT.tests_sz : ∀ T : FT, T.tests ≤ T.sz
  | .test _ _ _ _ => by simp only [FT.tests, FT.sz]; omega
  | .inv _ x => Nat.le_trans (FT.tests_sz x) (Nat.le_succ _)
  | .two _ _ x y => by have := FT.tests_sz x; have := FT.tests_sz y; simp only [FT.tests, FT.sz]; omega
  | .pair _ _ _ _ _ _ => by simp only [FT.tests, FT.sz]; omega
theorem ST.len : ∀ T : ST, T.cells.length = T.sz
  | .leaf _ _ _ => rfl
  | .minus _ x => by simp only [ST.cells, List.length_append, List.length_cons, List.length_nil, ST.len x, ST.sz]
  | .group _ x => by simp only [ST.cells, List.length_append, List.length_cons, List.length_nil, ST.len x, ST.sz]
  | .acc _ _ x _ => by simp only [ST.cells, List.length_append, List.length_cons, List.length_nil, ST.len x, ST.sz]
  | .two _ _ x y => by simp only [ST.cells, List.length_append, List.length_cons, List.length_nil, ST.len x, ST.len y, ST.sz]
theorem FT.len : ∀ T : FT, T.shape.length = T.sz
  | .test _ l r _ => by simp only [FT.shape, List.length_append, List.length_map, List.length_cons, List.length_nil, ST.len, FT.sz]
  | .inv _ x => by simp only [FT.shape, List.length_append, List.length_cons, List.length_nil, FT.len x, FT.sz]
  | .two _ _ x y => by simp only [FT.shape, List.length_append, List.length_cons, List.length_nil, FT.len x, FT.len y, FT.sz]
  | .pair _ _ _ _ _ _ => by simp only [FT.shape, List.length_append, List.length_map, List.length_cons, List.length_nil, ST.len, FT.sz]
theorem ST.root_mem : ∀ T : ST, (T.root, T.ent) ∈ T.cells
  | .leaf _ _ _ => List.mem_singleton.mpr rfl
  | .minus _ _ => List.mem_append_right _ (List.mem_singleton.mpr rfl)
  | .group _ _ => List.mem_append_right _ (List.mem_singleton.mpr rfl)
  | .acc _ _ _ _ => List.mem_append_right _ (List.mem_singleton.mpr rfl)
  | .two _ _ _ _ => List.mem_append_right _ (List.mem_singleton.mpr rfl)
theorem FT.cells_pair {F : Nat → Int32} {a b c : Nat} {s l r : ST} : (FT.pair a b c s l r).cells F = ((((s.cells ++ l.cells) ++ r.cells) ++ [(b, FT.ent (.test b s l 3) (F b))]) ++ [(c, FT.ent (.test c s r 11) (F c))]) ++ [(a, FT.ent (.two a false (.test b s l 3) (.test c s r 11)) (F a))] := by
  have e : ∀ L : va_W, pl_of F (L.map fixed) = L := fun L => by
    simp only [pl_of, List.map_map]
    exact (List.map_congr_left (fun _ _ => rfl)).trans (List.map_id _)
  show pl_of F (((s.cells ++ l.cells) ++ r.cells).map fixed ++ _) = _
  rw [pl_of, List.map_append, show List.map (fun x => (x.1, x.2 (F x.1))) (((s.cells ++ l.cells) ++ r.cells).map fixed) = _ from e _]
  simp only [List.map_cons, List.map_nil, List.append_assoc, List.cons_append, List.nil_append]
theorem FT.cells_inv {F : Nat → Int32} {a : Nat} {x : FT} : (FT.inv a x).cells F = x.cells F ++ [(a, FT.ent (.inv a x) (F a))] := by
  simp only [FT.cells, FT.shape, pl_of, List.map_append, List.map_cons, List.map_nil]
theorem FT.cells_two {F : Nat → Int32} {a : Nat} {k : Bool} {x y : FT} : (FT.two a k x y).cells F = (x.cells F ++ y.cells F) ++ [(a, FT.ent (.two a k x y) (F a))] := by
  simp only [FT.cells, FT.shape, pl_of, List.map_append, List.map_cons, List.map_nil]
theorem FT.cells_test {F : Nat → Int32} {a : Nat} {l r : ST} {sg : Int32} : (FT.test a l r sg).cells F = (l.cells ++ r.cells) ++ [(a, FT.ent (.test a l r sg) (F a))] := by
  simp only [FT.cells, FT.shape, pl_of, List.map_append, List.map_cons, List.map_nil, List.map_map]
  congr 1
  congr 1 <;> exact (List.map_congr_left (fun _ _ => rfl)).trans (List.map_id _)
/-- where it lies in a world -/
theorem pl_get {X pl : va_W} {x : Nat × va_E} (h : x ∈ pl) : ∃ k : Nat, (X ++ pl)[k]? = some x := List.getElem?_of_mem (List.mem_append_right _ h)
theorem va_P_iff {D : va_G} {cl : List vw_C} {ws : va_W} {H : Heap} : va_P D cl ws H ↔ ∀ x ∈ ws, va_at D cl x H := ⟨fun h x hx => by
  obtain ⟨k, hk⟩ := List.getElem?_of_mem hx
  exact h k x hk, fun h k x hk => h x (List.mem_of_getElem? hk)⟩
theorem va_D_iff {A : Nat → Prop} {ws : va_W} : va_D A ws ↔ (ws.map (·.1)).Nodup ∧ ∀ x ∈ ws, A x.1 := by
  constructor
  · intro h
    refine ⟨List.pairwise_iff_getElem.mpr (fun i j hi hj hij heq => ?_), fun x hx => ?_⟩
    · rw [List.length_map] at hi hj
      rw [List.getElem_map, List.getElem_map] at heq
      have := h.1 i j _ _ (List.getElem?_eq_getElem hi) (List.getElem?_eq_getElem hj) heq
      omega
    · obtain ⟨k, hk⟩ := List.getElem?_of_mem hx
      exact h.2 k x hk
  · intro h
    refine ⟨fun i j x y hi hj he => ?_, fun k x hk => h.2 x (List.mem_of_getElem? hk)⟩
    have h1 := List.pairwise_iff_getElem.mp h.1
    obtain ⟨hil, ei⟩ := List.getElem?_eq_some_iff.mp hi
    obtain ⟨hjl, ej⟩ := List.getElem?_eq_some_iff.mp hj
    rcases Nat.lt_trichotomy i j with q | q | q
    · exact absurd (by rw [List.getElem_map, List.getElem_map, ei, ej]; exact he) (h1 i j (by rw [List.length_map]; exact hil) (by rw [List.length_map]; exact hjl) q)
    · exact q
    · exact absurd (by rw [List.getElem_map, List.getElem_map, ei, ej]; exact he.symm) (h1 j i (by rw [List.length_map]; exact hjl) (by rw [List.length_map]; exact hil) q)
theorem va_P.perm {D : va_G} {cl : List vw_C} {ws ws' : va_W} {H : Heap} (h : va_P D cl ws H) (hp : ws.Perm ws') : va_P D cl ws' H := va_P_iff.mpr (fun x hx => va_P_iff.mp h x (hp.mem_iff.mpr hx))
theorem va_D.perm {A : Nat → Prop} {ws ws' : va_W} (h : va_D A ws) (hp : ws.Perm ws') : va_D A ws' := va_D_iff.mpr ⟨((hp.map (·.1)).nodup_iff).mp (va_D_iff.mp h).1, fun x hx => (va_D_iff.mp h).2 x (hp.mem_iff.mpr hx)⟩
/-- what is first tests' number, written anew -/
theorem pl_set {A : Nat → Prop} {X : va_W} {L : List (Nat × (Int32 → va_E))} {F : Nat → Int32} {a k : Nat} {g : Int32 → va_E} {v : Int32} (hD : va_D A (X ++ pl_of F L)) (h : (a, g) ∈ L) (hk : (X ++ pl_of F L)[k]? = some (a, g (F a))) : (X ++ pl_of F L).set k (a, g v) = X ++ pl_of (va_up F a v) L := by
  obtain ⟨i, hi⟩ := List.getElem?_of_mem h
  have h2 : (X ++ pl_of F L)[X.length + i]? = some (a, g (F a)) := by
    rw [List.getElem?_append_right (by omega), Nat.add_sub_cancel_left, List.getElem?_map, hi]; rfl
  have hki := hD.1 k (X.length + i) _ _ hk h2 rfl
  subst hki
  apply List.ext_getElem?
  intro j
  by_cases hj : X.length + i = j
  · subst hj
    rw [List.getElem?_set_self (List.getElem?_eq_some_iff.mp h2).1, List.getElem?_append_right (by omega), Nat.add_sub_cancel_left, List.getElem?_map, hi]
    simp [va_up]
  · rw [List.getElem?_set_ne hj]
    by_cases hjx : j < X.length
    · rw [List.getElem?_append_left hjx, List.getElem?_append_left hjx]
    · rw [List.getElem?_append_right (by omega), List.getElem?_append_right (by omega), List.getElem?_map, List.getElem?_map]
      cases hb : L[j - X.length]? with
      | none => rfl
      | some b =>
        have hba : b.1 ≠ a := by
          intro hab
          have h3 : (X ++ pl_of F L)[j]? = some (b.1, b.2 (F b.1)) := by
            rw [List.getElem?_append_right (by omega), List.getElem?_map, hb]; rfl
          exact hj (hD.1 _ _ _ _ h2 h3 hab.symm)
        simp [va_up, hba]
/-- a pool's segments in another order -/
theorem seg_perm {α : Type} {a b : List α} (h : ∀ f : α → Nat, (a.map f).sum = (b.map f).sum) : a.Perm b := by
  classical
  refine List.perm_iff_count.mpr (fun x => ?_)
  have := h (fun y => if y = x then 1 else 0)
  have e : ∀ l : List α, (l.map (fun y => if y = x then 1 else 0)).sum = l.count x := by
    intro l
    induction l with
    | nil => rfl
    | cons z l ih => simp only [List.map_cons, List.sum_cons, ih, List.count_cons, beq_iff_eq]; omega
  rw [e, e] at this
  exact this
abbrev Z0 : Nat → Int32 := fun _ => 0
theorem pool_in {D : va_G} {cl : List vw_C} {X c pl : va_W} {H : Heap} (h : va_P D cl ((X ++ c) ++ pl) H) : va_P D cl (X ++ (pl ++ c)) H := h.perm (seg_perm (fun f => by simp only [List.map_append, List.sum_append]; omega))
theorem pool_inD {A : Nat → Prop} {X c pl : va_W} (h : va_D A ((X ++ c) ++ pl)) : va_D A (X ++ (pl ++ c)) := h.perm (seg_perm (fun f => by simp only [List.map_append, List.sum_append]; omega))
example (a b c : ST) (q r : Nat) : ((((a.cells ++ b.cells) ++ [(q, ST.ent (.two q 3 a b))]) ++ c.cells) ++ [(r, ST.ent (.two r 3 c (.two q 3 a b)))]).Perm (ST.two r 3 c (.two q 3 a b)).cells := seg_perm (fun f => by simp only [ST.cells, List.map_append, List.sum_append]; omega)
section NEWO
variable {p : Program} {l : Launch} {e : Env} {R : Room} {s : State} {m : MethodId} {args : Array Value} {below : List Frame} {meth : Method} {c : Code} {H H0 : Heap} {locs : List Loc} {cells slots k1 n1 pc : Nat} {cc : ByteArray} {ls : Array Slot} {rest : List Value} {Q : State → Prop} {A : Nat → Prop} {D : va_G} {X pl : va_W} {tys : List (ClassId × FieldType)}
/-- a new object, ahead of the pool -/
theorem nw_O (hexec : p.tables.exec = Jvm.exec) (hb : c.code = cc) {own C : String} {T : u_T} {N ci index : Nat} {Ts : List Cond} (hts : ∀ w ∈ Ts, w.before args s = true) (hin : ∀ w ∈ u_ws C T N, w ∈ Ts) (ty : Nat → FieldType) (hty : ∀ k, k < N → parseFieldDescriptor (T k).2.2.1 = some (ty k)) (hown : s.vm.findClass own = some m.cls) (hcl : (Cond.classLink own index C).before args s = true) (hinst : (Cond.instantiable C N).before args s = true) (hini : (Cond.initialized C).before args s = true)
    (hK : va_K D vwCl tys s) (hP : va_P D vwCl (X ++ pl) H) (hD : va_D A (X ++ pl)) (hS : va_S A H0 H locs) (hA : ∀ q, H0.size ≤ q → A q) (hc : vwCl[ci]? = some (C, T, N)) {fs : List Value} (hfs : ∀ j, j < N → defaultValue (ty j) = vp_V fs j) (h1 : cells + 1 ≤ k1) (h2 : slots + N ≤ n1) (hcells : k1 ≤ R.cells) (hslots : n1 ≤ R.slots) (hdg : decode cc pc = .ok (.new index, 3))
    (kk : ∀ (q : Nat) (H1 : Heap), va_P D vwCl ((X ++ [(q, .inr (ci, fs))]) ++ pl) H1 → va_D A ((X ++ [(q, .inr (ci, fs))]) ++ pl) → va_S A H0 H1 locs →
      W p l e R s m args below meth c H1 locs k1 n1 Q (F0 m (pc + 3) ls (.ref q :: rest))) : W p l e R s m args below meth c H locs cells slots Q (F0 m pc ls rest) :=
  va_new hexec hb hts hin ty hty hown hcl hinst hini hK hP hD hS hA hc hfs (Nat.le_trans h1 hcells) (Nat.le_trans h2 hslots) hdg (fun q H1 hP hD hS => W.widen h1 h2 (kk q H1 (hP.perm (seg_perm (fun f => by simp only [List.map_append, List.sum_append]; omega))) (hD.perm (seg_perm (fun f => by simp only [List.map_append, List.sum_append]; omega))) hS))
end NEWO
theorem seg_sum {α : Type} {a b : List α} (h : a.Perm b) (f : α → Nat) : (a.map f).sum = (b.map f).sum := (h.map f).sum_nat
