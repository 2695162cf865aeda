/-! the reference's trees: sums (class 14) and filters (class 12); each knows its cells. No inductive type: a tree is root, fields, cells, nodes, depth, accesses of four bytes -/
def ST : Type := Nat × List Value × va_W × Nat × Nat × Nat
section STS
def ST.root (T : ST) : Nat := T.1
def ST.fs (T : ST) : List Value := T.2.1
def ST.cells (T : ST) : va_W := T.2.2.1
def ST.sz (T : ST) : Nat := T.2.2.2.1
def ST.dep (T : ST) : Nat := T.2.2.2.2.1
def ST.c4 (T : ST) : Nat := T.2.2.2.2.2
def ST.ent (T : ST) : va_E := .inr (14, T.fs)
def ST.mk (a : Nat) (f : List Value) (cs : va_W) (n d k : Nat) : ST := (a, f, cs ++ [(a, .inr (14, f))], n, d, k)
def ST.leaf (a : Nat) (len : Bool) (v : Int64) : ST := mk a [.int (if len then 1 else 0), .long v, .null, .null, .int 0] [] 1 0 0
def ST.minus (a : Nat) (x : ST) : ST := mk a [.int 3, .long 0, .ref x.root, .null, .int 0] x.cells (x.sz + 1) (x.dep + 1) x.c4
def ST.group (a : Nat) (x : ST) : ST := mk a [.int 5, .long 0, .ref x.root, .null, .int 0] x.cells (x.sz + 1) (x.dep + 1) x.c4
def ST.acc (a : Nat) (v : Int64) (x : ST) (z : Int32) : ST := mk a [.int 4, .long v, .ref x.root, .null, .int z] x.cells (x.sz + 1) (x.dep + 1) (x.c4 + (if z = 4 then 1 else 0))
def ST.two (a : Nat) (v : Int64) (x y : ST) : ST := mk a [.int 2, .long v, .ref x.root, .ref y.root, .int 0] (x.cells ++ y.cells) (x.sz + y.sz + 1) (max x.dep (y.dep + 1)) (x.c4 + y.c4)
variable {a : Nat} {len : Bool} {v : Int64} {x y : ST} {z : Int32}
theorem ST.cells_leaf : (leaf a len v).cells = [(a, (leaf a len v).ent)] := rfl
theorem ST.cells_minus : (minus a x).cells = x.cells ++ [(a, (minus a x).ent)] := rfl
theorem ST.cells_group : (group a x).cells = x.cells ++ [(a, (group a x).ent)] := rfl
theorem ST.cells_acc : (acc a v x z).cells = x.cells ++ [(a, (acc a v x z).ent)] := rfl
theorem ST.cells_two : (two a v x y).cells = (x.cells ++ y.cells) ++ [(a, (two a v x y).ent)] := rfl
theorem ST.sz_leaf : (leaf a len v).sz = 1 := rfl
theorem ST.sz_minus : (minus a x).sz = x.sz + 1 := rfl
theorem ST.sz_group : (group a x).sz = x.sz + 1 := rfl
theorem ST.sz_acc : (acc a v x z).sz = x.sz + 1 := rfl
theorem ST.sz_two : (two a v x y).sz = x.sz + y.sz + 1 := rfl
theorem ST.dep_leaf : (leaf a len v).dep = 0 := rfl
theorem ST.dep_minus : (minus a x).dep = x.dep + 1 := rfl
theorem ST.dep_group : (group a x).dep = x.dep + 1 := rfl
theorem ST.dep_acc : (acc a v x z).dep = x.dep + 1 := rfl
theorem ST.dep_two : (two a v x y).dep = max x.dep (y.dep + 1) := rfl
theorem ST.c4_leaf : (leaf a len v).c4 = 0 := rfl
theorem ST.c4_minus : (minus a x).c4 = x.c4 := rfl
theorem ST.c4_group : (group a x).c4 = x.c4 := rfl
theorem ST.c4_acc : (acc a v x z).c4 = x.c4 + (if z = 4 then 1 else 0) := rfl
theorem ST.c4_two : (two a v x y).c4 = x.c4 + y.c4 := rfl
/-- made by these alone, in at most n steps -/
def ST.by_ : Nat → ST → Prop
  | 0, _ => False
  | n + 1, T => (∃ a len v, T = leaf a len v) ∨ (∃ a x, by_ n x ∧ T = minus a x) ∨ (∃ a x, by_ n x ∧ T = group a x) ∨ (∃ a v x z, by_ n x ∧ (1 ≤ z.toInt ∧ z.toInt ≤ 4) ∧ T = acc a v x z) ∨ (∃ a v x y, by_ n x ∧ by_ n y ∧ T = two a v x y)
theorem ST.by_mono : ∀ {n m : Nat} {T : ST}, by_ n T → n ≤ m → by_ m T
  | 0, _, _, h, _ => h.elim
  | n + 1, 0, _, _, h => absurd h (Nat.not_succ_le_zero _)
  | n + 1, m + 1, T, h, hm => by
    have hm := Nat.le_of_succ_le_succ hm
    rcases h with h | ⟨a, x, h1, h2⟩ | ⟨a, x, h1, h2⟩ | ⟨a, v, x, z, h1, hz, h2⟩ | ⟨a, v, x, y, h1, h2, h3⟩
    · exact Or.inl h
    · exact Or.inr (Or.inl ⟨a, x, by_mono h1 hm, h2⟩)
    · exact Or.inr (Or.inr (Or.inl ⟨a, x, by_mono h1 hm, h2⟩))
    · exact Or.inr (Or.inr (Or.inr (Or.inl ⟨a, v, x, z, by_mono h1 hm, hz, h2⟩)))
    · exact Or.inr (Or.inr (Or.inr (Or.inr ⟨a, v, x, y, by_mono h1 hm, by_mono h2 hm, h3⟩)))
def ST.ok (T : ST) : Prop := ∃ n, by_ n T
theorem ST.ok_leaf : (leaf a len v).ok := ⟨1, Or.inl ⟨_, _, _, rfl⟩⟩
theorem ST.ok_minus (h : x.ok) : (minus a x).ok := by obtain ⟨n, h⟩ := h; exact ⟨n + 1, Or.inr (Or.inl ⟨_, _, h, rfl⟩)⟩
theorem ST.ok_group (h : x.ok) : (group a x).ok := by obtain ⟨n, h⟩ := h; exact ⟨n + 1, Or.inr (Or.inr (Or.inl ⟨_, _, h, rfl⟩))⟩
theorem ST.ok_acc (h : x.ok) (hz : 1 ≤ z.toInt ∧ z.toInt ≤ 4) : (acc a v x z).ok := by obtain ⟨n, h⟩ := h; exact ⟨n + 1, Or.inr (Or.inr (Or.inr (Or.inl ⟨_, _, _, _, h, hz, rfl⟩)))⟩
theorem ST.ok_two (h : x.ok) (h2 : y.ok) : (two a v x y).ok := by
  obtain ⟨n, h⟩ := h
  obtain ⟨m, h2⟩ := h2
  exact ⟨max n m + 1, Or.inr (Or.inr (Or.inr (Or.inr ⟨_, _, _, _, by_mono h (Nat.le_max_left _ _), by_mono h2 (Nat.le_max_right _ _), rfl⟩)))⟩
end STS
def fixed (x : Nat × va_E) : Nat × (Int32 → va_E) := (x.1, fun _ => x.2)
abbrev pl_of (F : Nat → Int32) (L : List (Nat × (Int32 → va_E))) : va_W := L.map (fun x => (x.1, x.2 (F x.1)))
/-- a filter: root, fields by its first test, cells by theirs, nodes, depth, accesses of four bytes, tests -/
def FT : Type := Nat × (Int32 → List Value) × List (Nat × (Int32 → va_E)) × Nat × Nat × Nat × Nat
section FTS
def FT.root (T : FT) : Nat := T.1
def FT.fs (T : FT) (z : Int32) : List Value := T.2.1 z
def FT.shape (T : FT) : List (Nat × (Int32 → va_E)) := T.2.2.1
def FT.sz (T : FT) : Nat := T.2.2.2.1
def FT.dep (T : FT) : Nat := T.2.2.2.2.1
def FT.c4 (T : FT) : Nat := T.2.2.2.2.2.1
def FT.tests (T : FT) : Nat := T.2.2.2.2.2.2
def FT.ent (T : FT) (z : Int32) : va_E := .inr (12, T.fs z)
def FT.cells (F : Nat → Int32) (T : FT) : va_W := pl_of F T.shape
def FT.mk (a : Nat) (f : Int32 → List Value) (cs : List (Nat × (Int32 → va_E))) (n d k t : Nat) : FT := (a, f, cs ++ [(a, fun z => .inr (12, f z))], n, d, k, t)
def FT.test (a : Nat) (l r : ST) (sg : Int32) : FT := mk a (fun z => [.int 0, .null, .null, .ref l.root, .ref r.root, .int sg, .int z]) ((l.cells ++ r.cells).map fixed) (l.sz + r.sz + 1) (max l.dep r.dep) (l.c4 + r.c4) 1
def FT.inv (a : Nat) (x : FT) : FT := mk a (fun z => [.int 3, .ref x.root, .null, .null, .null, .int 0, .int z]) x.shape (x.sz + 1) x.dep x.c4 x.tests
def FT.two (a : Nat) (or : Bool) (x y : FT) : FT := mk a (fun z => [.int (if or then 2 else 1), .ref x.root, .ref y.root, .null, .null, .int 0, .int z]) (x.shape ++ y.shape) (x.sz + y.sz + 1) (max x.dep y.dep) (x.c4 + y.c4) (x.tests + y.tests)
/-- the two tests of a range share their sum -/
def FT.pair (a b c : Nat) (s l r : ST) : FT := mk a (fun z => [.int 1, .ref b, .ref c, .null, .null, .int 0, .int z]) (((s.cells ++ l.cells) ++ r.cells).map fixed ++ [(b, ent (test b s l 3)), (c, ent (test c s r 11))]) (2 * s.sz + l.sz + r.sz + 3) (max s.dep (max l.dep r.dep)) (2 * s.c4 + l.c4 + r.c4) 2
variable {F : Nat → Int32} {a b c : Nat} {or : Bool} {x y : FT} {s l r : ST} {sg : Int32}
theorem pl_fixed (L : va_W) : pl_of F (L.map fixed) = L := by
  simp only [pl_of, List.map_map]
  exact (List.map_congr_left (fun _ _ => rfl)).trans (List.map_id _)
theorem FT.cells_test : (test a l r sg).cells F = (l.cells ++ r.cells) ++ [(a, (test a l r sg).ent (F a))] := by
  show pl_of F ((l.cells ++ r.cells).map fixed ++ _) = _
  rw [pl_of, List.map_append, show List.map (fun x => (x.1, x.2 (F x.1))) ((l.cells ++ r.cells).map fixed) = _ from pl_fixed _]
  rfl
theorem FT.cells_inv : (inv a x).cells F = x.cells F ++ [(a, (inv a x).ent (F a))] := by
  show pl_of F (x.shape ++ _) = _
  rw [pl_of, List.map_append]
  rfl
theorem FT.cells_two : (two a or x y).cells F = (x.cells F ++ y.cells F) ++ [(a, (two a or x y).ent (F a))] := by
  show pl_of F ((x.shape ++ y.shape) ++ _) = _
  rw [pl_of, List.map_append, List.map_append]
  rfl
theorem FT.cells_pair : (pair a b c s l r).cells F = ((((s.cells ++ l.cells) ++ r.cells) ++ [(b, (test b s l 3).ent (F b))]) ++ [(c, (test c s r 11).ent (F c))]) ++ [(a, (two a false (test b s l 3) (test c s r 11)).ent (F a))] := by
  show pl_of F ((((s.cells ++ l.cells) ++ r.cells).map fixed ++ _) ++ _) = _
  rw [pl_of, List.map_append, List.map_append, show List.map (fun x => (x.1, x.2 (F x.1))) (((s.cells ++ l.cells) ++ r.cells).map fixed) = _ from pl_fixed _]
  simp only [List.map_cons, List.map_nil, List.append_assoc, List.cons_append, List.nil_append]
  rfl
theorem FT.sz_test : (test a l r sg).sz = l.sz + r.sz + 1 := rfl
theorem FT.sz_inv : (inv a x).sz = x.sz + 1 := rfl
theorem FT.sz_two : (two a or x y).sz = x.sz + y.sz + 1 := rfl
theorem FT.sz_pair : (pair a b c s l r).sz = 2 * s.sz + l.sz + r.sz + 3 := rfl
theorem FT.dep_test : (test a l r sg).dep = max l.dep r.dep := rfl
theorem FT.dep_inv : (inv a x).dep = x.dep := rfl
theorem FT.dep_two : (two a or x y).dep = max x.dep y.dep := rfl
theorem FT.dep_pair : (pair a b c s l r).dep = max s.dep (max l.dep r.dep) := rfl
theorem FT.c4_test : (test a l r sg).c4 = l.c4 + r.c4 := rfl
theorem FT.c4_inv : (inv a x).c4 = x.c4 := rfl
theorem FT.c4_two : (two a or x y).c4 = x.c4 + y.c4 := rfl
theorem FT.c4_pair : (pair a b c s l r).c4 = 2 * s.c4 + l.c4 + r.c4 := rfl
def FT.by_ : Nat → FT → Prop
  | 0, _ => False
  | n + 1, T => (∃ a l r sg, l.ok ∧ r.ok ∧ T = test a l r sg) ∨ (∃ a x, by_ n x ∧ T = inv a x) ∨ (∃ a or x y, by_ n x ∧ by_ n y ∧ T = two a or x y) ∨ (∃ a b c s l r, s.ok ∧ l.ok ∧ r.ok ∧ T = pair a b c s l r)
theorem FT.by_mono : ∀ {n m : Nat} {T : FT}, by_ n T → n ≤ m → by_ m T
  | 0, _, _, h, _ => h.elim
  | n + 1, 0, _, _, h => absurd h (Nat.not_succ_le_zero _)
  | n + 1, m + 1, T, h, hm => by
    have hm := Nat.le_of_succ_le_succ hm
    rcases h with h | ⟨a, x, h1, h2⟩ | ⟨a, or, x, y, h1, h2, h3⟩ | h
    · exact Or.inl h
    · exact Or.inr (Or.inl ⟨a, x, by_mono h1 hm, h2⟩)
    · exact Or.inr (Or.inr (Or.inl ⟨a, or, x, y, by_mono h1 hm, by_mono h2 hm, h3⟩))
    · exact Or.inr (Or.inr (Or.inr h))
def FT.ok (T : FT) : Prop := ∃ n, by_ n T
theorem FT.ok_test (h : l.ok) (h2 : r.ok) : (test a l r sg).ok := ⟨1, Or.inl ⟨_, _, _, _, h, h2, rfl⟩⟩
theorem FT.ok_inv (h : x.ok) : (inv a x).ok := by obtain ⟨n, h⟩ := h; exact ⟨n + 1, Or.inr (Or.inl ⟨_, _, h, rfl⟩)⟩
theorem FT.ok_two (h : x.ok) (h2 : y.ok) : (two a or x y).ok := by
  obtain ⟨n, h⟩ := h
  obtain ⟨m, h2⟩ := h2
  exact ⟨max n m + 1, Or.inr (Or.inr (Or.inl ⟨_, _, _, _, by_mono h (Nat.le_max_left _ _), by_mono h2 (Nat.le_max_right _ _), rfl⟩))⟩
theorem FT.ok_pair (h : s.ok) (h2 : l.ok) (h3 : r.ok) : (pair a b c s l r).ok := ⟨1, Or.inr (Or.inr (Or.inr ⟨_, _, _, _, _, _, h, h2, h3, rfl⟩))⟩
end FTS
/-- where it lies in a world -/
theorem pl_get {X pl : va_W} {x : Nat × va_E} (h : x ∈ pl) : ∃ k : Nat, (X ++ pl)[k]? = some x := List.getElem?_of_mem (List.mem_append_right _ h)
theorem va_P_iff {D : va_G} {cl : List vw_C} {ws : va_W} {H : Heap} : va_P D cl ws H ↔ ∀ x ∈ ws, va_at D cl x H := ⟨fun h x hx => by
  obtain ⟨k, hk⟩ := List.getElem?_of_mem hx
  exact h k x hk, fun h k x hk => h x (List.mem_of_getElem? hk)⟩
theorem va_D_iff {A : Nat → Prop} {ws : va_W} : va_D A ws ↔ (ws.map (·.1)).Nodup ∧ ∀ x ∈ ws, A x.1 := by
  constructor
  · intro h
    refine ⟨List.pairwise_iff_getElem.mpr (fun i j hi hj hij heq => ?_), fun x hx => ?_⟩
    · rw [List.length_map] at hi hj
      rw [List.getElem_map, List.getElem_map] at heq
      have := h.1 i j _ _ (List.getElem?_eq_getElem hi) (List.getElem?_eq_getElem hj) heq
      omega
    · obtain ⟨k, hk⟩ := List.getElem?_of_mem hx
      exact h.2 k x hk
  · intro h
    refine ⟨fun i j x y hi hj he => ?_, fun k x hk => h.2 x (List.mem_of_getElem? hk)⟩
    have h1 := List.pairwise_iff_getElem.mp h.1
    obtain ⟨hil, ei⟩ := List.getElem?_eq_some_iff.mp hi
    obtain ⟨hjl, ej⟩ := List.getElem?_eq_some_iff.mp hj
    rcases Nat.lt_trichotomy i j with q | q | q
    · exact absurd (by rw [List.getElem_map, List.getElem_map, ei, ej]; exact he) (h1 i j (by rw [List.length_map]; exact hil) (by rw [List.length_map]; exact hjl) q)
    · exact q
    · exact absurd (by rw [List.getElem_map, List.getElem_map, ei, ej]; exact he.symm) (h1 j i (by rw [List.length_map]; exact hjl) (by rw [List.length_map]; exact hil) q)
theorem va_P.perm {D : va_G} {cl : List vw_C} {ws ws' : va_W} {H : Heap} (h : va_P D cl ws H) (hp : ws.Perm ws') : va_P D cl ws' H := va_P_iff.mpr (fun x hx => va_P_iff.mp h x (hp.mem_iff.mpr hx))
theorem va_D.perm {A : Nat → Prop} {ws ws' : va_W} (h : va_D A ws) (hp : ws.Perm ws') : va_D A ws' := va_D_iff.mpr ⟨((hp.map (·.1)).nodup_iff).mp (va_D_iff.mp h).1, fun x hx => (va_D_iff.mp h).2 x (hp.mem_iff.mpr hx)⟩
/-- what is first tests' number, written anew -/
theorem pl_set {A : Nat → Prop} {X : va_W} {L : List (Nat × (Int32 → va_E))} {F : Nat → Int32} {a k : Nat} {g : Int32 → va_E} {v : Int32} (hD : va_D A (X ++ pl_of F L)) (h : (a, g) ∈ L) (hk : (X ++ pl_of F L)[k]? = some (a, g (F a))) : (X ++ pl_of F L).set k (a, g v) = X ++ pl_of (va_up F a v) L := by
  obtain ⟨i, hi⟩ := List.getElem?_of_mem h
  have h2 : (X ++ pl_of F L)[X.length + i]? = some (a, g (F a)) := by
    rw [List.getElem?_append_right (by omega), Nat.add_sub_cancel_left, List.getElem?_map, hi]; rfl
  have hki := hD.1 k (X.length + i) _ _ hk h2 rfl
  subst hki
  apply List.ext_getElem?
  intro j
  by_cases hj : X.length + i = j
  · subst hj
    rw [List.getElem?_set_self (List.getElem?_eq_some_iff.mp h2).1, List.getElem?_append_right (by omega), Nat.add_sub_cancel_left, List.getElem?_map, hi]
    simp [va_up]
  · rw [List.getElem?_set_ne hj]
    by_cases hjx : j < X.length
    · rw [List.getElem?_append_left hjx, List.getElem?_append_left hjx]
    · rw [List.getElem?_append_right (by omega), List.getElem?_append_right (by omega), List.getElem?_map, List.getElem?_map]
      cases hb : L[j - X.length]? with
      | none => rfl
      | some b =>
        have hba : b.1 ≠ a := by
          intro hab
          have h3 : (X ++ pl_of F L)[j]? = some (b.1, b.2 (F b.1)) := by
            rw [List.getElem?_append_right (by omega), List.getElem?_map, hb]; rfl
          exact hj (hD.1 _ _ _ _ h2 h3 hab.symm)
        simp [va_up, hba]
/-- a pool's segments in another order -/
theorem seg_perm {α : Type} {a b : List α} (h : ∀ f : α → Nat, (a.map f).sum = (b.map f).sum) : a.Perm b := by
  classical
  refine List.perm_iff_count.mpr (fun x => ?_)
  have := h (fun y => if y = x then 1 else 0)
  have e : ∀ l : List α, (l.map (fun y => if y = x then 1 else 0)).sum = l.count x := by
    intro l
    induction l with
    | nil => rfl
    | cons z l ih => simp only [List.map_cons, List.sum_cons, ih, List.count_cons, beq_iff_eq]; omega
  rw [e, e] at this
  exact this
abbrev Z0 : Nat → Int32 := fun _ => 0
theorem pool_in {D : va_G} {cl : List vw_C} {X c pl : va_W} {H : Heap} (h : va_P D cl ((X ++ c) ++ pl) H) : va_P D cl (X ++ (pl ++ c)) H := h.perm (seg_perm (fun f => by simp only [List.map_append, List.sum_append]; omega))
theorem pool_inD {A : Nat → Prop} {X c pl : va_W} (h : va_D A ((X ++ c) ++ pl)) : va_D A (X ++ (pl ++ c)) := h.perm (seg_perm (fun f => by simp only [List.map_append, List.sum_append]; omega))
section NEWO
variable {p : Program} {l : Launch} {e : Env} {R : Room} {s : State} {m : MethodId} {args : Array Value} {below : List Frame} {meth : Method} {c : Code} {H H0 : Heap} {locs : List Loc} {cells slots k1 n1 pc : Nat} {cc : ByteArray} {ls : Array Slot} {rest : List Value} {Q : State → Prop} {A : Nat → Prop} {D : va_G} {X pl : va_W} {tys : List (ClassId × FieldType)}
/-- a new object, ahead of the pool -/
theorem nw_O (hexec : p.tables.exec = Jvm.exec) (hb : c.code = cc) {own C : String} {T : u_T} {N ci index : Nat} {Ts : List Cond} (hts : ∀ w ∈ Ts, w.before args s = true) (hin : ∀ w ∈ u_ws C T N, w ∈ Ts) (ty : Nat → FieldType) (hty : ∀ k, k < N → parseFieldDescriptor (T k).2.2.1 = some (ty k)) (hown : s.vm.findClass own = some m.cls) (hcl : (Cond.classLink own index C).before args s = true) (hinst : (Cond.instantiable C N).before args s = true) (hini : (Cond.initialized C).before args s = true)
    (hK : va_K D vwCl tys s) (hP : va_P D vwCl (X ++ pl) H) (hD : va_D A (X ++ pl)) (hS : va_S A H0 H locs) (hA : ∀ q, H0.size ≤ q → A q) (hc : vwCl[ci]? = some (C, T, N)) {fs : List Value} (hfs : ∀ j, j < N → defaultValue (ty j) = vp_V fs j) (h1 : cells + 1 ≤ k1) (h2 : slots + N ≤ n1) (hcells : k1 ≤ R.cells) (hslots : n1 ≤ R.slots) (hdg : decode cc pc = .ok (.new index, 3))
    (kk : ∀ (q : Nat) (H1 : Heap), va_P D vwCl ((X ++ [(q, .inr (ci, fs))]) ++ pl) H1 → va_D A ((X ++ [(q, .inr (ci, fs))]) ++ pl) → va_S A H0 H1 locs →
      W p l e R s m args below meth c H1 locs k1 n1 Q (F0 m (pc + 3) ls (.ref q :: rest))) : W p l e R s m args below meth c H locs cells slots Q (F0 m pc ls rest) :=
  va_new hexec hb hts hin ty hty hown hcl hinst hini hK hP hD hS hA hc hfs (Nat.le_trans h1 hcells) (Nat.le_trans h2 hslots) hdg (fun q H1 hP hD hS => W.widen h1 h2 (kk q H1 (hP.perm (seg_perm (fun f => by simp only [List.map_append, List.sum_append]; omega))) (hD.perm (seg_perm (fun f => by simp only [List.map_append, List.sum_append]; omega))) hS))
end NEWO
theorem seg_sum {α : Type} {a b : List α} (h : a.Perm b) (f : α → Nat) : (a.map f).sum = (b.map f).sum := (h.map f).sum_nat
