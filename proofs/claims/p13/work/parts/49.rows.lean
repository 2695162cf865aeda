/-! a row with one more -/
def AP (g g2 : Nat → Option Nat) (n : Int) (q : Nat) : Prop := AG g g2 n ∧ ∀ k : Nat, (k : Int) = n → g2 k = some q
def IP (g g2 : Nat → Int32) (n v : Int) : Prop := IW g g2 n ∧ ∀ k : Nat, (k : Int) = n → (g2 k).toInt = v
theorem AP.of {g g1 g2 : Nat → Option Nat} {n : Int} {q : Nat} {i : Int32} (h : AG g g2 n) (e : g2 = va_up g1 i.toNatClampNeg (some q)) (hi : i.toInt = n) (h0 : 0 ≤ n) : AP g g2 n q := ⟨h, fun k hk => by
  have := ncn_nat (i := i) (by omega)
  rw [e]; show (if k = i.toNatClampNeg then _ else g1 k) = _
  rw [if_pos (by omega)]⟩
theorem IP.of {g g1 g2 : Nat → Int32} {n : Int} {i v : Int32} (h : IW g g1 n) (e : g2 = upd g1 i.toNatClampNeg v) (hi : i.toInt = n) (h0 : 0 ≤ n) : IP g g2 n v.toInt := by
  have := ncn_nat (i := i) (by omega)
  subst e
  refine ⟨fun k hk => ?_, fun k hk => ?_⟩
  · unfold upd; rw [if_neg (by omega)]; exact h k hk
  · unfold upd; rw [if_pos (by omega)]
/-! filters: their own nodes, by their first tests; the tests in their order -/
def isFl (e : Int32 → va_E) : Bool := match e 0 with
  | .inr (c, _) => c == 12
  | _ => false
def FSUB (a b : List (Nat × (Int32 → va_E))) : Prop := ∀ c ∈ a, c ∈ b
theorem FSUB.rf {a : List (Nat × (Int32 → va_E))} : FSUB a a := fun _ h => h
theorem FSUB.tr {a b c : List (Nat × (Int32 → va_E))} (h : FSUB a b) (h2 : FSUB b c) : FSUB a c := fun x hx => h2 x (h x hx)
abbrev fent (k : Int32) (a b l r : Value) (sg : Int32) : Int32 → va_E := fun z => .inr (12, [.int k, a, b, l, r, .int sg, .int z])
def FT.fa (T : FT) : List Nat := (T.shape.filter (fun p => isFl p.2)).map (·.1)
theorem ST.cls_ : ∀ {n : Nat} {T : ST}, ST.by_ n T → ∀ c ∈ T.cells, ∃ fs, c.2 = .inr (14, fs)
  | 0, _, h => h.elim
  | n + 1, T, h => by
    intro c hc
    rcases h with ⟨a, b, v, rfl⟩ | ⟨a, x, hx, rfl⟩ | ⟨a, x, hx, rfl⟩ | ⟨a, v, x, z, hx, -, rfl⟩ | ⟨a, v, x, y, hx, hy, rfl⟩
    · rcases List.mem_append.mp hc with h1 | h1
      · exact absurd h1 (List.not_mem_nil)
      · rw [List.mem_singleton.mp h1]; exact ⟨_, rfl⟩
    · rcases List.mem_append.mp hc with h1 | h1
      · exact ST.cls_ hx c h1
      · rw [List.mem_singleton.mp h1]; exact ⟨_, rfl⟩
    · rcases List.mem_append.mp hc with h1 | h1
      · exact ST.cls_ hx c h1
      · rw [List.mem_singleton.mp h1]; exact ⟨_, rfl⟩
    · rcases List.mem_append.mp hc with h1 | h1
      · exact ST.cls_ hx c h1
      · rw [List.mem_singleton.mp h1]; exact ⟨_, rfl⟩
    · rcases List.mem_append.mp hc with h1 | h1
      · rcases List.mem_append.mp h1 with h2 | h2
        · exact ST.cls_ hx c h2
        · exact ST.cls_ hy c h2
      · rw [List.mem_singleton.mp h1]; exact ⟨_, rfl⟩
theorem ST.cls {T : ST} (h : T.ok) : ∀ c ∈ T.cells, ∃ fs, c.2 = .inr (14, fs) := by
  obtain ⟨n, h⟩ := h
  exact ST.cls_ h
theorem fl_fixed {L : va_W} (h : ∀ c ∈ L, ∃ fs, c.2 = .inr (14, fs)) : (L.map fixed).filter (fun p => isFl p.2) = [] := by
  rw [List.filter_eq_nil_iff]
  intro p hp
  obtain ⟨c, hc, rfl⟩ := List.mem_map.mp hp
  obtain ⟨fs, hf⟩ := h c hc
  simp [fixed, isFl, hf]
theorem fl_two {x y : ST} (hx : x.ok) (hy : y.ok) : ((x.cells ++ y.cells).map fixed).filter (fun p => isFl p.2) = [] := fl_fixed (fun c hc => by
  rcases List.mem_append.mp hc with h | h
  · exact ST.cls hx c h
  · exact ST.cls hy c h)
theorem FT.fa_test {a : Nat} {l r : ST} {sg : Int32} (hl : l.ok) (hr : r.ok) : (test a l r sg).fa = [a] := by
  show (List.filter (fun p => isFl p.2) (((l.cells ++ r.cells).map fixed) ++ [(a, _)])).map (·.1) = [a]
  rw [List.filter_append, fl_two hl hr]
  rfl
theorem FT.fa_inv {a : Nat} {x : FT} : (inv a x).fa = x.fa ++ [a] := by
  show (List.filter (fun p => isFl p.2) (x.shape ++ [(a, _)])).map (·.1) = _
  rw [List.filter_append, List.map_append]
  rfl
theorem FT.fa_two {a : Nat} {o : Bool} {x y : FT} : (two a o x y).fa = (x.fa ++ y.fa) ++ [a] := by
  show (List.filter (fun p => isFl p.2) ((x.shape ++ y.shape) ++ [(a, _)])).map (·.1) = _
  rw [List.filter_append, List.filter_append, List.map_append, List.map_append]
  rfl
theorem FT.fa_pair {a b c : Nat} {s l r : ST} (hs : s.ok) (hl : l.ok) (hr : r.ok) : (pair a b c s l r).fa = ([b] ++ [c]) ++ [a] := by
  show (List.filter (fun p => isFl p.2) (((((s.cells ++ l.cells) ++ r.cells).map fixed) ++ [(b, _), (c, _)]) ++ [(a, _)])).map (·.1) = _
  rw [List.filter_append, List.filter_append, fl_fixed (fun d hd => by
    rcases List.mem_append.mp hd with h | h
    · rcases List.mem_append.mp h with h | h
      · exact ST.cls hs d h
      · exact ST.cls hl d h
    · exact ST.cls hr d h)]
  rfl
def FT.isT (T : FT) (l r : ST) (sg : Int32) : Prop := (T.root, fent 0 .null .null (.ref l.root) (.ref r.root) sg) ∈ T.shape ∧ l.ok ∧ r.ok ∧ T.tests = 1 ∧ T.fa = [T.root] ∧ FSUB (l.cells.map fixed) T.shape ∧ FSUB (r.cells.map fixed) T.shape ∧ l.dep ≤ T.dep ∧ r.dep ≤ T.dep ∧ T.sz = l.sz + r.sz + 1 ∧ T.c4 = l.c4 + r.c4
def FT.isN (T x : FT) : Prop := (T.root, fent 3 (.ref x.root) .null .null .null 0) ∈ T.shape ∧ x.ok ∧ T.tests = x.tests ∧ T.fa = x.fa ++ [T.root] ∧ FSUB x.shape T.shape ∧ x.dep ≤ T.dep ∧ T.sz = x.sz + 1 ∧ T.c4 = x.c4
def FT.isB (T : FT) (k : Int32) (x y : FT) : Prop := (T.root, fent k (.ref x.root) (.ref y.root) .null .null 0) ∈ T.shape ∧ x.ok ∧ y.ok ∧ T.tests = x.tests + y.tests ∧ T.fa = (x.fa ++ y.fa) ++ [T.root] ∧ FSUB x.shape T.shape ∧ FSUB y.shape T.shape ∧ x.dep ≤ T.dep ∧ y.dep ≤ T.dep ∧ T.sz = x.sz + y.sz + 1 ∧ T.c4 = x.c4 + y.c4
theorem FT.cases_ {T : FT} (h : T.ok) : (∃ l r sg, T.isT l r sg) ∨ (∃ x, T.isN x) ∨ (∃ x y, T.isB 1 x y) ∨ (∃ x y, T.isB 2 x y) := by
  obtain ⟨n, h⟩ := h
  cases n with
  | zero => exact h.elim
  | succ n =>
    rcases h with ⟨a, l, r, sg, hl, hr, rfl⟩ | ⟨a, x, hx, rfl⟩ | ⟨a, o, x, y, hx, hy, rfl⟩ | ⟨a, b, c, s, l, r, hs, hl, hr, rfl⟩
    · exact Or.inl ⟨l, r, sg, List.mem_append_right _ (List.mem_singleton.mpr rfl), hl, hr, rfl, fa_test hl hr, fun d hd => List.mem_append_left _ (by rw [List.map_append]; exact List.mem_append_left _ hd), fun d hd => List.mem_append_left _ (by rw [List.map_append]; exact List.mem_append_right _ hd), Nat.le_max_left _ _, Nat.le_max_right _ _, rfl, rfl⟩
    · exact Or.inr (Or.inl ⟨x, List.mem_append_right _ (List.mem_singleton.mpr rfl), ⟨n, hx⟩, rfl, fa_inv, fun d hd => List.mem_append_left _ hd, Nat.le_refl _, rfl, rfl⟩)
    · cases o
      · exact Or.inr (Or.inr (Or.inl ⟨x, y, List.mem_append_right _ (List.mem_singleton.mpr rfl), ⟨n, hx⟩, ⟨n, hy⟩, rfl, fa_two, fun d hd => List.mem_append_left _ (List.mem_append_left _ hd), fun d hd => List.mem_append_left _ (List.mem_append_right _ hd), Nat.le_max_left _ _, Nat.le_max_right _ _, rfl, rfl⟩))
      · exact Or.inr (Or.inr (Or.inr ⟨x, y, List.mem_append_right _ (List.mem_singleton.mpr rfl), ⟨n, hx⟩, ⟨n, hy⟩, rfl, fa_two, fun d hd => List.mem_append_left _ (List.mem_append_left _ hd), fun d hd => List.mem_append_left _ (List.mem_append_right _ hd), Nat.le_max_left _ _, Nat.le_max_right _ _, rfl, rfl⟩))
    · refine Or.inr (Or.inr (Or.inl ⟨test b s l 3, test c s r 11, List.mem_append_right _ (List.mem_singleton.mpr rfl), ok_test hs hl, ok_test hs hr, rfl, ?_, ?_, ?_, ?_, ?_, ?_, ?_⟩))
      · rw [fa_pair hs hl hr, fa_test hs hl, fa_test hs hr]; rfl
      · intro d hd
        refine List.mem_append_left _ ?_
        rcases List.mem_append.mp hd with h1 | h1
        · refine List.mem_append_left _ ?_
          rw [List.map_append]; exact List.mem_append_left _ h1
        · refine List.mem_append_right _ ?_
          rw [List.mem_singleton.mp h1]; exact List.mem_cons_self
      · intro d hd
        refine List.mem_append_left _ ?_
        rcases List.mem_append.mp hd with h1 | h1
        · refine List.mem_append_left _ ?_
          rw [List.map_append, List.map_append]
          rw [List.map_append] at h1
          rcases List.mem_append.mp h1 with h2 | h2
          · exact List.mem_append_left _ (List.mem_append_left _ h2)
          · exact List.mem_append_right _ h2
        · refine List.mem_append_right _ ?_
          rw [List.mem_singleton.mp h1]; exact List.mem_cons_of_mem _ List.mem_cons_self
      · rw [dep_test, dep_pair]; omega
      · rw [dep_test, dep_pair]; omega
      · rw [sz_test, sz_test, sz_pair]; omega
      · rw [c4_test, c4_test, c4_pair]; omega
theorem FT.sz3 : ∀ {n : Nat} {T : FT}, FT.by_ n T → 3 * T.tests ≤ T.sz ∧ 1 ≤ T.tests
  | 0, _, h => h.elim
  | n + 1, T, h => by
    rcases h with ⟨a, l, r, sg, hl, hr, rfl⟩ | ⟨a, x, hx, rfl⟩ | ⟨a, o, x, y, hx, hy, rfl⟩ | ⟨a, b, c, s, l, r, hs, hl, hr, rfl⟩
    · have h1 := ST.sz_pos hl; have h2 := ST.sz_pos hr
      rw [sz_test]; show 3 * 1 ≤ _ ∧ 1 ≤ 1; omega
    · have h1 := FT.sz3 hx
      rw [sz_inv]; show 3 * x.tests ≤ _ ∧ 1 ≤ x.tests; omega
    · have h1 := FT.sz3 hx; have h2 := FT.sz3 hy
      rw [sz_two]; show 3 * (x.tests + y.tests) ≤ _ ∧ 1 ≤ x.tests + y.tests; omega
    · have h1 := ST.sz_pos hs; have h2 := ST.sz_pos hl; have h3 := ST.sz_pos hr
      rw [sz_pair]; show 3 * 2 ≤ _ ∧ 1 ≤ 2; omega
theorem FT.tests3 {T : FT} (h : T.ok) : 3 * ((T.tests : Nat) : Int) ≤ ((T.sz : Nat) : Int) ∧ 1 ≤ ((T.tests : Nat) : Int) := by
  obtain ⟨n, h⟩ := h
  have := FT.sz3 h
  omega
/-- each node knows the number of its first test -/
def NBd : Nat → (Nat → Int32) → FT → Int → Prop
  | 0, _, _, _ => False
  | n + 1, F, T, k => (F T.root).toInt = k ∧ ((∃ l r sg, T.isT l r sg) ∨ (∃ x, T.isN x ∧ NBd n F x k) ∨ (∃ x y, T.isB 1 x y ∧ NBd n F x k ∧ NBd n F y (k + ((x.tests : Nat) : Int))) ∨ (∃ x y, T.isB 2 x y ∧ NBd n F x k ∧ NBd n F y (k + ((x.tests : Nat) : Int))))
theorem NBd.mono : ∀ {n m : Nat} {F : Nat → Int32} {T : FT} {k : Int}, NBd n F T k → n ≤ m → NBd m F T k
  | 0, _, _, _, _, h, _ => h.elim
  | n + 1, 0, _, _, _, _, h => absurd h (Nat.not_succ_le_zero _)
  | n + 1, m + 1, F, T, k, h, hm => by
    have hm := Nat.le_of_succ_le_succ hm
    refine ⟨h.1, ?_⟩
    rcases h.2 with h | ⟨x, h1, h2⟩ | ⟨x, y, h1, h2, h3⟩ | ⟨x, y, h1, h2, h3⟩
    · exact Or.inl h
    · exact Or.inr (Or.inl ⟨x, h1, NBd.mono h2 hm⟩)
    · exact Or.inr (Or.inr (Or.inl ⟨x, y, h1, NBd.mono h2 hm, NBd.mono h3 hm⟩))
    · exact Or.inr (Or.inr (Or.inr ⟨x, y, h1, NBd.mono h2 hm, NBd.mono h3 hm⟩))
def NB (F : Nat → Int32) (T : FT) (k : Int) : Prop := ∃ n, NBd n F T k
theorem NB.test {F : Nat → Int32} {T : FT} {k : Int} {l r : ST} {sg : Int32} (h : T.isT l r sg) (hk : (F T.root).toInt = k) : NB F T k := ⟨1, hk, Or.inl ⟨_, _, _, h⟩⟩
theorem NB.inv {F : Nat → Int32} {T x : FT} {k : Int} (h : T.isN x) (hk : (F T.root).toInt = k) (hx : NB F x k) : NB F T k := by
  obtain ⟨n, hx⟩ := hx
  exact ⟨n + 1, hk, Or.inr (Or.inl ⟨x, h, hx⟩)⟩
theorem NB.bin {F : Nat → Int32} {T x y : FT} {k : Int} (h : T.isB 1 x y ∨ T.isB 2 x y) (hk : (F T.root).toInt = k) (hx : NB F x k) (hy : NB F y (k + ((x.tests : Nat) : Int))) : NB F T k := by
  obtain ⟨n, hx⟩ := hx
  obtain ⟨m, hy⟩ := hy
  refine ⟨max n m + 1, hk, ?_⟩
  rcases h with h | h
  · exact Or.inr (Or.inr (Or.inl ⟨x, y, h, hx.mono (Nat.le_max_left _ _), hy.mono (Nat.le_max_right _ _)⟩))
  · exact Or.inr (Or.inr (Or.inr ⟨x, y, h, hx.mono (Nat.le_max_left _ _), hy.mono (Nat.le_max_right _ _)⟩))
theorem NB.cases_ {F : Nat → Int32} {T : FT} {k : Int} (h : NB F T k) : (F T.root).toInt = k ∧ ((∃ l r sg, T.isT l r sg) ∨ (∃ x, T.isN x ∧ NB F x k) ∨ (∃ x y, T.isB 1 x y ∧ NB F x k ∧ NB F y (k + ((x.tests : Nat) : Int))) ∨ (∃ x y, T.isB 2 x y ∧ NB F x k ∧ NB F y (k + ((x.tests : Nat) : Int)))) := by
  obtain ⟨n, h⟩ := h
  cases n with
  | zero => exact h.elim
  | succ n =>
    refine ⟨h.1, ?_⟩
    rcases h.2 with h | ⟨x, h1, h2⟩ | ⟨x, y, h1, h2, h3⟩ | ⟨x, y, h1, h2, h3⟩
    · exact Or.inl h
    · exact Or.inr (Or.inl ⟨x, h1, n, h2⟩)
    · exact Or.inr (Or.inr (Or.inl ⟨x, y, h1, ⟨n, h2⟩, n, h3⟩))
    · exact Or.inr (Or.inr (Or.inr ⟨x, y, h1, ⟨n, h2⟩, n, h3⟩))
theorem NB.first {F : Nat → Int32} {T : FT} {k : Int} (h : NB F T k) : (F T.root).toInt = k := h.cases_.1
/-- the pile, its top first -/
def PLr (g : Nat → Option Nat) : Nat → List FT → Prop
  | n, [] => n = 0
  | n, t :: R => ∃ m, n = m + 1 ∧ g m = some t.root ∧ PLr g m R
theorem PLr.agree {g g2 : Nat → Option Nat} : ∀ {R : List FT} {n : Nat}, (∀ k, k < n → g2 k = g k) → PLr g n R → PLr g2 n R
  | [], _, _, h => h
  | t :: R, n, ha, ⟨m, e, h1, h2⟩ => ⟨m, e, (ha m (by omega)).trans h1, PLr.agree (fun k hk => ha k (by omega)) h2⟩
def NBL (F : Nat → Int32) : List FT → Int → Prop
  | [], _ => True
  | t :: R, k => NB F t k ∧ NBL F R (k + ((t.tests : Nat) : Int))
def faL : List FT → List Nat
  | [] => []
  | t :: R => t.fa ++ faL R
def tsL : List FT → Nat
  | [] => 0
  | t :: R => t.tests + tsL R
def szL : List FT → Nat
  | [] => 0
  | t :: R => t.sz + szL R
def c4L : List FT → Nat
  | [] => 0
  | t :: R => t.c4 + c4L R
def NUM (W : FT) (F : Nat → Int32) (gp : Nat → Option Nat) (n k : Int) (mu s c : Nat) : Prop := ∃ R, (s + szL R ≤ W.sz ∧ c + c4L R ≤ W.c4) ∧ (∃ m : Nat, n = m ∧ PLr gp m R) ∧ (∀ t ∈ R, t.ok ∧ FSUB t.shape W.shape ∧ t.dep ≤ W.dep ∧ t.sz ≤ W.sz) ∧ (faL R).Nodup ∧ k + ((tsL R : Nat) : Int) = ((W.tests : Nat) : Int) ∧ mu = (faL R).length ∧ ∀ F' : Nat → Int32, (∀ a, a ∉ faL R → F' a = F a) → NBL F' R k → NB F' W 0
def NUMP (W : FT) (F : Nat → Int32) (gp : Nat → Option Nat) (n k : Int) (mu s c : Nat) (t : FT) : Prop := ∃ R, (s + (t.sz + szL R) ≤ W.sz ∧ c + (t.c4 + c4L R) ≤ W.c4) ∧ (∃ m : Nat, n = m ∧ PLr gp m R) ∧ (∀ t ∈ R, t.ok ∧ FSUB t.shape W.shape ∧ t.dep ≤ W.dep ∧ t.sz ≤ W.sz) ∧ (t.ok ∧ FSUB t.shape W.shape ∧ t.dep ≤ W.dep ∧ t.sz ≤ W.sz) ∧ (t.fa ++ faL R).Nodup ∧ k + ((t.tests + tsL R : Nat) : Int) = ((W.tests : Nat) : Int) ∧ mu = (t.fa ++ faL R).length ∧ ∀ F' : Nat → Int32, (∀ a, a ∉ t.fa ++ faL R → F' a = F a) → NB F' t k → NBL F' R (k + ((t.tests : Nat) : Int)) → NB F' W 0
section NUMS
variable {W t x y : FT} {F F2 : Nat → Int32} {gp gp1 gp2 : Nat → Option Nat} {n k n2 k2 : Int} {mu s c : Nat}
theorem NUM.start (hW : W.ok) (hn : W.fa.Nodup) (h : AP gp gp2 0 W.root) : NUM W F gp2 1 0 W.fa.length 0 0 := by
  refine ⟨[W], ⟨by simp [szL], by simp [c4L]⟩, ⟨1, rfl, 0, rfl, h.2 0 rfl, rfl⟩, fun t ht => ?_, by simpa [faL] using hn, by simp [tsL], by simp [faL], fun F' _ h2 => h2.1⟩
  rw [List.mem_singleton.mp ht]
  exact ⟨hW, FSUB.rf, Nat.le_refl _, Nat.le_refl _⟩
theorem NUM.pop {i : Int32} (h : NUM W F gp n k mu s c) (hi : i.toInt + 1 = n) (h0 : 0 < n) : ∃ t, gp i.toNatClampNeg = some t.root ∧ NUMP W F gp i.toInt k mu s c t := by
  obtain ⟨R, hsc, ⟨m, e, hp⟩, ho, hn, hk, hm, hc⟩ := h
  cases R with
  | nil => have : m = 0 := hp; omega
  | cons t R =>
    obtain ⟨m', e', h1, h2⟩ := hp
    have h3 := ncn_nat (i := i) (by omega)
    refine ⟨t, by rw [show i.toNatClampNeg = m' by omega]; exact h1, R, hsc, ⟨m', by omega, h2⟩, fun b hb => ho b (List.mem_cons_of_mem _ hb), ho t List.mem_cons_self, hn, hk, hm, fun F' a b c => hc F' a ⟨b, c⟩⟩
theorem vu_ne {α : Type} {f : Nat → α} {a b : Nat} {v : α} (h : b ≠ a) : va_up f a v b = f b := if_neg h
theorem vu_eq {α : Type} {f : Nat → α} {a : Nat} {v : α} : va_up f a v a = v := if_pos rfl
theorem NUMP.test {l r : ST} {sg v : Int32} (h : NUMP W F gp n k mu s c t) (ht : t.isT l r sg) (e : F2 = va_up F t.root v) (hv : v.toInt = k) (hk2 : k2 = k + 1) : ∃ mu2, mu2 < mu ∧ NUM W F2 gp n k2 mu2 (s + t.sz) (c + t.c4) := by
  obtain ⟨R, hsc, hp, ho, hot, hn, hk, hm, hc⟩ := h
  have ht0 := ht
  obtain ⟨-, -, -, e1, e2, -⟩ := ht0
  rw [e2] at hn hm hc
  have hnr : t.root ∉ faL R := (List.nodup_cons.mp hn).1
  refine ⟨(faL R).length, by rw [hm]; simp, R, by omega, hp, ho, (List.nodup_cons.mp hn).2, by rw [e1] at hk; omega, rfl, fun F' ha hb => hc F' (fun a h9 => ?_) (NB.test ht ?_) (by rw [e1]; subst hk2; exact hb)⟩
  · have h10 : a ≠ t.root ∧ a ∉ faL R := by simpa using h9
    rw [ha a h10.2, e, vu_ne h10.1]
  · rw [ha t.root hnr, e, vu_eq]; exact hv
theorem NUMP.inv {v : Int32} (h : NUMP W F gp n k mu s c t) (ht : t.isN x) (e : F2 = va_up F t.root v) (hv : v.toInt = k) (ha : AP gp gp1 n x.root) (hn2 : n2 = n + 1) : ∃ mu2, mu2 < mu ∧ NUM W F2 gp1 n2 k mu2 s c := by
  obtain ⟨R, hsc, ⟨m, em, hp⟩, ho, hot, hn, hk, hm, hc⟩ := h
  have ht0 := ht
  obtain ⟨-, hx, e1, e2, hs, hd, hz, hc4⟩ := ht
  rw [e2] at hn hm hc
  rw [List.append_assoc] at hn
  have hnr : t.root ∉ x.fa ++ faL R := by
    have h5 := (List.nodup_append.mp hn).2.2
    have h6 := List.nodup_cons.mp (List.nodup_append.mp hn).2.1
    intro h9
    rcases List.mem_append.mp h9 with h9 | h9
    · exact h5 _ h9 _ List.mem_cons_self rfl
    · exact h6.1 h9
  refine ⟨(x.fa ++ faL R).length, by rw [hm]; simp, x :: R, by show s + (x.sz + szL R) ≤ _ ∧ c + (x.c4 + c4L R) ≤ _; omega, ⟨m + 1, by omega, m, rfl, ha.2 m em.symm, PLr.agree (fun j hj => ha.1 j (by omega)) hp⟩, fun s hs2 => ?_, ?_, by rw [e1] at hk; exact hk, rfl, fun F' hb hc2 => hc F' (fun a h9 => ?_) (NB.inv ht0 ?_ hc2.1) (by rw [e1]; exact hc2.2)⟩
  · rcases List.mem_cons.mp hs2 with rfl | hs2
    · exact ⟨hx, hs.tr hot.2.1, Nat.le_trans hd hot.2.2.1, by have := hot.2.2.2; omega⟩
    · exact ho s hs2
  · show (x.fa ++ faL R).Nodup
    have h5 := List.nodup_append.mp hn
    have h6 := List.nodup_cons.mp h5.2.1
    exact List.nodup_append.mpr ⟨h5.1, h6.2, fun a h7 b h8 => h5.2.2 a h7 b (List.mem_cons_of_mem _ h8)⟩
  · have h10 : a ∉ x.fa ∧ a ≠ t.root ∧ a ∉ faL R := by simpa [List.mem_append, not_or] using h9
    rw [hb a (by show a ∉ x.fa ++ faL R; simp [h10]), e, vu_ne h10.2.1]
  · rw [hb t.root hnr, e, vu_eq]; exact hv
theorem NUMP.bin {v : Int32} {n1 : Int} (h : NUMP W F gp n k mu s c t) (ht : t.isB 1 x y ∨ t.isB 2 x y) (e : F2 = va_up F t.root v) (hv : v.toInt = k) (ha : AP gp gp1 n y.root) (hn1 : n1 = n + 1) (ha2 : AP gp1 gp2 n1 x.root) (hn2 : n2 = n + 2) : ∃ mu2, mu2 < mu ∧ NUM W F2 gp2 n2 k mu2 s c := by
  obtain ⟨R, hsc, ⟨m, em, hp⟩, ho, hot, hn, hk, hm, hc⟩ := h
  have hB : ∃ j, t.isB j x y := by
    rcases ht with h9 | h9
    · exact ⟨_, h9⟩
    · exact ⟨_, h9⟩
  obtain ⟨j, -, hx, hy, e1, e2, hs1, hs2, hd1, hd2, hz, hc4⟩ := hB
  rw [e2] at hn hm hc
  have hnr : t.root ∉ x.fa ++ (y.fa ++ faL R) := by
    rw [List.append_assoc] at hn
    have h5 := (List.nodup_append.mp hn).2.2
    have h6 := List.nodup_cons.mp (List.nodup_append.mp hn).2.1
    intro h9
    rcases List.mem_append.mp h9 with h9 | h9
    · exact h5 _ (List.mem_append_left _ h9) _ List.mem_cons_self rfl
    · rcases List.mem_append.mp h9 with h9 | h9
      · exact h5 _ (List.mem_append_right _ h9) _ List.mem_cons_self rfl
      · exact h6.1 h9
  refine ⟨(x.fa ++ (y.fa ++ faL R)).length, by rw [hm]; simp only [List.length_append, List.length_singleton]; omega, x :: y :: R, by show s + (x.sz + (y.sz + szL R)) ≤ _ ∧ c + (x.c4 + (y.c4 + c4L R)) ≤ _; omega, ⟨m + 2, by omega, m + 1, rfl, ha2.2 (m + 1) (by omega), m, rfl, (ha2.1 m (by omega)).trans (ha.2 m em.symm), PLr.agree (fun j hj => (ha2.1 j (by omega)).trans (ha.1 j (by omega))) hp⟩, fun s hs3 => ?_, ?_, ?_, rfl, fun F' hb hc2 => hc F' (fun a h9 => ?_) (NB.bin ht ?_ hc2.1 hc2.2.1) ?_⟩
  · rcases List.mem_cons.mp hs3 with rfl | hs3
    · exact ⟨hx, hs1.tr hot.2.1, Nat.le_trans hd1 hot.2.2.1, by have := hot.2.2.2; omega⟩
    · rcases List.mem_cons.mp hs3 with rfl | hs3
      · exact ⟨hy, hs2.tr hot.2.1, Nat.le_trans hd2 hot.2.2.1, by have := hot.2.2.2; omega⟩
      · exact ho s hs3
  · show (x.fa ++ (y.fa ++ faL R)).Nodup
    rw [List.append_assoc] at hn
    have h5 := List.nodup_append.mp hn
    have h6 := List.nodup_cons.mp h5.2.1
    rw [← List.append_assoc]
    exact List.nodup_append.mpr ⟨h5.1, h6.2, fun a h7 b h8 => h5.2.2 a h7 b (List.mem_cons_of_mem _ h8)⟩
  · show k + ((x.tests + (y.tests + tsL R) : Nat) : Int) = _
    rw [e1] at hk; omega
  · have h10 : ((a ∉ x.fa ∧ a ∉ y.fa) ∧ a ≠ t.root) ∧ a ∉ faL R := by simpa [List.mem_append, not_or, and_assoc] using h9
    rw [hb a (by show a ∉ x.fa ++ (y.fa ++ faL R); simp [h10]), e, vu_ne h10.1.2]
  · rw [hb t.root hnr, e, vu_eq]; exact hv
  · have h11 := hc2.2.2
    rw [e1, show k + ((x.tests + y.tests : Nat) : Int) = k + ((x.tests : Nat) : Int) + ((y.tests : Nat) : Int) by omega]
    exact h11
theorem NUM.end_ (h : NUM W F gp n k mu s c) (h0 : n ≤ 0) : NB F W 0 ∧ k = ((W.tests : Nat) : Int) := by
  obtain ⟨R, -, ⟨m, e, hp⟩, ho, hn, hk, hm, hc⟩ := h
  cases R with
  | nil => exact ⟨hc F (fun _ _ => rfl) trivial, by simpa [tsL] using hk⟩
  | cons t R => obtain ⟨m', e', -, -⟩ := hp; omega
end NUMS
set_option maxHeartbeats 2000000 in
theorem c_X16_addTest (l : Launch) (hst : l.stackTraces = false) (D : va_G) (ct : Nat → ClassId) (MC : Nat) (MS : Nat) (pl : va_W) (mm : Nat) (f : Nat) (fs_f : List Value) (fs_mm : List Value) (ute : Nat) (x_mm_15 : Int32) (g_ute : Nat → Option Nat) (TN : Nat) (hm_f : ((f, .inr (12, fs_f)) : Nat × va_E) ∈ pl) (hlen_mm : fs_mm.length = 78) (hf_mm_14 : fs_mm[14]? = some (.ref ute)) (h_x_mm_15 : rg x_mm_15 0 33999) (hf_mm_15 : fs_mm[15]? = some (.int x_mm_15)) (hq0 : ((TN : Nat) : Int) ≤ 70000) (hq1 : 16 ≤ ((TN : Nat) : Int)) (hq2 : x_mm_15.toInt ≤ ((TN : Nat) : Int)) (hq3 : 140000 ≤ ((MS : Nat) : Int) + 2 * ((TN : Nat) : Int)) (hq4 : 70032 ≤ 16 * ((MC : Nat) : Int) + ((TN : Nat) : Int)) (hg0 : EL 12 g_ute x_mm_15.toInt pl) : KP (V := Unit) (S := List Value × Nat × Int32 × (Nat → Option Nat) × Nat × Nat × Nat) (SX := Unit) l yX16_addTest cX16_addTest 4 none 1 20 D ct [.ref mm, .ref f] ([(mm, .inr (16, fs_mm)), (ute, .inl (ct 5, TN, .inr (.inr (.inr (.inr g_ute)))))] ++ pl) MC MS (fun _ : Unit => none) (fun (_ : Unit) (u : List Value × Nat × Int32 × (Nat → Option Nat) × Nat × Nat × Nat) => match u with | (fs2_mm, a_mm_14, y_mm_15, k_ute, TN2, kc, kn) => SB fs_mm fs2_mm [14, 15] ∧ fs2_mm[14]? = some (.ref a_mm_14) ∧ rg y_mm_15 1 34000 ∧ fs2_mm[15]? = some (.int y_mm_15) ∧ (y_mm_15.toInt = x_mm_15.toInt + 1) ∧ (y_mm_15.toInt ≤ ((TN2 : Nat) : Int)) ∧ (((TN : Nat) : Int) ≤ ((TN2 : Nat) : Int)) ∧ (((TN2 : Nat) : Int) ≤ 70000) ∧ (((TN2 : Nat) : Int) = ((TN : Nat) : Int) ∨ ((TN2 : Nat) : Int) ≤ 2 * x_mm_15.toInt) ∧ (16 * ((kc : Nat) : Int) + ((TN : Nat) : Int) ≤ ((TN2 : Nat) : Int)) ∧ (((kn : Nat) : Int) = 2 * (((TN2 : Nat) : Int) - ((TN : Nat) : Int))) ∧ (AP g_ute k_ute x_mm_15.toInt f)) (fun (u : List Value × Nat × Int32 × (Nat → Option Nat) × Nat × Nat × Nat) => (match u with | (fs2_mm, a_mm_14, y_mm_15, k_ute, TN2, kc, kn) => [(mm, .inr (16, fs2_mm)), (a_mm_14, .inl (ct 5, TN2, .inr (.inr (.inr (.inr k_ute)))))]) ++ pl) (fun (u : List Value × Nat × Int32 × (Nat → Option Nat) × Nat × Nat × Nat) => match u with | (fs2_mm, a_mm_14, y_mm_15, k_ute, TN2, kc, kn) => kc) (fun (u : List Value × Nat × Int32 × (Nat → Option Nat) × Nat × Nat × Nat) => match u with | (fs2_mm, a_mm_14, y_mm_15, k_ute, TN2, kc, kn) => kn) 15 RX15 peW (fun _ => False) (fun _ => ([] : va_W) ++ pl) (fun _ => 0) (fun _ => 0) := by
  refine KP_of (by decide) (Nat.le_of_ble_eq_true rfl) (fun p e s m below meth c A Q C0 htab hA H locs hS hP hD hQ ls hl => ?_)
  obtain ⟨hx, hb, hr, hown, hin, hml, hlocks, hn, hK, hZ, hSK⟩ := C0
  have hl : lv_has ls 4 [(0, .ref mm), (1, .ref f)] := hl
  replace hq0 := FF.mk hq0
  replace hq1 := FF.mk hq1
  replace hq2 := FF.mk hq2
  replace hq3 := FF.mk hq3
  replace hq4 := FF.mk hq4
  refine lv_aload_n hx hb dX16_addTest_0 rfl (lv_at hl 0 rfl) ?_
  refine va_get (D := D) (ci := 16) (v := .int x_mm_15) (C := RX16) (T := TX16) (N := 78) hx hb (htX16 hn) (fun _ h => h) hown hK hP 0 rfl rfl 15 (by decide) (hn.get mw_1554 rfl) (fun _ h9 => h9) hf_mm_15 dX16_addTest_1 ?_
  refine lv_aload_n hx hb dX16_addTest_4 rfl (lv_at hl 0 rfl) ?_
  refine va_get (D := D) (ci := 16) (v := .ref ute) (C := RX16) (T := TX16) (N := 78) hx hb (htX16 hn) (fun _ h => h) hown hK hP 0 rfl rfl 14 (by decide) (hn.get mw_1553 rfl) (fun _ h9 => h9) hf_mm_14 dX16_addTest_5 ?_
  refine va_alen hx hb hK hP 1 5 rfl rfl rfl dX16_addTest_8 ?_
  refine lv_topi (fun z8_1 ez8_1 => ?_)
  have r8_2 : rg z8_1 0 70000 := rg_len ez8_1 (show (0 : Int) ≤ ((TN : Nat) : Int) ∧ ((TN : Nat) : Int) ≤ 70000 from ⟨Int.natCast_nonneg _, FF.out hq0⟩) (by decide)
  refine lv_icmp_ne (tgt := 52) hx hb dX16_addTest_9 (by decide) (fun c9_1 => ?_) (fun c9_1 => ?_)
  · have t9_2 := FF.mk (i_ne c9_1)
    refine lv_aload_n hx hb dX16_addTest_52 rfl (lv_at hl 0 rfl) ?_
    refine va_get (D := D) (ci := 16) (v := .ref ute) (C := RX16) (T := TX16) (N := 78) hx hb (htX16 hn) (fun _ h => h) hown hK hP 0 rfl rfl 14 (by decide) (hn.get mw_1553 rfl) (fun _ h9 => h9) hf_mm_14 dX16_addTest_53 ?_
    refine lv_aload_n hx hb dX16_addTest_56 rfl (lv_at hl 0 rfl) ?_
    refine va_get (D := D) (ci := 16) (v := .int x_mm_15) (C := RX16) (T := TX16) (N := 78) hx hb (htX16 hn) (fun _ h => h) hown hK hP 0 rfl rfl 15 (by decide) (hn.get mw_1554 rfl) (fun _ h9 => h9) hf_mm_15 dX16_addTest_57 ?_
    refine lv_aload_n hx hb dX16_addTest_60 rfl (lv_at hl 1 rfl) ?_
    have hi61_1 : vp_in x_mm_15 TN := (in_of (show 0 ≤ x_mm_15.toInt ∧ x_mm_15.toInt < ((TN : Nat) : Int) by have q0 := h_x_mm_15.1; have q1 := (eq_len ez8_1 (show (0 : Int) ≤ ((TN : Nat) : Int) ∧ ((TN : Nat) : Int) ≤ 70000 from ⟨Int.natCast_nonneg _, FF.out hq0⟩) (by decide)); have q2 := FF.out hq2; have q3 := FF.out t9_2; omega))
    obtain ⟨k61_2, hk61_2⟩ := pl_get (X := [(mm, .inr (16, fs_mm)), (ute, .inl (ct 5, TN, .inr (.inr (.inr (.inr g_ute)))))]) hm_f
    refine va_astq hx hb hK hP hD hS 1 5 k61_2 12 rfl rfl hk61_2 rfl hi61_1 dX16_addTest_61 (fun H locs hP hD hS => ?_)
    have hP : va_P D vwCl ([(mm, .inr (16, fs_mm)), (ute, .inl (ct 5, TN, .inr (.inr (.inr (.inr (va_up g_ute x_mm_15.toNatClampNeg (some f)))))))] ++ (pl)) _ := hP
    have hD : va_D A ([(mm, .inr (16, fs_mm)), (ute, .inl (ct 5, TN, .inr (.inr (.inr (.inr (va_up g_ute x_mm_15.toNatClampNeg (some f)))))))] ++ (pl)) := hD
    obtain ⟨f61_3, ef61_3⟩ : ∃ z, z = (va_up g_ute x_mm_15.toNatClampNeg (some f)) := ⟨_, rfl⟩
    rw [← ef61_3] at hP hD
    have hA62_1 : AP g_ute f61_3 x_mm_15.toInt f := AP.of (show AG g_ute f61_3 x_mm_15.toInt from AG.put ef61_3 (show 0 ≤ x_mm_15.toInt by have q0 := h_x_mm_15.1; omega) (show x_mm_15.toInt ≤ x_mm_15.toInt by omega)) ef61_3 (show x_mm_15.toInt = x_mm_15.toInt by omega) (show 0 ≤ x_mm_15.toInt by have q0 := h_x_mm_15.1; omega)
    refine lv_aload_n hx hb dX16_addTest_62 rfl (lv_at hl 0 rfl) ?_
    refine lv_dup hx hb dX16_addTest_63 rfl ?_
    refine va_get (D := D) (ci := 16) (v := .int x_mm_15) (C := RX16) (T := TX16) (N := 78) hx hb (htX16 hn) (fun _ h => h) hown hK hP 0 rfl rfl 15 (by decide) (hn.get mw_1554 rfl) (fun _ h9 => h9) hf_mm_15 dX16_addTest_64 ?_
    refine lv_iconst (v := 1) hx hb dX16_addTest_67 (by decide) ?_
    refine lv_iadd hx hb dX16_addTest_68 ?_
    refine lv_topi (fun z68_1 ez68_1 => ?_)
    have r68_2 : rg z68_1 1 34000 := rg_add ez68_1 h_x_mm_15 (show rg (1 : Int32) 1 1 from rg_l (by decide)) (by decide)
    refine va_put (D := D) (ci := 16) (v := .int z68_1) (ty := .int) (C := RX16) (T := TX16) (N := 78) hx hb (htX16 hn) (fun _ h => h) tyX16 tyX16_ok nmX16 hown hK hP hD hS 0 rfl rfl 15 (by decide) (hn.get mw_1554 rfl) (fun _ h9 => h9) rfl (by decide +kernel) rfl rfl (by rw [hlen_mm]; decide) dX16_addTest_69 (fun H locs hP hD hS => ?_)
    have hP : va_P D vwCl ([(mm, .inr (16, (fs_mm.set 15 (.int z68_1)))), (ute, .inl (ct 5, TN, .inr (.inr (.inr (.inr f61_3)))))] ++ (pl)) _ := hP
    have hD : va_D A ([(mm, .inr (16, (fs_mm.set 15 (.int z68_1)))), (ute, .inl (ct 5, TN, .inr (.inr (.inr (.inr f61_3)))))] ++ (pl)) := hD
    obtain ⟨m69_1, em69_1⟩ : ∃ z, z = (fs_mm.set 15 (.int z68_1)) := ⟨_, rfl⟩
    rw [← em69_1] at hP hD
    have hsm69_1 : SB fs_mm m69_1 [14, 15] := by rw [em69_1]; exact SB.set (SB.rf _ _) (by decide)
    have hfm69_1_14 : m69_1[14]? = some (.ref ute) := by rw [em69_1]; exact fs_ne (by decide) hf_mm_14
    have hfm69_1_15 : m69_1[15]? = some (.int z68_1) := by rw [em69_1]; exact fs_eq (by rw [hlen_mm]; decide)
    have hP : va_P D vwCl ([(mm, .inr (16, m69_1)), (ute, .inl (ct 5, TN, .inr (.inr (.inr (.inr f61_3)))))] ++ (pl)) _ := hP
    have hD : va_D A ([(mm, .inr (16, m69_1)), (ute, .inl (ct 5, TN, .inr (.inr (.inr (.inr f61_3)))))] ++ (pl)) := hD
    exact et_v (SX := Unit) (pl1 := fun _ => pl) hQ hx hb hr hlocks dX16_addTest_72 (m69_1, ute, z68_1, f61_3, TN, 0, 0) ⟨hsm69_1, hfm69_1_14, r68_2, hfm69_1_15, (show z68_1.toInt = x_mm_15.toInt + 1 by have q0 := (eq_add ez68_1 h_x_mm_15 (show rg (1 : Int32) 1 1 from rg_l (by decide)) (by decide)); have q1 := (show (1 : Int32).toInt = 1 from by decide); omega), (show z68_1.toInt ≤ ((TN : Nat) : Int) by have q0 := (eq_add ez68_1 h_x_mm_15 (show rg (1 : Int32) 1 1 from rg_l (by decide)) (by decide)); have q1 := (eq_len ez8_1 (show (0 : Int) ≤ ((TN : Nat) : Int) ∧ ((TN : Nat) : Int) ≤ 70000 from ⟨Int.natCast_nonneg _, FF.out hq0⟩) (by decide)); have q2 := FF.out hq2; have q3 := FF.out t9_2; have q4 := (show (1 : Int32).toInt = 1 from by decide); omega), (show ((TN : Nat) : Int) ≤ ((TN : Nat) : Int) by omega), (show ((TN : Nat) : Int) ≤ 70000 by have q0 := FF.out hq0; omega), (show ((TN : Nat) : Int) = ((TN : Nat) : Int) ∨ ((TN : Nat) : Int) ≤ 2 * x_mm_15.toInt by omega), (show 16 * ((0 : Nat) : Int) + ((TN : Nat) : Int) ≤ ((TN : Nat) : Int) by omega), (show ((0 : Nat) : Int) = 2 * (((TN : Nat) : Int) - ((TN : Nat) : Int)) by omega), hA62_1⟩ hP hD hS [0, 1] (by decide) rfl (Nat.le_refl _) (Nat.le_refl _) (Nat.zero_le MC) (Nat.zero_le MS)
  · have t9_2 := FF.mk (i_eq c9_1)
    have r9_3 : rg z8_1 0 33999 := rg_eqB t9_2 h_x_mm_15 r8_2 (by decide)
    refine lv_iconst (v := 2) hx hb dX16_addTest_12 (by decide) ?_
    refine lv_aload_n hx hb dX16_addTest_13 rfl (lv_at hl 0 rfl) ?_
    refine va_get (D := D) (ci := 16) (v := .int x_mm_15) (C := RX16) (T := TX16) (N := 78) hx hb (htX16 hn) (fun _ h => h) hown hK hP 0 rfl rfl 15 (by decide) (hn.get mw_1554 rfl) (fun _ h9 => h9) hf_mm_15 dX16_addTest_14 ?_
    refine lv_imul hx hb dX16_addTest_17 ?_
    refine lv_topi (fun z17_1 ez17_1 => ?_)
    have r17_2 : rg z17_1 0 67998 := rg_mul ez17_1 (show rg (2 : Int32) 2 2 from rg_l (by decide)) h_x_mm_15 (by decide)
    obtain ⟨n18_2, gn18_2⟩ : ∃ k : Nat, z17_1.toNatClampNeg = k := ⟨_, rfl⟩
    have en18_2 := FF.mk (ncn_up gn18_2 (show 0 ≤ z17_1.toInt by have q0 := (eq_mull ez17_1 (show rg (2 : Int32) 2 2 from rg_l (by decide)) h_x_mm_15 (by decide)); have q1 := (eq_len ez8_1 (show (0 : Int) ≤ ((TN : Nat) : Int) ∧ ((TN : Nat) : Int) ≤ 70000 from ⟨Int.natCast_nonneg _, FF.out hq0⟩) (by decide)); have q2 := FF.out hq1; have q3 := FF.out t9_2; omega))
    have nbn18_2 : (0 : Int) ≤ ((n18_2 : Nat) : Int) ∧ ((n18_2 : Nat) : Int) ≤ 70000 := ⟨Int.natCast_nonneg _, (show ((n18_2 : Nat) : Int) ≤ 70000 by have q0 := r17_2.2; have q1 := FF.out en18_2; omega)⟩
    obtain ⟨c18_3, ec18_3⟩ : ∃ x9 : Nat, x9 = 0 + 1 := ⟨_, rfl⟩
    have ec18_3 := FF.mk ec18_3
    have mc18_3 : FF (c18_3 ≤ MC) := FF.mk (Int.ofNat_le.mp (show ((c18_3 : Nat) : Int) ≤ ((MC : Nat) : Int) by have q0 := r9_3.2; have q1 := (eq_len ez8_1 (show (0 : Int) ≤ ((TN : Nat) : Int) ∧ ((TN : Nat) : Int) ≤ 70000 from ⟨Int.natCast_nonneg _, FF.out hq0⟩) (by decide)); have q2 := FF.out hq4; have q3 := FF.out ec18_3; omega))
    obtain ⟨k18_4, ek18_4⟩ : ∃ x9 : Nat, x9 = 0 + n18_2 := ⟨_, rfl⟩
    have ek18_4 := FF.mk ek18_4
    have mk18_4 : FF (k18_4 ≤ MS) := FF.mk (Int.ofNat_le.mp (show ((k18_4 : Nat) : Int) ≤ ((MS : Nat) : Int) by have q0 := r17_2.2; have q1 := r9_3.2; have q2 := (eq_len ez8_1 (show (0 : Int) ≤ ((TN : Nat) : Int) ∧ ((TN : Nat) : Int) ≤ 70000 from ⟨Int.natCast_nonneg _, FF.out hq0⟩) (by decide)); have q3 := FF.out hq3; have q4 := FF.out en18_2; have q5 := FF.out ek18_4; omega))
    refine na_newq (k1 := c18_3) (n1 := k18_4) hx hb hn hown mw_1533 hn.2.2.2.1 hK hP hD hS hA 5 rfl n18_2 (nneg_of (show 0 ≤ z17_1.toInt by have q0 := (eq_mull ez17_1 (show rg (2 : Int32) 2 2 from rg_l (by decide)) h_x_mm_15 (by decide)); have q1 := (eq_len ez8_1 (show (0 : Int) ≤ ((TN : Nat) : Int) ∧ ((TN : Nat) : Int) ≤ 70000 from ⟨Int.natCast_nonneg _, FF.out hq0⟩) (by decide)); have q2 := FF.out hq1; have q3 := FF.out t9_2; omega)) gn18_2 (show n18_2 * 4 ≤ 536870912 by have h9 := (show ((n18_2 : Nat) : Int) ≤ 134217728 by have q0 := r17_2.2; have q1 := FF.out en18_2; omega); omega) (Nat.le_of_eq (FF.out ec18_3).symm) (Nat.le_of_eq (FF.out ek18_4).symm) (FF.out mc18_3) (FF.out mk18_4) dX16_addTest_18 (fun q18_1 H hP hD hS => ?_)
    have hP := hP.perm pl_last
    have hD := hD.perm pl_last
    have hP : va_P D vwCl ([(mm, .inr (16, fs_mm)), (ute, .inl (ct 5, TN, .inr (.inr (.inr (.inr g_ute))))), (q18_1, .inl (ct 5, n18_2, .inr (.inr (.inr (.inr (fun _ => none))))))] ++ (pl)) _ := hP
    have hD : va_D A ([(mm, .inr (16, fs_mm)), (ute, .inl (ct 5, TN, .inr (.inr (.inr (.inr g_ute))))), (q18_1, .inl (ct 5, n18_2, .inr (.inr (.inr (.inr (fun _ => none))))))] ++ (pl)) := hD
    refine lv_astore_n (lv' := [(2, .ref q18_1), (0, .ref mm), (1, .ref f)]) hx hb dX16_addTest_21 rfl hl (by decide) rfl (fun ls hl => ?_)
    refine lv_iconst (v := 0) hx hb dX16_addTest_22 (by decide) ?_
    refine lv_istore_n (lv' := [(3, .int 0), (2, .ref q18_1), (0, .ref mm), (1, .ref f)]) hx hb dX16_addTest_23 rfl hl (by decide) rfl (fun ls hl => ?_)
    have b24 : ∀ (n24 : Nat) (j24_l3 : Int32) (j24_cq18_1 : Nat → Option Nat) (H : Heap) (locs : List Loc) (ls : Array Slot), (rg j24_l3 0 34000) → (AG g_ute j24_cq18_1 j24_l3.toInt) → ((2147483647 : Int) - j24_l3.toInt).toNat < n24 → lv_has ls 4 [(0, .ref mm), (1, .ref f), (2, .ref q18_1), (3, .int j24_l3)] → va_P D vwCl ([(mm, .inr (16, fs_mm)), (ute, .inl (ct 5, TN, .inr (.inr (.inr (.inr g_ute))))), (q18_1, .inl (ct 5, n18_2, .inr (.inr (.inr (.inr j24_cq18_1)))))] ++ (pl)) H → va_D A ([(mm, .inr (16, fs_mm)), (ute, .inl (ct 5, TN, .inr (.inr (.inr (.inr g_ute))))), (q18_1, .inl (ct 5, n18_2, .inr (.inr (.inr (.inr j24_cq18_1)))))] ++ (pl)) → va_S A s.heap H locs → W p l e ({ frames := 1, cells := MC, slots := MS, locals := 20 }) s m [.ref mm, .ref f].toArray below meth c H locs c18_3 k18_4 Q (F0 m 24 ls []) := by
      intro n24
      induction n24 with
      | zero => intros; rename_i hms _ _ _ _; exact absurd hms (Nat.not_lt_zero _)
      | succ n24 ih24 =>
        intro j24_l3 j24_cq18_1 H locs ls r24_1001 hg24_1002 hms24 hl hP hD hS
        refine lv_iload_n hx hb dX16_addTest_24 rfl (lv_at hl 3 rfl) ?_
        refine lv_aload_n hx hb dX16_addTest_25 rfl (lv_at hl 0 rfl) ?_
        refine va_get (D := D) (ci := 16) (v := .int x_mm_15) (C := RX16) (T := TX16) (N := 78) hx hb (htX16 hn) (fun _ h => h) hown hK hP 0 rfl rfl 15 (by decide) (hn.get mw_1554 rfl) (fun _ h9 => h9) hf_mm_15 dX16_addTest_26 ?_
        refine lv_icmp_ge (tgt := 47) hx hb dX16_addTest_29 (by decide) (fun c29_1 => ?_) (fun c29_1 => ?_)
        · have t29_2 := FF.mk (i_le c29_1)
          refine lv_aload_n hx hb dX16_addTest_47 rfl (lv_at hl 0 rfl) ?_
          refine lv_aload_n hx hb dX16_addTest_48 rfl (lv_at hl 2 rfl) ?_
          refine va_put (D := D) (ci := 16) (v := .ref q18_1) (ty := .array (.object "FilterForgeModel$Filter")) (C := RX16) (T := TX16) (N := 78) hx hb (htX16 hn) (fun _ h => h) tyX16 tyX16_ok nmX16 hown hK hP hD hS 0 rfl rfl 14 (by decide) (hn.get mw_1553 rfl) (fun _ h9 => h9) rfl (by decide +kernel) rfl rfl (by rw [hlen_mm]; decide) dX16_addTest_49 (fun H locs hP hD hS => ?_)
          have hP : va_P D vwCl ([(mm, .inr (16, (fs_mm.set 14 (.ref q18_1)))), (ute, .inl (ct 5, TN, .inr (.inr (.inr (.inr g_ute))))), (q18_1, .inl (ct 5, n18_2, .inr (.inr (.inr (.inr j24_cq18_1)))))] ++ (pl)) _ := hP
          have hD : va_D A ([(mm, .inr (16, (fs_mm.set 14 (.ref q18_1)))), (ute, .inl (ct 5, TN, .inr (.inr (.inr (.inr g_ute))))), (q18_1, .inl (ct 5, n18_2, .inr (.inr (.inr (.inr j24_cq18_1)))))] ++ (pl)) := hD
          obtain ⟨m49_1, em49_1⟩ : ∃ z, z = (fs_mm.set 14 (.ref q18_1)) := ⟨_, rfl⟩
          rw [← em49_1] at hP hD
          have hsm49_1 : SB fs_mm m49_1 [14, 15] := by rw [em49_1]; exact SB.set (SB.rf _ _) (by decide)
          have hfm49_1_15 : m49_1[15]? = some (.int x_mm_15) := by rw [em49_1]; exact fs_ne (by decide) hf_mm_15
          have hfm49_1_14 : m49_1[14]? = some (.ref q18_1) := by rw [em49_1]; exact fs_eq (by rw [hlen_mm]; decide)
          have hP : va_P D vwCl ([(mm, .inr (16, m49_1)), (ute, .inl (ct 5, TN, .inr (.inr (.inr (.inr g_ute))))), (q18_1, .inl (ct 5, n18_2, .inr (.inr (.inr (.inr j24_cq18_1)))))] ++ (pl)) _ := hP
          have hD : va_D A ([(mm, .inr (16, m49_1)), (ute, .inl (ct 5, TN, .inr (.inr (.inr (.inr g_ute))))), (q18_1, .inl (ct 5, n18_2, .inr (.inr (.inr (.inr j24_cq18_1)))))] ++ (pl)) := hD
          refine lv_aload_n hx hb dX16_addTest_52 rfl (lv_at hl 0 rfl) ?_
          refine va_get (D := D) (ci := 16) (v := .ref q18_1) (C := RX16) (T := TX16) (N := 78) hx hb (htX16 hn) (fun _ h => h) hown hK hP 0 rfl rfl 14 (by decide) (hn.get mw_1553 rfl) (fun _ h9 => h9) hfm49_1_14 dX16_addTest_53 ?_
          refine lv_aload_n hx hb dX16_addTest_56 rfl (lv_at hl 0 rfl) ?_
          refine va_get (D := D) (ci := 16) (v := .int x_mm_15) (C := RX16) (T := TX16) (N := 78) hx hb (htX16 hn) (fun _ h => h) hown hK hP 0 rfl rfl 15 (by decide) (hn.get mw_1554 rfl) (fun _ h9 => h9) hfm49_1_15 dX16_addTest_57 ?_
          refine lv_aload_n hx hb dX16_addTest_60 rfl (lv_at hl 1 rfl) ?_
          have hi61_1 : vp_in x_mm_15 n18_2 := (in_of (show 0 ≤ x_mm_15.toInt ∧ x_mm_15.toInt < ((n18_2 : Nat) : Int) by have q0 := (eq_len ez8_1 (show (0 : Int) ≤ ((TN : Nat) : Int) ∧ ((TN : Nat) : Int) ≤ 70000 from ⟨Int.natCast_nonneg _, FF.out hq0⟩) (by decide)); have q1 := (eq_mull ez17_1 (show rg (2 : Int32) 2 2 from rg_l (by decide)) h_x_mm_15 (by decide)); have q2 := FF.out hq1; have q3 := FF.out t9_2; have q4 := FF.out en18_2; omega))
          obtain ⟨k61_2, hk61_2⟩ := pl_get (X := [(mm, .inr (16, m49_1)), (ute, .inl (ct 5, TN, .inr (.inr (.inr (.inr g_ute))))), (q18_1, .inl (ct 5, n18_2, .inr (.inr (.inr (.inr j24_cq18_1)))))]) hm_f
          refine va_astq hx hb hK hP hD hS 2 5 k61_2 12 rfl rfl hk61_2 rfl hi61_1 dX16_addTest_61 (fun H locs hP hD hS => ?_)
          have hP : va_P D vwCl ([(mm, .inr (16, m49_1)), (ute, .inl (ct 5, TN, .inr (.inr (.inr (.inr g_ute))))), (q18_1, .inl (ct 5, n18_2, .inr (.inr (.inr (.inr (va_up j24_cq18_1 x_mm_15.toNatClampNeg (some f)))))))] ++ (pl)) _ := hP
          have hD : va_D A ([(mm, .inr (16, m49_1)), (ute, .inl (ct 5, TN, .inr (.inr (.inr (.inr g_ute))))), (q18_1, .inl (ct 5, n18_2, .inr (.inr (.inr (.inr (va_up j24_cq18_1 x_mm_15.toNatClampNeg (some f)))))))] ++ (pl)) := hD
          obtain ⟨f61_3, ef61_3⟩ : ∃ z, z = (va_up j24_cq18_1 x_mm_15.toNatClampNeg (some f)) := ⟨_, rfl⟩
          rw [← ef61_3] at hP hD
          have hA62_1 : AP g_ute f61_3 x_mm_15.toInt f := AP.of (show AG g_ute f61_3 x_mm_15.toInt from AG.tr (show AG g_ute j24_cq18_1 x_mm_15.toInt from AG.tr AG.rf hg24_1002 (Int.le_refl _) (show x_mm_15.toInt ≤ j24_l3.toInt by have q0 := FF.out t29_2; omega)) (show AG j24_cq18_1 f61_3 x_mm_15.toInt from AG.put ef61_3 (show 0 ≤ x_mm_15.toInt by have q0 := (eq_len ez8_1 (show (0 : Int) ≤ ((TN : Nat) : Int) ∧ ((TN : Nat) : Int) ≤ 70000 from ⟨Int.natCast_nonneg _, FF.out hq0⟩) (by decide)); have q1 := FF.out hq1; have q2 := FF.out t9_2; omega) (show x_mm_15.toInt ≤ x_mm_15.toInt by omega)) (Int.le_refl _) (Int.le_refl _)) ef61_3 (show x_mm_15.toInt = x_mm_15.toInt by omega) (show 0 ≤ x_mm_15.toInt by have q0 := (eq_len ez8_1 (show (0 : Int) ≤ ((TN : Nat) : Int) ∧ ((TN : Nat) : Int) ≤ 70000 from ⟨Int.natCast_nonneg _, FF.out hq0⟩) (by decide)); have q1 := FF.out hq1; have q2 := FF.out t9_2; omega)
          refine lv_aload_n hx hb dX16_addTest_62 rfl (lv_at hl 0 rfl) ?_
          refine lv_dup hx hb dX16_addTest_63 rfl ?_
          refine va_get (D := D) (ci := 16) (v := .int x_mm_15) (C := RX16) (T := TX16) (N := 78) hx hb (htX16 hn) (fun _ h => h) hown hK hP 0 rfl rfl 15 (by decide) (hn.get mw_1554 rfl) (fun _ h9 => h9) hfm49_1_15 dX16_addTest_64 ?_
          refine lv_iconst (v := 1) hx hb dX16_addTest_67 (by decide) ?_
          refine lv_iadd hx hb dX16_addTest_68 ?_
          refine lv_topi (fun z68_1 ez68_1 => ?_)
          have r68_2 : rg z68_1 1 34000 := rg_add ez68_1 h_x_mm_15 (show rg (1 : Int32) 1 1 from rg_l (by decide)) (by decide)
          refine va_put (D := D) (ci := 16) (v := .int z68_1) (ty := .int) (C := RX16) (T := TX16) (N := 78) hx hb (htX16 hn) (fun _ h => h) tyX16 tyX16_ok nmX16 hown hK hP hD hS 0 rfl rfl 15 (by decide) (hn.get mw_1554 rfl) (fun _ h9 => h9) rfl (by decide +kernel) rfl rfl (by rw [hsm49_1.1, hlen_mm]; decide) dX16_addTest_69 (fun H locs hP hD hS => ?_)
          have hP : va_P D vwCl ([(mm, .inr (16, (m49_1.set 15 (.int z68_1)))), (ute, .inl (ct 5, TN, .inr (.inr (.inr (.inr g_ute))))), (q18_1, .inl (ct 5, n18_2, .inr (.inr (.inr (.inr f61_3)))))] ++ (pl)) _ := hP
          have hD : va_D A ([(mm, .inr (16, (m49_1.set 15 (.int z68_1)))), (ute, .inl (ct 5, TN, .inr (.inr (.inr (.inr g_ute))))), (q18_1, .inl (ct 5, n18_2, .inr (.inr (.inr (.inr f61_3)))))] ++ (pl)) := hD
          obtain ⟨m69_1, em69_1⟩ : ∃ z, z = (m49_1.set 15 (.int z68_1)) := ⟨_, rfl⟩
          rw [← em69_1] at hP hD
          have hsm69_1 : SB fs_mm m69_1 [14, 15] := by rw [em69_1]; exact SB.set hsm49_1 (by decide)
          have hfm69_1_14 : m69_1[14]? = some (.ref q18_1) := by rw [em69_1]; exact fs_ne (by decide) hfm49_1_14
          have hfm69_1_15 : m69_1[15]? = some (.int z68_1) := by rw [em69_1]; exact fs_eq (by rw [hsm49_1.1, hlen_mm]; decide)
          have hP : va_P D vwCl ([(mm, .inr (16, m69_1)), (ute, .inl (ct 5, TN, .inr (.inr (.inr (.inr g_ute))))), (q18_1, .inl (ct 5, n18_2, .inr (.inr (.inr (.inr f61_3)))))] ++ (pl)) _ := hP
          have hD : va_D A ([(mm, .inr (16, m69_1)), (ute, .inl (ct 5, TN, .inr (.inr (.inr (.inr g_ute))))), (q18_1, .inl (ct 5, n18_2, .inr (.inr (.inr (.inr f61_3)))))] ++ (pl)) := hD
          exact et_v (SX := Unit) (pl1 := fun _ => pl) hQ hx hb hr hlocks dX16_addTest_72 (m69_1, q18_1, z68_1, f61_3, n18_2, c18_3, k18_4) ⟨hsm69_1, hfm69_1_14, r68_2, hfm69_1_15, (show z68_1.toInt = x_mm_15.toInt + 1 by have q0 := (eq_add ez68_1 h_x_mm_15 (show rg (1 : Int32) 1 1 from rg_l (by decide)) (by decide)); have q1 := (show (1 : Int32).toInt = 1 from by decide); omega), (show z68_1.toInt ≤ ((n18_2 : Nat) : Int) by have q0 := (eq_add ez68_1 h_x_mm_15 (show rg (1 : Int32) 1 1 from rg_l (by decide)) (by decide)); have q1 := (eq_len ez8_1 (show (0 : Int) ≤ ((TN : Nat) : Int) ∧ ((TN : Nat) : Int) ≤ 70000 from ⟨Int.natCast_nonneg _, FF.out hq0⟩) (by decide)); have q2 := (eq_mull ez17_1 (show rg (2 : Int32) 2 2 from rg_l (by decide)) h_x_mm_15 (by decide)); have q3 := FF.out hq1; have q4 := FF.out t9_2; have q5 := FF.out en18_2; have q6 := (show (1 : Int32).toInt = 1 from by decide); omega), (show ((TN : Nat) : Int) ≤ ((n18_2 : Nat) : Int) by have q0 := (eq_mull ez17_1 (show rg (2 : Int32) 2 2 from rg_l (by decide)) h_x_mm_15 (by decide)); have q1 := (eq_len ez8_1 (show (0 : Int) ≤ ((TN : Nat) : Int) ∧ ((TN : Nat) : Int) ≤ 70000 from ⟨Int.natCast_nonneg _, FF.out hq0⟩) (by decide)); have q2 := FF.out hq1; have q3 := FF.out t9_2; have q4 := FF.out en18_2; omega), (show ((n18_2 : Nat) : Int) ≤ 70000 by have q0 := r17_2.2; have q1 := FF.out en18_2; omega), (show ((n18_2 : Nat) : Int) = ((TN : Nat) : Int) ∨ ((n18_2 : Nat) : Int) ≤ 2 * x_mm_15.toInt by have q0 := (eq_mull ez17_1 (show rg (2 : Int32) 2 2 from rg_l (by decide)) h_x_mm_15 (by decide)); have q1 := FF.out en18_2; omega), (show 16 * ((c18_3 : Nat) : Int) + ((TN : Nat) : Int) ≤ ((n18_2 : Nat) : Int) by have q0 := (eq_mull ez17_1 (show rg (2 : Int32) 2 2 from rg_l (by decide)) h_x_mm_15 (by decide)); have q1 := (eq_len ez8_1 (show (0 : Int) ≤ ((TN : Nat) : Int) ∧ ((TN : Nat) : Int) ≤ 70000 from ⟨Int.natCast_nonneg _, FF.out hq0⟩) (by decide)); have q2 := FF.out hq1; have q3 := FF.out t9_2; have q4 := FF.out en18_2; have q5 := FF.out ec18_3; omega), (show ((k18_4 : Nat) : Int) = 2 * (((n18_2 : Nat) : Int) - ((TN : Nat) : Int)) by have q0 := (eq_mull ez17_1 (show rg (2 : Int32) 2 2 from rg_l (by decide)) h_x_mm_15 (by decide)); have q1 := (eq_len ez8_1 (show (0 : Int) ≤ ((TN : Nat) : Int) ∧ ((TN : Nat) : Int) ≤ 70000 from ⟨Int.natCast_nonneg _, FF.out hq0⟩) (by decide)); have q2 := FF.out hq2; have q3 := FF.out t9_2; have q4 := FF.out en18_2; have q5 := FF.out ek18_4; omega), hA62_1⟩ hP hD hS [0, 2] (by decide) rfl (Nat.le_refl _) (Nat.le_refl _) (FF.out mc18_3) (FF.out mk18_4)
        · have t29_2 := FF.mk (i_nle c29_1)
          have r29_3 : rg j24_l3 0 33998 := rg_ltA t29_2 r24_1001 h_x_mm_15 (by decide)
          have r29_4 : rg x_mm_15 1 33999 := rg_ltB t29_2 r24_1001 h_x_mm_15 (by decide)
          refine lv_aload_n hx hb dX16_addTest_32 rfl (lv_at hl 2 rfl) ?_
          refine lv_iload_n hx hb dX16_addTest_33 rfl (lv_at hl 3 rfl) ?_
          refine lv_aload_n hx hb dX16_addTest_34 rfl (lv_at hl 0 rfl) ?_
          refine va_get (D := D) (ci := 16) (v := .ref ute) (C := RX16) (T := TX16) (N := 78) hx hb (htX16 hn) (fun _ h => h) hown hK hP 0 rfl rfl 14 (by decide) (hn.get mw_1553 rfl) (fun _ h9 => h9) hf_mm_14 dX16_addTest_35 ?_
          refine lv_iload_n hx hb dX16_addTest_38 rfl (lv_at hl 3 rfl) ?_
          obtain ⟨a39_1, fa39_1, ha39_1, ma39_1⟩ := EL.at hg0 (i := j24_l3) (show 0 ≤ j24_l3.toInt by have q0 := r29_3.1; omega) (show j24_l3.toInt < x_mm_15.toInt by have q0 := FF.out t29_2; omega)
          have hi39_2 : vp_in j24_l3 TN := (in_of (show 0 ≤ j24_l3.toInt ∧ j24_l3.toInt < ((TN : Nat) : Int) by have q0 := r29_3.1; have q1 := FF.out hq2; have q2 := FF.out t29_2; omega))
          refine aq_ld hx hb hK hP 1 5 rfl rfl hi39_2 ha39_1 dX16_addTest_39 ?_
          have hi40_1 : vp_in j24_l3 n18_2 := (in_of (show 0 ≤ j24_l3.toInt ∧ j24_l3.toInt < ((n18_2 : Nat) : Int) by have q0 := r29_3.1; have q1 := (eq_len ez8_1 (show (0 : Int) ≤ ((TN : Nat) : Int) ∧ ((TN : Nat) : Int) ≤ 70000 from ⟨Int.natCast_nonneg _, FF.out hq0⟩) (by decide)); have q2 := (eq_mull ez17_1 (show rg (2 : Int32) 2 2 from rg_l (by decide)) h_x_mm_15 (by decide)); have q3 := FF.out hq1; have q4 := FF.out t9_2; have q5 := FF.out en18_2; have q6 := FF.out t29_2; omega))
          obtain ⟨k40_2, hk40_2⟩ := pl_get (X := [(mm, .inr (16, fs_mm)), (ute, .inl (ct 5, TN, .inr (.inr (.inr (.inr g_ute))))), (q18_1, .inl (ct 5, n18_2, .inr (.inr (.inr (.inr j24_cq18_1)))))]) ma39_1
          refine va_astq hx hb hK hP hD hS 2 5 k40_2 12 rfl rfl hk40_2 rfl hi40_1 dX16_addTest_40 (fun H locs hP hD hS => ?_)
          have hP : va_P D vwCl ([(mm, .inr (16, fs_mm)), (ute, .inl (ct 5, TN, .inr (.inr (.inr (.inr g_ute))))), (q18_1, .inl (ct 5, n18_2, .inr (.inr (.inr (.inr (va_up j24_cq18_1 j24_l3.toNatClampNeg (some a39_1)))))))] ++ (pl)) _ := hP
          have hD : va_D A ([(mm, .inr (16, fs_mm)), (ute, .inl (ct 5, TN, .inr (.inr (.inr (.inr g_ute))))), (q18_1, .inl (ct 5, n18_2, .inr (.inr (.inr (.inr (va_up j24_cq18_1 j24_l3.toNatClampNeg (some a39_1)))))))] ++ (pl)) := hD
          obtain ⟨f40_3, ef40_3⟩ : ∃ z, z = (va_up j24_cq18_1 j24_l3.toNatClampNeg (some a39_1)) := ⟨_, rfl⟩
          rw [← ef40_3] at hP hD
          obtain ⟨x41_1, ex41_1⟩ : ∃ z : Int32, z = j24_l3 + 1 := ⟨_, rfl⟩
          have r41_2 : rg x41_1 1 33999 := rg_add ex41_1 r29_3 (show rg (1 : Int32) 1 1 from rg_l (by decide)) (by decide)
          refine lv_iinc (v := x41_1) (lv' := [(3, .int x41_1), (0, .ref mm), (1, .ref f), (2, .ref q18_1)]) hx hb dX16_addTest_41 hl (k := 3) rfl (by rw [ex41_1]; rfl) (by decide) rfl (fun ls hl => ?_)
          refine lv_goto (tgt := 24) hx hb dX16_addTest_44 (by decide) ?_
          exact ih24 x41_1 f40_3 H locs ls (rg_w r41_2 (by decide)) (AG.copy hg24_1002 ef40_3 ha39_1 (show 0 ≤ j24_l3.toInt by have q0 := r29_3.1; omega) (show x41_1.toInt = j24_l3.toInt + 1 by have q0 := (eq_add ex41_1 r29_3 (show rg (1 : Int32) 1 1 from rg_l (by decide)) (by decide)); have q1 := (show (1 : Int32).toInt = 1 from by decide); omega)) (show ((2147483647 : Int) - x41_1.toInt).toNat < n24 by have q0 := r29_3.2; have q1 := (eq_add ex41_1 r29_3 (show rg (1 : Int32) 1 1 from rg_l (by decide)) (by decide)); have q2 := (show (1 : Int32).toInt = 1 from by decide); have q3 := hms24; omega) (lv_sub hl [1, 2, 3, 0] rfl) hP hD hS
    exact b24 _ (0 : Int32) (fun _ => none) H locs ls (rg_w (show rg (0 : Int32) 0 0 from rg_l (by decide)) (by decide)) (AG.zero (by decide)) (Nat.lt_succ_self _) (lv_sub hl [2, 3, 1, 0] rfl) hP hD hS
set_option maxHeartbeats 2000000 in
theorem c_X16_push (l : Launch) (hst : l.stackTraces = false) (D : va_G) (ct : Nat → ClassId) (MC : Nat) (MS : Nat) (pl : va_W) (mm : Nat) (f : Nat) (fs_f : List Value) (v1 : Int32) (v2 : Int32) (fs_mm : List Value) (upi : Nat) (upy : Nat) (upn : Nat) (x_mm_23 : Int32) (g_upi : Nat → Option Nat) (PN : Nat) (g_upy : Nat → Int32) (g_upn : Nat → Int32) (hm_f : ((f, .inr (12, fs_f)) : Nat × va_E) ∈ pl) (hlen_mm : fs_mm.length = 78) (hf_mm_20 : fs_mm[20]? = some (.ref upi)) (hf_mm_21 : fs_mm[21]? = some (.ref upy)) (hf_mm_22 : fs_mm[22]? = some (.ref upn)) (h_x_mm_23 : rg x_mm_23 0 39999) (hf_mm_23 : fs_mm[23]? = some (.int x_mm_23)) (hq0 : ((PN : Nat) : Int) ≤ 80000) (hq1 : 64 ≤ ((PN : Nat) : Int)) (hq2 : x_mm_23.toInt ≤ ((PN : Nat) : Int)) (hq3 : 480000 ≤ ((MS : Nat) : Int) + 6 * ((PN : Nat) : Int)) (hq4 : 240192 ≤ 64 * ((MC : Nat) : Int) + 3 * ((PN : Nat) : Int)) (hg0 : EL 12 g_upi x_mm_23.toInt pl) : KP (V := Unit) (S := List Value × Nat × Nat × Nat × Int32 × (Nat → Option Nat) × Nat × (Nat → Int32) × (Nat → Int32) × Nat × Nat) (SX := Unit) l yX16_push cX16_push 8 none 1 20 D ct [.ref mm, .ref f, .int v1, .int v2] ([(mm, .inr (16, fs_mm)), (upi, .inl (ct 5, PN, .inr (.inr (.inr (.inr g_upi))))), (upy, .inl (ct 1, PN, .inl g_upy)), (upn, .inl (ct 1, PN, .inl g_upn))] ++ pl) MC MS (fun _ : Unit => none) (fun (_ : Unit) (u : List Value × Nat × Nat × Nat × Int32 × (Nat → Option Nat) × Nat × (Nat → Int32) × (Nat → Int32) × Nat × Nat) => match u with | (fs2_mm, a_mm_20, a_mm_21, a_mm_22, y_mm_23, k_upi, PN2, k_upy, k_upn, kc, kn) => SB fs_mm fs2_mm [20, 21, 22, 23] ∧ fs2_mm[20]? = some (.ref a_mm_20) ∧ fs2_mm[21]? = some (.ref a_mm_21) ∧ fs2_mm[22]? = some (.ref a_mm_22) ∧ rg y_mm_23 1 40000 ∧ fs2_mm[23]? = some (.int y_mm_23) ∧ (y_mm_23.toInt = x_mm_23.toInt + 1) ∧ (y_mm_23.toInt ≤ ((PN2 : Nat) : Int)) ∧ (((PN : Nat) : Int) ≤ ((PN2 : Nat) : Int)) ∧ (((PN2 : Nat) : Int) ≤ 80000) ∧ (64 * ((kc : Nat) : Int) + 3 * ((PN : Nat) : Int) ≤ 3 * ((PN2 : Nat) : Int)) ∧ (((kn : Nat) : Int) = 6 * (((PN2 : Nat) : Int) - ((PN : Nat) : Int))) ∧ (AP g_upi k_upi x_mm_23.toInt f) ∧ (IP g_upy k_upy x_mm_23.toInt v1.toInt) ∧ (IP g_upn k_upn x_mm_23.toInt v2.toInt)) (fun (u : List Value × Nat × Nat × Nat × Int32 × (Nat → Option Nat) × Nat × (Nat → Int32) × (Nat → Int32) × Nat × Nat) => (match u with | (fs2_mm, a_mm_20, a_mm_21, a_mm_22, y_mm_23, k_upi, PN2, k_upy, k_upn, kc, kn) => [(mm, .inr (16, fs2_mm)), (a_mm_20, .inl (ct 5, PN2, .inr (.inr (.inr (.inr k_upi))))), (a_mm_21, .inl (ct 1, PN2, .inl k_upy)), (a_mm_22, .inl (ct 1, PN2, .inl k_upn))]) ++ pl) (fun (u : List Value × Nat × Nat × Nat × Int32 × (Nat → Option Nat) × Nat × (Nat → Int32) × (Nat → Int32) × Nat × Nat) => match u with | (fs2_mm, a_mm_20, a_mm_21, a_mm_22, y_mm_23, k_upi, PN2, k_upy, k_upn, kc, kn) => kc) (fun (u : List Value × Nat × Nat × Nat × Int32 × (Nat → Option Nat) × Nat × (Nat → Int32) × (Nat → Int32) × Nat × Nat) => match u with | (fs2_mm, a_mm_20, a_mm_21, a_mm_22, y_mm_23, k_upi, PN2, k_upy, k_upn, kc, kn) => kn) 15 RX15 peW (fun _ => False) (fun _ => ([] : va_W) ++ pl) (fun _ => 0) (fun _ => 0) := by
  refine KP_of (by decide) (Nat.le_of_ble_eq_true rfl) (fun p e s m below meth c A Q C0 htab hA H locs hS hP hD hQ ls hl => ?_)
  obtain ⟨hx, hb, hr, hown, hin, hml, hlocks, hn, hK, hZ, hSK⟩ := C0
  have hl : lv_has ls 8 [(0, .ref mm), (1, .ref f), (2, .int v1), (3, .int v2)] := hl
  replace hq0 := FF.mk hq0
  replace hq1 := FF.mk hq1
  replace hq2 := FF.mk hq2
  replace hq3 := FF.mk hq3
  replace hq4 := FF.mk hq4
  refine lv_aload_n hx hb dX16_push_0 rfl (lv_at hl 0 rfl) ?_
  refine va_get (D := D) (ci := 16) (v := .int x_mm_23) (C := RX16) (T := TX16) (N := 78) hx hb (htX16 hn) (fun _ h => h) hown hK hP 0 rfl rfl 23 (by decide) (hn.get mw_1562 rfl) (fun _ h9 => h9) hf_mm_23 dX16_push_1 ?_
  refine lv_aload_n hx hb dX16_push_4 rfl (lv_at hl 0 rfl) ?_
  refine va_get (D := D) (ci := 16) (v := .ref upi) (C := RX16) (T := TX16) (N := 78) hx hb (htX16 hn) (fun _ h => h) hown hK hP 0 rfl rfl 20 (by decide) (hn.get mw_1559 rfl) (fun _ h9 => h9) hf_mm_20 dX16_push_5 ?_
  refine va_alen hx hb hK hP 1 5 rfl rfl rfl dX16_push_8 ?_
  refine lv_topi (fun z8_1 ez8_1 => ?_)
  have r8_2 : rg z8_1 0 80000 := rg_len ez8_1 (show (0 : Int) ≤ ((PN : Nat) : Int) ∧ ((PN : Nat) : Int) ≤ 80000 from ⟨Int.natCast_nonneg _, FF.out hq0⟩) (by decide)
  refine lv_icmp_ne (tgt := 115) hx hb dX16_push_9 (by decide) (fun c9_1 => ?_) (fun c9_1 => ?_)
  · have t9_2 := FF.mk (i_ne c9_1)
    refine lv_aload_n hx hb dX16_push_115 rfl (lv_at hl 0 rfl) ?_
    refine va_get (D := D) (ci := 16) (v := .ref upi) (C := RX16) (T := TX16) (N := 78) hx hb (htX16 hn) (fun _ h => h) hown hK hP 0 rfl rfl 20 (by decide) (hn.get mw_1559 rfl) (fun _ h9 => h9) hf_mm_20 dX16_push_116 ?_
    refine lv_aload_n hx hb dX16_push_119 rfl (lv_at hl 0 rfl) ?_
    refine va_get (D := D) (ci := 16) (v := .int x_mm_23) (C := RX16) (T := TX16) (N := 78) hx hb (htX16 hn) (fun _ h => h) hown hK hP 0 rfl rfl 23 (by decide) (hn.get mw_1562 rfl) (fun _ h9 => h9) hf_mm_23 dX16_push_120 ?_
    refine lv_aload_n hx hb dX16_push_123 rfl (lv_at hl 1 rfl) ?_
    have hi124_1 : vp_in x_mm_23 PN := (in_of (show 0 ≤ x_mm_23.toInt ∧ x_mm_23.toInt < ((PN : Nat) : Int) by have q0 := h_x_mm_23.1; have q1 := (eq_len ez8_1 (show (0 : Int) ≤ ((PN : Nat) : Int) ∧ ((PN : Nat) : Int) ≤ 80000 from ⟨Int.natCast_nonneg _, FF.out hq0⟩) (by decide)); have q2 := FF.out hq2; have q3 := FF.out t9_2; omega))
    obtain ⟨k124_2, hk124_2⟩ := pl_get (X := [(mm, .inr (16, fs_mm)), (upi, .inl (ct 5, PN, .inr (.inr (.inr (.inr g_upi))))), (upy, .inl (ct 1, PN, .inl g_upy)), (upn, .inl (ct 1, PN, .inl g_upn))]) hm_f
    refine va_astq hx hb hK hP hD hS 1 5 k124_2 12 rfl rfl hk124_2 rfl hi124_1 dX16_push_124 (fun H locs hP hD hS => ?_)
    have hP : va_P D vwCl ([(mm, .inr (16, fs_mm)), (upi, .inl (ct 5, PN, .inr (.inr (.inr (.inr (va_up g_upi x_mm_23.toNatClampNeg (some f))))))), (upy, .inl (ct 1, PN, .inl g_upy)), (upn, .inl (ct 1, PN, .inl g_upn))] ++ (pl)) _ := hP
    have hD : va_D A ([(mm, .inr (16, fs_mm)), (upi, .inl (ct 5, PN, .inr (.inr (.inr (.inr (va_up g_upi x_mm_23.toNatClampNeg (some f))))))), (upy, .inl (ct 1, PN, .inl g_upy)), (upn, .inl (ct 1, PN, .inl g_upn))] ++ (pl)) := hD
    obtain ⟨f124_3, ef124_3⟩ : ∃ z, z = (va_up g_upi x_mm_23.toNatClampNeg (some f)) := ⟨_, rfl⟩
    rw [← ef124_3] at hP hD
    have hA125_1 : AP g_upi f124_3 x_mm_23.toInt f := AP.of (show AG g_upi f124_3 x_mm_23.toInt from AG.put ef124_3 (show 0 ≤ x_mm_23.toInt by have q0 := h_x_mm_23.1; omega) (show x_mm_23.toInt ≤ x_mm_23.toInt by omega)) ef124_3 (show x_mm_23.toInt = x_mm_23.toInt by omega) (show 0 ≤ x_mm_23.toInt by have q0 := h_x_mm_23.1; omega)
    refine lv_aload_n hx hb dX16_push_125 rfl (lv_at hl 0 rfl) ?_
    refine va_get (D := D) (ci := 16) (v := .ref upy) (C := RX16) (T := TX16) (N := 78) hx hb (htX16 hn) (fun _ h => h) hown hK hP 0 rfl rfl 21 (by decide) (hn.get mw_1560 rfl) (fun _ h9 => h9) hf_mm_21 dX16_push_126 ?_
    refine lv_aload_n hx hb dX16_push_129 rfl (lv_at hl 0 rfl) ?_
    refine va_get (D := D) (ci := 16) (v := .int x_mm_23) (C := RX16) (T := TX16) (N := 78) hx hb (htX16 hn) (fun _ h => h) hown hK hP 0 rfl rfl 23 (by decide) (hn.get mw_1562 rfl) (fun _ h9 => h9) hf_mm_23 dX16_push_130 ?_
    refine lv_iload_n hx hb dX16_push_133 rfl (lv_at hl 2 rfl) ?_
    have hi134_1 : vp_in x_mm_23 PN := (in_of (show 0 ≤ x_mm_23.toInt ∧ x_mm_23.toInt < ((PN : Nat) : Int) by have q0 := h_x_mm_23.1; have q1 := (eq_len ez8_1 (show (0 : Int) ≤ ((PN : Nat) : Int) ∧ ((PN : Nat) : Int) ≤ 80000 from ⟨Int.natCast_nonneg _, FF.out hq0⟩) (by decide)); have q2 := FF.out hq2; have q3 := FF.out t9_2; omega))
    refine va_iast hx hb hK hP hD hS 2 1 rfl rfl hi134_1 dX16_push_134 (fun H locs hP hD hS => ?_)
    have hP : va_P D vwCl ([(mm, .inr (16, fs_mm)), (upi, .inl (ct 5, PN, .inr (.inr (.inr (.inr f124_3))))), (upy, .inl (ct 1, PN, .inl (upd g_upy x_mm_23.toNatClampNeg v1))), (upn, .inl (ct 1, PN, .inl g_upn))] ++ (pl)) _ := hP
    have hD : va_D A ([(mm, .inr (16, fs_mm)), (upi, .inl (ct 5, PN, .inr (.inr (.inr (.inr f124_3))))), (upy, .inl (ct 1, PN, .inl (upd g_upy x_mm_23.toNatClampNeg v1))), (upn, .inl (ct 1, PN, .inl g_upn))] ++ (pl)) := hD
    obtain ⟨f134_2, ef134_2⟩ : ∃ z, z = (upd g_upy x_mm_23.toNatClampNeg v1) := ⟨_, rfl⟩
    rw [← ef134_2] at hP hD
    have hA135_1 : IP g_upy f134_2 x_mm_23.toInt v1.toInt := IP.of IW.rf ef134_2 (show x_mm_23.toInt = x_mm_23.toInt by omega) (show 0 ≤ x_mm_23.toInt by have q0 := h_x_mm_23.1; omega)
    refine lv_aload_n hx hb dX16_push_135 rfl (lv_at hl 0 rfl) ?_
    refine va_get (D := D) (ci := 16) (v := .ref upn) (C := RX16) (T := TX16) (N := 78) hx hb (htX16 hn) (fun _ h => h) hown hK hP 0 rfl rfl 22 (by decide) (hn.get mw_1561 rfl) (fun _ h9 => h9) hf_mm_22 dX16_push_136 ?_
    refine lv_aload_n hx hb dX16_push_139 rfl (lv_at hl 0 rfl) ?_
    refine va_get (D := D) (ci := 16) (v := .int x_mm_23) (C := RX16) (T := TX16) (N := 78) hx hb (htX16 hn) (fun _ h => h) hown hK hP 0 rfl rfl 23 (by decide) (hn.get mw_1562 rfl) (fun _ h9 => h9) hf_mm_23 dX16_push_140 ?_
    refine lv_iload_n hx hb dX16_push_143 rfl (lv_at hl 3 rfl) ?_
    have hi144_1 : vp_in x_mm_23 PN := (in_of (show 0 ≤ x_mm_23.toInt ∧ x_mm_23.toInt < ((PN : Nat) : Int) by have q0 := h_x_mm_23.1; have q1 := (eq_len ez8_1 (show (0 : Int) ≤ ((PN : Nat) : Int) ∧ ((PN : Nat) : Int) ≤ 80000 from ⟨Int.natCast_nonneg _, FF.out hq0⟩) (by decide)); have q2 := FF.out hq2; have q3 := FF.out t9_2; omega))
    refine va_iast hx hb hK hP hD hS 3 1 rfl rfl hi144_1 dX16_push_144 (fun H locs hP hD hS => ?_)
    have hP : va_P D vwCl ([(mm, .inr (16, fs_mm)), (upi, .inl (ct 5, PN, .inr (.inr (.inr (.inr f124_3))))), (upy, .inl (ct 1, PN, .inl f134_2)), (upn, .inl (ct 1, PN, .inl (upd g_upn x_mm_23.toNatClampNeg v2)))] ++ (pl)) _ := hP
    have hD : va_D A ([(mm, .inr (16, fs_mm)), (upi, .inl (ct 5, PN, .inr (.inr (.inr (.inr f124_3))))), (upy, .inl (ct 1, PN, .inl f134_2)), (upn, .inl (ct 1, PN, .inl (upd g_upn x_mm_23.toNatClampNeg v2)))] ++ (pl)) := hD
    obtain ⟨f144_2, ef144_2⟩ : ∃ z, z = (upd g_upn x_mm_23.toNatClampNeg v2) := ⟨_, rfl⟩
    rw [← ef144_2] at hP hD
    have hA145_1 : IP g_upn f144_2 x_mm_23.toInt v2.toInt := IP.of IW.rf ef144_2 (show x_mm_23.toInt = x_mm_23.toInt by omega) (show 0 ≤ x_mm_23.toInt by have q0 := h_x_mm_23.1; omega)
    refine lv_aload_n hx hb dX16_push_145 rfl (lv_at hl 0 rfl) ?_
    refine lv_dup hx hb dX16_push_146 rfl ?_
    refine va_get (D := D) (ci := 16) (v := .int x_mm_23) (C := RX16) (T := TX16) (N := 78) hx hb (htX16 hn) (fun _ h => h) hown hK hP 0 rfl rfl 23 (by decide) (hn.get mw_1562 rfl) (fun _ h9 => h9) hf_mm_23 dX16_push_147 ?_
    refine lv_iconst (v := 1) hx hb dX16_push_150 (by decide) ?_
    refine lv_iadd hx hb dX16_push_151 ?_
    refine lv_topi (fun z151_1 ez151_1 => ?_)
    have r151_2 : rg z151_1 1 40000 := rg_add ez151_1 h_x_mm_23 (show rg (1 : Int32) 1 1 from rg_l (by decide)) (by decide)
    refine va_put (D := D) (ci := 16) (v := .int z151_1) (ty := .int) (C := RX16) (T := TX16) (N := 78) hx hb (htX16 hn) (fun _ h => h) tyX16 tyX16_ok nmX16 hown hK hP hD hS 0 rfl rfl 23 (by decide) (hn.get mw_1562 rfl) (fun _ h9 => h9) rfl (by decide +kernel) rfl rfl (by rw [hlen_mm]; decide) dX16_push_152 (fun H locs hP hD hS => ?_)
    have hP : va_P D vwCl ([(mm, .inr (16, (fs_mm.set 23 (.int z151_1)))), (upi, .inl (ct 5, PN, .inr (.inr (.inr (.inr f124_3))))), (upy, .inl (ct 1, PN, .inl f134_2)), (upn, .inl (ct 1, PN, .inl f144_2))] ++ (pl)) _ := hP
    have hD : va_D A ([(mm, .inr (16, (fs_mm.set 23 (.int z151_1)))), (upi, .inl (ct 5, PN, .inr (.inr (.inr (.inr f124_3))))), (upy, .inl (ct 1, PN, .inl f134_2)), (upn, .inl (ct 1, PN, .inl f144_2))] ++ (pl)) := hD
    obtain ⟨m152_1, em152_1⟩ : ∃ z, z = (fs_mm.set 23 (.int z151_1)) := ⟨_, rfl⟩
    rw [← em152_1] at hP hD
    have hsm152_1 : SB fs_mm m152_1 [20, 21, 22, 23] := by rw [em152_1]; exact SB.set (SB.rf _ _) (by decide)
    have hfm152_1_20 : m152_1[20]? = some (.ref upi) := by rw [em152_1]; exact fs_ne (by decide) hf_mm_20
    have hfm152_1_21 : m152_1[21]? = some (.ref upy) := by rw [em152_1]; exact fs_ne (by decide) hf_mm_21
    have hfm152_1_22 : m152_1[22]? = some (.ref upn) := by rw [em152_1]; exact fs_ne (by decide) hf_mm_22
    have hfm152_1_23 : m152_1[23]? = some (.int z151_1) := by rw [em152_1]; exact fs_eq (by rw [hlen_mm]; decide)
    have hP : va_P D vwCl ([(mm, .inr (16, m152_1)), (upi, .inl (ct 5, PN, .inr (.inr (.inr (.inr f124_3))))), (upy, .inl (ct 1, PN, .inl f134_2)), (upn, .inl (ct 1, PN, .inl f144_2))] ++ (pl)) _ := hP
    have hD : va_D A ([(mm, .inr (16, m152_1)), (upi, .inl (ct 5, PN, .inr (.inr (.inr (.inr f124_3))))), (upy, .inl (ct 1, PN, .inl f134_2)), (upn, .inl (ct 1, PN, .inl f144_2))] ++ (pl)) := hD
    exact et_v (SX := Unit) (pl1 := fun _ => pl) hQ hx hb hr hlocks dX16_push_155 (m152_1, upi, upy, upn, z151_1, f124_3, PN, f134_2, f144_2, 0, 0) ⟨hsm152_1, hfm152_1_20, hfm152_1_21, hfm152_1_22, r151_2, hfm152_1_23, (show z151_1.toInt = x_mm_23.toInt + 1 by have q0 := (eq_add ez151_1 h_x_mm_23 (show rg (1 : Int32) 1 1 from rg_l (by decide)) (by decide)); have q1 := (show (1 : Int32).toInt = 1 from by decide); omega), (show z151_1.toInt ≤ ((PN : Nat) : Int) by have q0 := (eq_add ez151_1 h_x_mm_23 (show rg (1 : Int32) 1 1 from rg_l (by decide)) (by decide)); have q1 := (eq_len ez8_1 (show (0 : Int) ≤ ((PN : Nat) : Int) ∧ ((PN : Nat) : Int) ≤ 80000 from ⟨Int.natCast_nonneg _, FF.out hq0⟩) (by decide)); have q2 := FF.out hq2; have q3 := FF.out t9_2; have q4 := (show (1 : Int32).toInt = 1 from by decide); omega), (show ((PN : Nat) : Int) ≤ ((PN : Nat) : Int) by omega), (show ((PN : Nat) : Int) ≤ 80000 by have q0 := FF.out hq0; omega), (show 64 * ((0 : Nat) : Int) + 3 * ((PN : Nat) : Int) ≤ 3 * ((PN : Nat) : Int) by omega), (show ((0 : Nat) : Int) = 6 * (((PN : Nat) : Int) - ((PN : Nat) : Int)) by omega), hA125_1, hA135_1, hA145_1⟩ hP hD hS [0, 1, 2, 3] (by decide) rfl (Nat.le_refl _) (Nat.le_refl _) (Nat.zero_le MC) (Nat.zero_le MS)
  · have t9_2 := FF.mk (i_eq c9_1)
    have r9_3 : rg z8_1 0 39999 := rg_eqB t9_2 h_x_mm_23 r8_2 (by decide)
    refine lv_iconst (v := 2) hx hb dX16_push_12 (by decide) ?_
    refine lv_aload_n hx hb dX16_push_13 rfl (lv_at hl 0 rfl) ?_
    refine va_get (D := D) (ci := 16) (v := .int x_mm_23) (C := RX16) (T := TX16) (N := 78) hx hb (htX16 hn) (fun _ h => h) hown hK hP 0 rfl rfl 23 (by decide) (hn.get mw_1562 rfl) (fun _ h9 => h9) hf_mm_23 dX16_push_14 ?_
    refine lv_imul hx hb dX16_push_17 ?_
    refine lv_topi (fun z17_1 ez17_1 => ?_)
    have r17_2 : rg z17_1 0 79998 := rg_mul ez17_1 (show rg (2 : Int32) 2 2 from rg_l (by decide)) h_x_mm_23 (by decide)
    obtain ⟨n18_2, gn18_2⟩ : ∃ k : Nat, z17_1.toNatClampNeg = k := ⟨_, rfl⟩
    have en18_2 := FF.mk (ncn_up gn18_2 (show 0 ≤ z17_1.toInt by have q0 := (eq_mull ez17_1 (show rg (2 : Int32) 2 2 from rg_l (by decide)) h_x_mm_23 (by decide)); have q1 := (eq_len ez8_1 (show (0 : Int) ≤ ((PN : Nat) : Int) ∧ ((PN : Nat) : Int) ≤ 80000 from ⟨Int.natCast_nonneg _, FF.out hq0⟩) (by decide)); have q2 := FF.out hq1; have q3 := FF.out t9_2; omega))
    have nbn18_2 : (0 : Int) ≤ ((n18_2 : Nat) : Int) ∧ ((n18_2 : Nat) : Int) ≤ 80000 := ⟨Int.natCast_nonneg _, (show ((n18_2 : Nat) : Int) ≤ 80000 by have q0 := r17_2.2; have q1 := FF.out en18_2; omega)⟩
    obtain ⟨c18_3, ec18_3⟩ : ∃ x9 : Nat, x9 = 0 + 1 := ⟨_, rfl⟩
    have ec18_3 := FF.mk ec18_3
    have mc18_3 : FF (c18_3 ≤ MC) := FF.mk (Int.ofNat_le.mp (show ((c18_3 : Nat) : Int) ≤ ((MC : Nat) : Int) by have q0 := r9_3.2; have q1 := (eq_len ez8_1 (show (0 : Int) ≤ ((PN : Nat) : Int) ∧ ((PN : Nat) : Int) ≤ 80000 from ⟨Int.natCast_nonneg _, FF.out hq0⟩) (by decide)); have q2 := FF.out hq4; have q3 := FF.out ec18_3; omega))
    obtain ⟨k18_4, ek18_4⟩ : ∃ x9 : Nat, x9 = 0 + n18_2 := ⟨_, rfl⟩
    have ek18_4 := FF.mk ek18_4
    have mk18_4 : FF (k18_4 ≤ MS) := FF.mk (Int.ofNat_le.mp (show ((k18_4 : Nat) : Int) ≤ ((MS : Nat) : Int) by have q0 := r17_2.2; have q1 := r9_3.2; have q2 := (eq_len ez8_1 (show (0 : Int) ≤ ((PN : Nat) : Int) ∧ ((PN : Nat) : Int) ≤ 80000 from ⟨Int.natCast_nonneg _, FF.out hq0⟩) (by decide)); have q3 := FF.out hq3; have q4 := FF.out en18_2; have q5 := FF.out ek18_4; omega))
    refine na_newq (k1 := c18_3) (n1 := k18_4) hx hb hn hown mw_1533 hn.2.2.2.1 hK hP hD hS hA 5 rfl n18_2 (nneg_of (show 0 ≤ z17_1.toInt by have q0 := (eq_mull ez17_1 (show rg (2 : Int32) 2 2 from rg_l (by decide)) h_x_mm_23 (by decide)); have q1 := (eq_len ez8_1 (show (0 : Int) ≤ ((PN : Nat) : Int) ∧ ((PN : Nat) : Int) ≤ 80000 from ⟨Int.natCast_nonneg _, FF.out hq0⟩) (by decide)); have q2 := FF.out hq1; have q3 := FF.out t9_2; omega)) gn18_2 (show n18_2 * 4 ≤ 536870912 by have h9 := (show ((n18_2 : Nat) : Int) ≤ 134217728 by have q0 := r17_2.2; have q1 := FF.out en18_2; omega); omega) (Nat.le_of_eq (FF.out ec18_3).symm) (Nat.le_of_eq (FF.out ek18_4).symm) (FF.out mc18_3) (FF.out mk18_4) dX16_push_18 (fun q18_1 H hP hD hS => ?_)
    have hP := hP.perm pl_last
    have hD := hD.perm pl_last
    have hP : va_P D vwCl ([(mm, .inr (16, fs_mm)), (upi, .inl (ct 5, PN, .inr (.inr (.inr (.inr g_upi))))), (upy, .inl (ct 1, PN, .inl g_upy)), (upn, .inl (ct 1, PN, .inl g_upn)), (q18_1, .inl (ct 5, n18_2, .inr (.inr (.inr (.inr (fun _ => none))))))] ++ (pl)) _ := hP
    have hD : va_D A ([(mm, .inr (16, fs_mm)), (upi, .inl (ct 5, PN, .inr (.inr (.inr (.inr g_upi))))), (upy, .inl (ct 1, PN, .inl g_upy)), (upn, .inl (ct 1, PN, .inl g_upn)), (q18_1, .inl (ct 5, n18_2, .inr (.inr (.inr (.inr (fun _ => none))))))] ++ (pl)) := hD
    refine lv_astore (lv' := [(4, .ref q18_1), (0, .ref mm), (1, .ref f), (2, .int v1), (3, .int v2)]) hx hb dX16_push_21 hl (by decide) rfl (fun ls hl => ?_)
    refine lv_iconst (v := 2) hx hb dX16_push_23 (by decide) ?_
    refine lv_aload_n hx hb dX16_push_24 rfl (lv_at hl 1 rfl) ?_
    refine va_get (D := D) (ci := 16) (v := .int x_mm_23) (C := RX16) (T := TX16) (N := 78) hx hb (htX16 hn) (fun _ h => h) hown hK hP 0 rfl rfl 23 (by decide) (hn.get mw_1562 rfl) (fun _ h9 => h9) hf_mm_23 dX16_push_25 ?_
    refine lv_imul hx hb dX16_push_28 ?_
    refine lv_topi (fun z28_1 ez28_1 => ?_)
    obtain rfl : z17_1 = z28_1 := ez17_1.trans ez28_1.symm
    obtain ⟨n29_2, gn29_2⟩ : ∃ k : Nat, z17_1.toNatClampNeg = k := ⟨_, rfl⟩
    have en29_2 := FF.mk (ncn_up gn29_2 (show 0 ≤ z17_1.toInt by have q0 := (eq_mull ez17_1 (show rg (2 : Int32) 2 2 from rg_l (by decide)) h_x_mm_23 (by decide)); have q1 := (eq_len ez8_1 (show (0 : Int) ≤ ((PN : Nat) : Int) ∧ ((PN : Nat) : Int) ≤ 80000 from ⟨Int.natCast_nonneg _, FF.out hq0⟩) (by decide)); have q2 := FF.out hq1; have q3 := FF.out t9_2; omega))
    obtain ⟨c29_3, ec29_3⟩ : ∃ x9 : Nat, x9 = c18_3 + 1 := ⟨_, rfl⟩
    have ec29_3 := FF.mk ec29_3
    have mc29_3 : FF (c29_3 ≤ MC) := FF.mk (Int.ofNat_le.mp (show ((c29_3 : Nat) : Int) ≤ ((MC : Nat) : Int) by have q0 := r9_3.2; have q1 := (eq_len ez8_1 (show (0 : Int) ≤ ((PN : Nat) : Int) ∧ ((PN : Nat) : Int) ≤ 80000 from ⟨Int.natCast_nonneg _, FF.out hq0⟩) (by decide)); have q2 := FF.out hq4; have q3 := FF.out ec18_3; have q4 := FF.out ec29_3; omega))
    obtain ⟨k29_4, ek29_4⟩ : ∃ x9 : Nat, x9 = k18_4 + n18_2 := ⟨_, rfl⟩
    have ek29_4 := FF.mk ek29_4
    have mk29_4 : FF (k29_4 ≤ MS) := FF.mk (Int.ofNat_le.mp (show ((k29_4 : Nat) : Int) ≤ ((MS : Nat) : Int) by have q0 := r17_2.2; have q1 := r9_3.2; have q2 := (eq_len ez8_1 (show (0 : Int) ≤ ((PN : Nat) : Int) ∧ ((PN : Nat) : Int) ≤ 80000 from ⟨Int.natCast_nonneg _, FF.out hq0⟩) (by decide)); have q3 := FF.out hq3; have q4 := FF.out en18_2; have q5 := FF.out ek18_4; have q6 := FF.out ek29_4; omega))
    refine na_new (atype := .int) (k1 := c29_3) (n1 := k29_4) hx hb hn mw_72 rfl hK hP hD hS hA 1 rfl n18_2 (n18_2, .inl (fun _ => 0)) (fun _ => rfl) (nneg_of (show 0 ≤ z17_1.toInt by have q0 := (eq_mull ez17_1 (show rg (2 : Int32) 2 2 from rg_l (by decide)) h_x_mm_23 (by decide)); have q1 := (eq_len ez8_1 (show (0 : Int) ≤ ((PN : Nat) : Int) ∧ ((PN : Nat) : Int) ≤ 80000 from ⟨Int.natCast_nonneg _, FF.out hq0⟩) (by decide)); have q2 := FF.out hq1; have q3 := FF.out t9_2; omega)) (gn29_2.trans (Int.ofNat_inj.mp (show ((n29_2 : Nat) : Int) = ((n18_2 : Nat) : Int) by have q0 := FF.out en18_2; have q1 := FF.out en29_2; omega))) (show n18_2 * 4 ≤ 536870912 by have h9 := (show ((n18_2 : Nat) : Int) ≤ 134217728 by have q0 := r17_2.2; have q1 := FF.out en18_2; omega); omega) (Nat.le_of_eq (FF.out ec29_3).symm) (Nat.le_of_eq (FF.out ek29_4).symm) (FF.out mc29_3) (FF.out mk29_4) dX16_push_29 (fun q29_1 H hP hD hS => ?_)
    have hP := hP.perm pl_last
    have hD := hD.perm pl_last
    have hP : va_P D vwCl ([(mm, .inr (16, fs_mm)), (upi, .inl (ct 5, PN, .inr (.inr (.inr (.inr g_upi))))), (upy, .inl (ct 1, PN, .inl g_upy)), (upn, .inl (ct 1, PN, .inl g_upn)), (q18_1, .inl (ct 5, n18_2, .inr (.inr (.inr (.inr (fun _ => none)))))), (q29_1, .inl (ct 1, n18_2, .inl (fun _ => 0)))] ++ (pl)) _ := hP
    have hD : va_D A ([(mm, .inr (16, fs_mm)), (upi, .inl (ct 5, PN, .inr (.inr (.inr (.inr g_upi))))), (upy, .inl (ct 1, PN, .inl g_upy)), (upn, .inl (ct 1, PN, .inl g_upn)), (q18_1, .inl (ct 5, n18_2, .inr (.inr (.inr (.inr (fun _ => none)))))), (q29_1, .inl (ct 1, n18_2, .inl (fun _ => 0)))] ++ (pl)) := hD
    refine lv_astore (lv' := [(5, .ref q29_1), (4, .ref q18_1), (0, .ref mm), (1, .ref f), (2, .int v1), (3, .int v2)]) hx hb dX16_push_31 hl (by decide) rfl (fun ls hl => ?_)
    refine lv_iconst (v := 2) hx hb dX16_push_33 (by decide) ?_
    refine lv_aload_n hx hb dX16_push_34 rfl (lv_at hl 2 rfl) ?_
    refine va_get (D := D) (ci := 16) (v := .int x_mm_23) (C := RX16) (T := TX16) (N := 78) hx hb (htX16 hn) (fun _ h => h) hown hK hP 0 rfl rfl 23 (by decide) (hn.get mw_1562 rfl) (fun _ h9 => h9) hf_mm_23 dX16_push_35 ?_
    refine lv_imul hx hb dX16_push_38 ?_
    refine lv_topi (fun z38_1 ez38_1 => ?_)
    obtain rfl : z17_1 = z38_1 := ez17_1.trans ez38_1.symm
    obtain ⟨n39_2, gn39_2⟩ : ∃ k : Nat, z17_1.toNatClampNeg = k := ⟨_, rfl⟩
    have en39_2 := FF.mk (ncn_up gn39_2 (show 0 ≤ z17_1.toInt by have q0 := (eq_mull ez17_1 (show rg (2 : Int32) 2 2 from rg_l (by decide)) h_x_mm_23 (by decide)); have q1 := (eq_len ez8_1 (show (0 : Int) ≤ ((PN : Nat) : Int) ∧ ((PN : Nat) : Int) ≤ 80000 from ⟨Int.natCast_nonneg _, FF.out hq0⟩) (by decide)); have q2 := FF.out hq1; have q3 := FF.out t9_2; omega))
    obtain ⟨c39_3, ec39_3⟩ : ∃ x9 : Nat, x9 = c29_3 + 1 := ⟨_, rfl⟩
    have ec39_3 := FF.mk ec39_3
    have mc39_3 : FF (c39_3 ≤ MC) := FF.mk (Int.ofNat_le.mp (show ((c39_3 : Nat) : Int) ≤ ((MC : Nat) : Int) by have q0 := r9_3.2; have q1 := (eq_len ez8_1 (show (0 : Int) ≤ ((PN : Nat) : Int) ∧ ((PN : Nat) : Int) ≤ 80000 from ⟨Int.natCast_nonneg _, FF.out hq0⟩) (by decide)); have q2 := FF.out hq4; have q3 := FF.out ec18_3; have q4 := FF.out ec29_3; have q5 := FF.out ec39_3; omega))
    obtain ⟨k39_4, ek39_4⟩ : ∃ x9 : Nat, x9 = k29_4 + n18_2 := ⟨_, rfl⟩
    have ek39_4 := FF.mk ek39_4
    have mk39_4 : FF (k39_4 ≤ MS) := FF.mk (Int.ofNat_le.mp (show ((k39_4 : Nat) : Int) ≤ ((MS : Nat) : Int) by have q0 := r17_2.2; have q1 := r9_3.2; have q2 := (eq_len ez8_1 (show (0 : Int) ≤ ((PN : Nat) : Int) ∧ ((PN : Nat) : Int) ≤ 80000 from ⟨Int.natCast_nonneg _, FF.out hq0⟩) (by decide)); have q3 := FF.out hq3; have q4 := FF.out en18_2; have q5 := FF.out ek18_4; have q6 := FF.out ek29_4; have q7 := FF.out ek39_4; omega))
    refine na_new (atype := .int) (k1 := c39_3) (n1 := k39_4) hx hb hn mw_72 rfl hK hP hD hS hA 1 rfl n18_2 (n18_2, .inl (fun _ => 0)) (fun _ => rfl) (nneg_of (show 0 ≤ z17_1.toInt by have q0 := (eq_mull ez17_1 (show rg (2 : Int32) 2 2 from rg_l (by decide)) h_x_mm_23 (by decide)); have q1 := (eq_len ez8_1 (show (0 : Int) ≤ ((PN : Nat) : Int) ∧ ((PN : Nat) : Int) ≤ 80000 from ⟨Int.natCast_nonneg _, FF.out hq0⟩) (by decide)); have q2 := FF.out hq1; have q3 := FF.out t9_2; omega)) (gn39_2.trans (Int.ofNat_inj.mp (show ((n39_2 : Nat) : Int) = ((n18_2 : Nat) : Int) by have q0 := FF.out en18_2; have q1 := FF.out en39_2; omega))) (show n18_2 * 4 ≤ 536870912 by have h9 := (show ((n18_2 : Nat) : Int) ≤ 134217728 by have q0 := r17_2.2; have q1 := FF.out en18_2; omega); omega) (Nat.le_of_eq (FF.out ec39_3).symm) (Nat.le_of_eq (FF.out ek39_4).symm) (FF.out mc39_3) (FF.out mk39_4) dX16_push_39 (fun q39_1 H hP hD hS => ?_)
    have hP := hP.perm pl_last
    have hD := hD.perm pl_last
    have hP : va_P D vwCl ([(mm, .inr (16, fs_mm)), (upi, .inl (ct 5, PN, .inr (.inr (.inr (.inr g_upi))))), (upy, .inl (ct 1, PN, .inl g_upy)), (upn, .inl (ct 1, PN, .inl g_upn)), (q18_1, .inl (ct 5, n18_2, .inr (.inr (.inr (.inr (fun _ => none)))))), (q29_1, .inl (ct 1, n18_2, .inl (fun _ => 0))), (q39_1, .inl (ct 1, n18_2, .inl (fun _ => 0)))] ++ (pl)) _ := hP
    have hD : va_D A ([(mm, .inr (16, fs_mm)), (upi, .inl (ct 5, PN, .inr (.inr (.inr (.inr g_upi))))), (upy, .inl (ct 1, PN, .inl g_upy)), (upn, .inl (ct 1, PN, .inl g_upn)), (q18_1, .inl (ct 5, n18_2, .inr (.inr (.inr (.inr (fun _ => none)))))), (q29_1, .inl (ct 1, n18_2, .inl (fun _ => 0))), (q39_1, .inl (ct 1, n18_2, .inl (fun _ => 0)))] ++ (pl)) := hD
    refine lv_astore (lv' := [(6, .ref q39_1), (5, .ref q29_1), (4, .ref q18_1), (0, .ref mm), (1, .ref f), (2, .int v1), (3, .int v2)]) hx hb dX16_push_41 hl (by decide) rfl (fun ls hl => ?_)
    refine lv_iconst (v := 0) hx hb dX16_push_43 (by decide) ?_
    refine lv_istore (lv' := [(7, .int 0), (6, .ref q39_1), (5, .ref q29_1), (4, .ref q18_1), (0, .ref mm), (1, .ref f), (2, .int v1), (3, .int v2)]) hx hb dX16_push_44 hl (by decide) rfl (fun ls hl => ?_)
    have b46 : ∀ (n46 : Nat) (j46_l7 : Int32) (j46_cq18_1 : Nat → Option Nat) (j46_cq29_1 : Nat → Int32) (j46_cq39_1 : Nat → Int32) (H : Heap) (locs : List Loc) (ls : Array Slot), (rg j46_l7 0 40000) → (AG g_upi j46_cq18_1 j46_l7.toInt) → (IW g_upy j46_cq29_1 j46_l7.toInt) → (IW g_upn j46_cq39_1 j46_l7.toInt) → ((2147483647 : Int) - j46_l7.toInt).toNat < n46 → lv_has ls 8 [(0, .ref mm), (1, .ref f), (2, .int v1), (3, .int v2), (4, .ref q18_1), (5, .ref q29_1), (6, .ref q39_1), (7, .int j46_l7)] → va_P D vwCl ([(mm, .inr (16, fs_mm)), (upi, .inl (ct 5, PN, .inr (.inr (.inr (.inr g_upi))))), (upy, .inl (ct 1, PN, .inl g_upy)), (upn, .inl (ct 1, PN, .inl g_upn)), (q18_1, .inl (ct 5, n18_2, .inr (.inr (.inr (.inr j46_cq18_1))))), (q29_1, .inl (ct 1, n18_2, .inl j46_cq29_1)), (q39_1, .inl (ct 1, n18_2, .inl j46_cq39_1))] ++ (pl)) H → va_D A ([(mm, .inr (16, fs_mm)), (upi, .inl (ct 5, PN, .inr (.inr (.inr (.inr g_upi))))), (upy, .inl (ct 1, PN, .inl g_upy)), (upn, .inl (ct 1, PN, .inl g_upn)), (q18_1, .inl (ct 5, n18_2, .inr (.inr (.inr (.inr j46_cq18_1))))), (q29_1, .inl (ct 1, n18_2, .inl j46_cq29_1)), (q39_1, .inl (ct 1, n18_2, .inl j46_cq39_1))] ++ (pl)) → va_S A s.heap H locs → W p l e ({ frames := 1, cells := MC, slots := MS, locals := 20 }) s m [.ref mm, .ref f, .int v1, .int v2].toArray below meth c H locs c39_3 k39_4 Q (F0 m 46 ls []) := by
      intro n46
      induction n46 with
      | zero => intros; rename_i hms _ _ _ _; exact absurd hms (Nat.not_lt_zero _)
      | succ n46 ih46 =>
        intro j46_l7 j46_cq18_1 j46_cq29_1 j46_cq39_1 H locs ls r46_1001 hg46_1002 hg46_1003 hg46_1004 hms46 hl hP hD hS
        refine lv_iload hx hb dX16_push_46 (lv_at hl 7 rfl) ?_
        refine lv_aload_n hx hb dX16_push_48 rfl (lv_at hl 0 rfl) ?_
        refine va_get (D := D) (ci := 16) (v := .int x_mm_23) (C := RX16) (T := TX16) (N := 78) hx hb (htX16 hn) (fun _ h => h) hown hK hP 0 rfl rfl 23 (by decide) (hn.get mw_1562 rfl) (fun _ h9 => h9) hf_mm_23 dX16_push_49 ?_
        refine lv_icmp_ge (tgt := 97) hx hb dX16_push_52 (by decide) (fun c52_1 => ?_) (fun c52_1 => ?_)
        · have t52_2 := FF.mk (i_le c52_1)
          refine lv_aload_n hx hb dX16_push_97 rfl (lv_at hl 0 rfl) ?_
          refine lv_aload hx hb dX16_push_98 (lv_at hl 4 rfl) ?_
          refine va_put (D := D) (ci := 16) (v := .ref q18_1) (ty := .array (.object "FilterForgeModel$Filter")) (C := RX16) (T := TX16) (N := 78) hx hb (htX16 hn) (fun _ h => h) tyX16 tyX16_ok nmX16 hown hK hP hD hS 0 rfl rfl 20 (by decide) (hn.get mw_1559 rfl) (fun _ h9 => h9) rfl (by decide +kernel) rfl rfl (by rw [hlen_mm]; decide) dX16_push_100 (fun H locs hP hD hS => ?_)
          have hP : va_P D vwCl ([(mm, .inr (16, (fs_mm.set 20 (.ref q18_1)))), (upi, .inl (ct 5, PN, .inr (.inr (.inr (.inr g_upi))))), (upy, .inl (ct 1, PN, .inl g_upy)), (upn, .inl (ct 1, PN, .inl g_upn)), (q18_1, .inl (ct 5, n18_2, .inr (.inr (.inr (.inr j46_cq18_1))))), (q29_1, .inl (ct 1, n18_2, .inl j46_cq29_1)), (q39_1, .inl (ct 1, n18_2, .inl j46_cq39_1))] ++ (pl)) _ := hP
          have hD : va_D A ([(mm, .inr (16, (fs_mm.set 20 (.ref q18_1)))), (upi, .inl (ct 5, PN, .inr (.inr (.inr (.inr g_upi))))), (upy, .inl (ct 1, PN, .inl g_upy)), (upn, .inl (ct 1, PN, .inl g_upn)), (q18_1, .inl (ct 5, n18_2, .inr (.inr (.inr (.inr j46_cq18_1))))), (q29_1, .inl (ct 1, n18_2, .inl j46_cq29_1)), (q39_1, .inl (ct 1, n18_2, .inl j46_cq39_1))] ++ (pl)) := hD
          obtain ⟨m100_1, em100_1⟩ : ∃ z, z = (fs_mm.set 20 (.ref q18_1)) := ⟨_, rfl⟩
          rw [← em100_1] at hP hD
          have hsm100_1 : SB fs_mm m100_1 [20, 21, 22, 23] := by rw [em100_1]; exact SB.set (SB.rf _ _) (by decide)
          have hfm100_1_21 : m100_1[21]? = some (.ref upy) := by rw [em100_1]; exact fs_ne (by decide) hf_mm_21
          have hfm100_1_22 : m100_1[22]? = some (.ref upn) := by rw [em100_1]; exact fs_ne (by decide) hf_mm_22
          have hfm100_1_23 : m100_1[23]? = some (.int x_mm_23) := by rw [em100_1]; exact fs_ne (by decide) hf_mm_23
          have hfm100_1_20 : m100_1[20]? = some (.ref q18_1) := by rw [em100_1]; exact fs_eq (by rw [hlen_mm]; decide)
          have hP : va_P D vwCl ([(mm, .inr (16, m100_1)), (upi, .inl (ct 5, PN, .inr (.inr (.inr (.inr g_upi))))), (upy, .inl (ct 1, PN, .inl g_upy)), (upn, .inl (ct 1, PN, .inl g_upn)), (q18_1, .inl (ct 5, n18_2, .inr (.inr (.inr (.inr j46_cq18_1))))), (q29_1, .inl (ct 1, n18_2, .inl j46_cq29_1)), (q39_1, .inl (ct 1, n18_2, .inl j46_cq39_1))] ++ (pl)) _ := hP
          have hD : va_D A ([(mm, .inr (16, m100_1)), (upi, .inl (ct 5, PN, .inr (.inr (.inr (.inr g_upi))))), (upy, .inl (ct 1, PN, .inl g_upy)), (upn, .inl (ct 1, PN, .inl g_upn)), (q18_1, .inl (ct 5, n18_2, .inr (.inr (.inr (.inr j46_cq18_1))))), (q29_1, .inl (ct 1, n18_2, .inl j46_cq29_1)), (q39_1, .inl (ct 1, n18_2, .inl j46_cq39_1))] ++ (pl)) := hD
          refine lv_aload_n hx hb dX16_push_103 rfl (lv_at hl 0 rfl) ?_
          refine lv_aload hx hb dX16_push_104 (lv_at hl 5 rfl) ?_
          refine va_put (D := D) (ci := 16) (v := .ref q29_1) (ty := .array .int) (C := RX16) (T := TX16) (N := 78) hx hb (htX16 hn) (fun _ h => h) tyX16 tyX16_ok nmX16 hown hK hP hD hS 0 rfl rfl 21 (by decide) (hn.get mw_1560 rfl) (fun _ h9 => h9) rfl (by decide +kernel) rfl rfl (by rw [hsm100_1.1, hlen_mm]; decide) dX16_push_106 (fun H locs hP hD hS => ?_)
          have hP : va_P D vwCl ([(mm, .inr (16, (m100_1.set 21 (.ref q29_1)))), (upi, .inl (ct 5, PN, .inr (.inr (.inr (.inr g_upi))))), (upy, .inl (ct 1, PN, .inl g_upy)), (upn, .inl (ct 1, PN, .inl g_upn)), (q18_1, .inl (ct 5, n18_2, .inr (.inr (.inr (.inr j46_cq18_1))))), (q29_1, .inl (ct 1, n18_2, .inl j46_cq29_1)), (q39_1, .inl (ct 1, n18_2, .inl j46_cq39_1))] ++ (pl)) _ := hP
          have hD : va_D A ([(mm, .inr (16, (m100_1.set 21 (.ref q29_1)))), (upi, .inl (ct 5, PN, .inr (.inr (.inr (.inr g_upi))))), (upy, .inl (ct 1, PN, .inl g_upy)), (upn, .inl (ct 1, PN, .inl g_upn)), (q18_1, .inl (ct 5, n18_2, .inr (.inr (.inr (.inr j46_cq18_1))))), (q29_1, .inl (ct 1, n18_2, .inl j46_cq29_1)), (q39_1, .inl (ct 1, n18_2, .inl j46_cq39_1))] ++ (pl)) := hD
          obtain ⟨m106_1, em106_1⟩ : ∃ z, z = (m100_1.set 21 (.ref q29_1)) := ⟨_, rfl⟩
          rw [← em106_1] at hP hD
          have hsm106_1 : SB fs_mm m106_1 [20, 21, 22, 23] := by rw [em106_1]; exact SB.set hsm100_1 (by decide)
          have hfm106_1_22 : m106_1[22]? = some (.ref upn) := by rw [em106_1]; exact fs_ne (by decide) hfm100_1_22
          have hfm106_1_23 : m106_1[23]? = some (.int x_mm_23) := by rw [em106_1]; exact fs_ne (by decide) hfm100_1_23
          have hfm106_1_20 : m106_1[20]? = some (.ref q18_1) := by rw [em106_1]; exact fs_ne (by decide) hfm100_1_20
          have hfm106_1_21 : m106_1[21]? = some (.ref q29_1) := by rw [em106_1]; exact fs_eq (by rw [hsm100_1.1, hlen_mm]; decide)
          have hP : va_P D vwCl ([(mm, .inr (16, m106_1)), (upi, .inl (ct 5, PN, .inr (.inr (.inr (.inr g_upi))))), (upy, .inl (ct 1, PN, .inl g_upy)), (upn, .inl (ct 1, PN, .inl g_upn)), (q18_1, .inl (ct 5, n18_2, .inr (.inr (.inr (.inr j46_cq18_1))))), (q29_1, .inl (ct 1, n18_2, .inl j46_cq29_1)), (q39_1, .inl (ct 1, n18_2, .inl j46_cq39_1))] ++ (pl)) _ := hP
          have hD : va_D A ([(mm, .inr (16, m106_1)), (upi, .inl (ct 5, PN, .inr (.inr (.inr (.inr g_upi))))), (upy, .inl (ct 1, PN, .inl g_upy)), (upn, .inl (ct 1, PN, .inl g_upn)), (q18_1, .inl (ct 5, n18_2, .inr (.inr (.inr (.inr j46_cq18_1))))), (q29_1, .inl (ct 1, n18_2, .inl j46_cq29_1)), (q39_1, .inl (ct 1, n18_2, .inl j46_cq39_1))] ++ (pl)) := hD
          refine lv_aload_n hx hb dX16_push_109 rfl (lv_at hl 0 rfl) ?_
          refine lv_aload hx hb dX16_push_110 (lv_at hl 6 rfl) ?_
          refine va_put (D := D) (ci := 16) (v := .ref q39_1) (ty := .array .int) (C := RX16) (T := TX16) (N := 78) hx hb (htX16 hn) (fun _ h => h) tyX16 tyX16_ok nmX16 hown hK hP hD hS 0 rfl rfl 22 (by decide) (hn.get mw_1561 rfl) (fun _ h9 => h9) rfl (by decide +kernel) rfl rfl (by rw [hsm106_1.1, hlen_mm]; decide) dX16_push_112 (fun H locs hP hD hS => ?_)
          have hP : va_P D vwCl ([(mm, .inr (16, (m106_1.set 22 (.ref q39_1)))), (upi, .inl (ct 5, PN, .inr (.inr (.inr (.inr g_upi))))), (upy, .inl (ct 1, PN, .inl g_upy)), (upn, .inl (ct 1, PN, .inl g_upn)), (q18_1, .inl (ct 5, n18_2, .inr (.inr (.inr (.inr j46_cq18_1))))), (q29_1, .inl (ct 1, n18_2, .inl j46_cq29_1)), (q39_1, .inl (ct 1, n18_2, .inl j46_cq39_1))] ++ (pl)) _ := hP
          have hD : va_D A ([(mm, .inr (16, (m106_1.set 22 (.ref q39_1)))), (upi, .inl (ct 5, PN, .inr (.inr (.inr (.inr g_upi))))), (upy, .inl (ct 1, PN, .inl g_upy)), (upn, .inl (ct 1, PN, .inl g_upn)), (q18_1, .inl (ct 5, n18_2, .inr (.inr (.inr (.inr j46_cq18_1))))), (q29_1, .inl (ct 1, n18_2, .inl j46_cq29_1)), (q39_1, .inl (ct 1, n18_2, .inl j46_cq39_1))] ++ (pl)) := hD
          obtain ⟨m112_1, em112_1⟩ : ∃ z, z = (m106_1.set 22 (.ref q39_1)) := ⟨_, rfl⟩
          rw [← em112_1] at hP hD
          have hsm112_1 : SB fs_mm m112_1 [20, 21, 22, 23] := by rw [em112_1]; exact SB.set hsm106_1 (by decide)
          have hfm112_1_23 : m112_1[23]? = some (.int x_mm_23) := by rw [em112_1]; exact fs_ne (by decide) hfm106_1_23
          have hfm112_1_20 : m112_1[20]? = some (.ref q18_1) := by rw [em112_1]; exact fs_ne (by decide) hfm106_1_20
          have hfm112_1_21 : m112_1[21]? = some (.ref q29_1) := by rw [em112_1]; exact fs_ne (by decide) hfm106_1_21
          have hfm112_1_22 : m112_1[22]? = some (.ref q39_1) := by rw [em112_1]; exact fs_eq (by rw [hsm106_1.1, hlen_mm]; decide)
          have hP : va_P D vwCl ([(mm, .inr (16, m112_1)), (upi, .inl (ct 5, PN, .inr (.inr (.inr (.inr g_upi))))), (upy, .inl (ct 1, PN, .inl g_upy)), (upn, .inl (ct 1, PN, .inl g_upn)), (q18_1, .inl (ct 5, n18_2, .inr (.inr (.inr (.inr j46_cq18_1))))), (q29_1, .inl (ct 1, n18_2, .inl j46_cq29_1)), (q39_1, .inl (ct 1, n18_2, .inl j46_cq39_1))] ++ (pl)) _ := hP
          have hD : va_D A ([(mm, .inr (16, m112_1)), (upi, .inl (ct 5, PN, .inr (.inr (.inr (.inr g_upi))))), (upy, .inl (ct 1, PN, .inl g_upy)), (upn, .inl (ct 1, PN, .inl g_upn)), (q18_1, .inl (ct 5, n18_2, .inr (.inr (.inr (.inr j46_cq18_1))))), (q29_1, .inl (ct 1, n18_2, .inl j46_cq29_1)), (q39_1, .inl (ct 1, n18_2, .inl j46_cq39_1))] ++ (pl)) := hD
          refine lv_aload_n hx hb dX16_push_115 rfl (lv_at hl 0 rfl) ?_
          refine va_get (D := D) (ci := 16) (v := .ref q18_1) (C := RX16) (T := TX16) (N := 78) hx hb (htX16 hn) (fun _ h => h) hown hK hP 0 rfl rfl 20 (by decide) (hn.get mw_1559 rfl) (fun _ h9 => h9) hfm112_1_20 dX16_push_116 ?_
          refine lv_aload_n hx hb dX16_push_119 rfl (lv_at hl 0 rfl) ?_
          refine va_get (D := D) (ci := 16) (v := .int x_mm_23) (C := RX16) (T := TX16) (N := 78) hx hb (htX16 hn) (fun _ h => h) hown hK hP 0 rfl rfl 23 (by decide) (hn.get mw_1562 rfl) (fun _ h9 => h9) hfm112_1_23 dX16_push_120 ?_
          refine lv_aload_n hx hb dX16_push_123 rfl (lv_at hl 1 rfl) ?_
          have hi124_1 : vp_in x_mm_23 n18_2 := (in_of (show 0 ≤ x_mm_23.toInt ∧ x_mm_23.toInt < ((n18_2 : Nat) : Int) by have q0 := (eq_len ez8_1 (show (0 : Int) ≤ ((PN : Nat) : Int) ∧ ((PN : Nat) : Int) ≤ 80000 from ⟨Int.natCast_nonneg _, FF.out hq0⟩) (by decide)); have q1 := (eq_mull ez17_1 (show rg (2 : Int32) 2 2 from rg_l (by decide)) h_x_mm_23 (by decide)); have q2 := FF.out hq1; have q3 := FF.out t9_2; have q4 := FF.out en18_2; omega))
          obtain ⟨k124_2, hk124_2⟩ := pl_get (X := [(mm, .inr (16, m112_1)), (upi, .inl (ct 5, PN, .inr (.inr (.inr (.inr g_upi))))), (upy, .inl (ct 1, PN, .inl g_upy)), (upn, .inl (ct 1, PN, .inl g_upn)), (q18_1, .inl (ct 5, n18_2, .inr (.inr (.inr (.inr j46_cq18_1))))), (q29_1, .inl (ct 1, n18_2, .inl j46_cq29_1)), (q39_1, .inl (ct 1, n18_2, .inl j46_cq39_1))]) hm_f
          refine va_astq hx hb hK hP hD hS 4 5 k124_2 12 rfl rfl hk124_2 rfl hi124_1 dX16_push_124 (fun H locs hP hD hS => ?_)
          have hP : va_P D vwCl ([(mm, .inr (16, m112_1)), (upi, .inl (ct 5, PN, .inr (.inr (.inr (.inr g_upi))))), (upy, .inl (ct 1, PN, .inl g_upy)), (upn, .inl (ct 1, PN, .inl g_upn)), (q18_1, .inl (ct 5, n18_2, .inr (.inr (.inr (.inr (va_up j46_cq18_1 x_mm_23.toNatClampNeg (some f))))))), (q29_1, .inl (ct 1, n18_2, .inl j46_cq29_1)), (q39_1, .inl (ct 1, n18_2, .inl j46_cq39_1))] ++ (pl)) _ := hP
          have hD : va_D A ([(mm, .inr (16, m112_1)), (upi, .inl (ct 5, PN, .inr (.inr (.inr (.inr g_upi))))), (upy, .inl (ct 1, PN, .inl g_upy)), (upn, .inl (ct 1, PN, .inl g_upn)), (q18_1, .inl (ct 5, n18_2, .inr (.inr (.inr (.inr (va_up j46_cq18_1 x_mm_23.toNatClampNeg (some f))))))), (q29_1, .inl (ct 1, n18_2, .inl j46_cq29_1)), (q39_1, .inl (ct 1, n18_2, .inl j46_cq39_1))] ++ (pl)) := hD
          obtain ⟨f124_3, ef124_3⟩ : ∃ z, z = (va_up j46_cq18_1 x_mm_23.toNatClampNeg (some f)) := ⟨_, rfl⟩
          rw [← ef124_3] at hP hD
          have hA125_1 : AP g_upi f124_3 x_mm_23.toInt f := AP.of (show AG g_upi f124_3 x_mm_23.toInt from AG.tr (show AG g_upi j46_cq18_1 x_mm_23.toInt from AG.tr AG.rf hg46_1002 (Int.le_refl _) (show x_mm_23.toInt ≤ j46_l7.toInt by have q0 := FF.out t52_2; omega)) (show AG j46_cq18_1 f124_3 x_mm_23.toInt from AG.put ef124_3 (show 0 ≤ x_mm_23.toInt by have q0 := (eq_len ez8_1 (show (0 : Int) ≤ ((PN : Nat) : Int) ∧ ((PN : Nat) : Int) ≤ 80000 from ⟨Int.natCast_nonneg _, FF.out hq0⟩) (by decide)); have q1 := FF.out hq1; have q2 := FF.out t9_2; omega) (show x_mm_23.toInt ≤ x_mm_23.toInt by omega)) (Int.le_refl _) (Int.le_refl _)) ef124_3 (show x_mm_23.toInt = x_mm_23.toInt by omega) (show 0 ≤ x_mm_23.toInt by have q0 := (eq_len ez8_1 (show (0 : Int) ≤ ((PN : Nat) : Int) ∧ ((PN : Nat) : Int) ≤ 80000 from ⟨Int.natCast_nonneg _, FF.out hq0⟩) (by decide)); have q1 := FF.out hq1; have q2 := FF.out t9_2; omega)
          refine lv_aload_n hx hb dX16_push_125 rfl (lv_at hl 0 rfl) ?_
          refine va_get (D := D) (ci := 16) (v := .ref q29_1) (C := RX16) (T := TX16) (N := 78) hx hb (htX16 hn) (fun _ h => h) hown hK hP 0 rfl rfl 21 (by decide) (hn.get mw_1560 rfl) (fun _ h9 => h9) hfm112_1_21 dX16_push_126 ?_
          refine lv_aload_n hx hb dX16_push_129 rfl (lv_at hl 0 rfl) ?_
          refine va_get (D := D) (ci := 16) (v := .int x_mm_23) (C := RX16) (T := TX16) (N := 78) hx hb (htX16 hn) (fun _ h => h) hown hK hP 0 rfl rfl 23 (by decide) (hn.get mw_1562 rfl) (fun _ h9 => h9) hfm112_1_23 dX16_push_130 ?_
          refine lv_iload_n hx hb dX16_push_133 rfl (lv_at hl 2 rfl) ?_
          have hi134_1 : vp_in x_mm_23 n18_2 := (in_of (show 0 ≤ x_mm_23.toInt ∧ x_mm_23.toInt < ((n18_2 : Nat) : Int) by have q0 := (eq_len ez8_1 (show (0 : Int) ≤ ((PN : Nat) : Int) ∧ ((PN : Nat) : Int) ≤ 80000 from ⟨Int.natCast_nonneg _, FF.out hq0⟩) (by decide)); have q1 := (eq_mull ez17_1 (show rg (2 : Int32) 2 2 from rg_l (by decide)) h_x_mm_23 (by decide)); have q2 := FF.out hq1; have q3 := FF.out t9_2; have q4 := FF.out en18_2; omega))
          refine va_iast hx hb hK hP hD hS 5 1 rfl rfl hi134_1 dX16_push_134 (fun H locs hP hD hS => ?_)
          have hP : va_P D vwCl ([(mm, .inr (16, m112_1)), (upi, .inl (ct 5, PN, .inr (.inr (.inr (.inr g_upi))))), (upy, .inl (ct 1, PN, .inl g_upy)), (upn, .inl (ct 1, PN, .inl g_upn)), (q18_1, .inl (ct 5, n18_2, .inr (.inr (.inr (.inr f124_3))))), (q29_1, .inl (ct 1, n18_2, .inl (upd j46_cq29_1 x_mm_23.toNatClampNeg v1))), (q39_1, .inl (ct 1, n18_2, .inl j46_cq39_1))] ++ (pl)) _ := hP
          have hD : va_D A ([(mm, .inr (16, m112_1)), (upi, .inl (ct 5, PN, .inr (.inr (.inr (.inr g_upi))))), (upy, .inl (ct 1, PN, .inl g_upy)), (upn, .inl (ct 1, PN, .inl g_upn)), (q18_1, .inl (ct 5, n18_2, .inr (.inr (.inr (.inr f124_3))))), (q29_1, .inl (ct 1, n18_2, .inl (upd j46_cq29_1 x_mm_23.toNatClampNeg v1))), (q39_1, .inl (ct 1, n18_2, .inl j46_cq39_1))] ++ (pl)) := hD
          obtain ⟨f134_2, ef134_2⟩ : ∃ z, z = (upd j46_cq29_1 x_mm_23.toNatClampNeg v1) := ⟨_, rfl⟩
          rw [← ef134_2] at hP hD
          have hA135_1 : IP g_upy f134_2 x_mm_23.toInt v1.toInt := IP.of (IW.mono hg46_1003 (show x_mm_23.toInt ≤ j46_l7.toInt by have q0 := FF.out t52_2; omega)) ef134_2 (show x_mm_23.toInt = x_mm_23.toInt by omega) (show 0 ≤ x_mm_23.toInt by have q0 := (eq_len ez8_1 (show (0 : Int) ≤ ((PN : Nat) : Int) ∧ ((PN : Nat) : Int) ≤ 80000 from ⟨Int.natCast_nonneg _, FF.out hq0⟩) (by decide)); have q1 := FF.out hq1; have q2 := FF.out t9_2; omega)
          refine lv_aload_n hx hb dX16_push_135 rfl (lv_at hl 0 rfl) ?_
          refine va_get (D := D) (ci := 16) (v := .ref q39_1) (C := RX16) (T := TX16) (N := 78) hx hb (htX16 hn) (fun _ h => h) hown hK hP 0 rfl rfl 22 (by decide) (hn.get mw_1561 rfl) (fun _ h9 => h9) hfm112_1_22 dX16_push_136 ?_
          refine lv_aload_n hx hb dX16_push_139 rfl (lv_at hl 0 rfl) ?_
          refine va_get (D := D) (ci := 16) (v := .int x_mm_23) (C := RX16) (T := TX16) (N := 78) hx hb (htX16 hn) (fun _ h => h) hown hK hP 0 rfl rfl 23 (by decide) (hn.get mw_1562 rfl) (fun _ h9 => h9) hfm112_1_23 dX16_push_140 ?_
          refine lv_iload_n hx hb dX16_push_143 rfl (lv_at hl 3 rfl) ?_
          have hi144_1 : vp_in x_mm_23 n18_2 := (in_of (show 0 ≤ x_mm_23.toInt ∧ x_mm_23.toInt < ((n18_2 : Nat) : Int) by have q0 := (eq_len ez8_1 (show (0 : Int) ≤ ((PN : Nat) : Int) ∧ ((PN : Nat) : Int) ≤ 80000 from ⟨Int.natCast_nonneg _, FF.out hq0⟩) (by decide)); have q1 := (eq_mull ez17_1 (show rg (2 : Int32) 2 2 from rg_l (by decide)) h_x_mm_23 (by decide)); have q2 := FF.out hq1; have q3 := FF.out t9_2; have q4 := FF.out en18_2; omega))
          refine va_iast hx hb hK hP hD hS 6 1 rfl rfl hi144_1 dX16_push_144 (fun H locs hP hD hS => ?_)
          have hP : va_P D vwCl ([(mm, .inr (16, m112_1)), (upi, .inl (ct 5, PN, .inr (.inr (.inr (.inr g_upi))))), (upy, .inl (ct 1, PN, .inl g_upy)), (upn, .inl (ct 1, PN, .inl g_upn)), (q18_1, .inl (ct 5, n18_2, .inr (.inr (.inr (.inr f124_3))))), (q29_1, .inl (ct 1, n18_2, .inl f134_2)), (q39_1, .inl (ct 1, n18_2, .inl (upd j46_cq39_1 x_mm_23.toNatClampNeg v2)))] ++ (pl)) _ := hP
          have hD : va_D A ([(mm, .inr (16, m112_1)), (upi, .inl (ct 5, PN, .inr (.inr (.inr (.inr g_upi))))), (upy, .inl (ct 1, PN, .inl g_upy)), (upn, .inl (ct 1, PN, .inl g_upn)), (q18_1, .inl (ct 5, n18_2, .inr (.inr (.inr (.inr f124_3))))), (q29_1, .inl (ct 1, n18_2, .inl f134_2)), (q39_1, .inl (ct 1, n18_2, .inl (upd j46_cq39_1 x_mm_23.toNatClampNeg v2)))] ++ (pl)) := hD
          obtain ⟨f144_2, ef144_2⟩ : ∃ z, z = (upd j46_cq39_1 x_mm_23.toNatClampNeg v2) := ⟨_, rfl⟩
          rw [← ef144_2] at hP hD
          have hA145_1 : IP g_upn f144_2 x_mm_23.toInt v2.toInt := IP.of (IW.mono hg46_1004 (show x_mm_23.toInt ≤ j46_l7.toInt by have q0 := FF.out t52_2; omega)) ef144_2 (show x_mm_23.toInt = x_mm_23.toInt by omega) (show 0 ≤ x_mm_23.toInt by have q0 := (eq_len ez8_1 (show (0 : Int) ≤ ((PN : Nat) : Int) ∧ ((PN : Nat) : Int) ≤ 80000 from ⟨Int.natCast_nonneg _, FF.out hq0⟩) (by decide)); have q1 := FF.out hq1; have q2 := FF.out t9_2; omega)
          refine lv_aload_n hx hb dX16_push_145 rfl (lv_at hl 0 rfl) ?_
          refine lv_dup hx hb dX16_push_146 rfl ?_
          refine va_get (D := D) (ci := 16) (v := .int x_mm_23) (C := RX16) (T := TX16) (N := 78) hx hb (htX16 hn) (fun _ h => h) hown hK hP 0 rfl rfl 23 (by decide) (hn.get mw_1562 rfl) (fun _ h9 => h9) hfm112_1_23 dX16_push_147 ?_
          refine lv_iconst (v := 1) hx hb dX16_push_150 (by decide) ?_
          refine lv_iadd hx hb dX16_push_151 ?_
          refine lv_topi (fun z151_1 ez151_1 => ?_)
          have r151_2 : rg z151_1 1 40000 := rg_add ez151_1 h_x_mm_23 (show rg (1 : Int32) 1 1 from rg_l (by decide)) (by decide)
          refine va_put (D := D) (ci := 16) (v := .int z151_1) (ty := .int) (C := RX16) (T := TX16) (N := 78) hx hb (htX16 hn) (fun _ h => h) tyX16 tyX16_ok nmX16 hown hK hP hD hS 0 rfl rfl 23 (by decide) (hn.get mw_1562 rfl) (fun _ h9 => h9) rfl (by decide +kernel) rfl rfl (by rw [hsm112_1.1, hlen_mm]; decide) dX16_push_152 (fun H locs hP hD hS => ?_)
          have hP : va_P D vwCl ([(mm, .inr (16, (m112_1.set 23 (.int z151_1)))), (upi, .inl (ct 5, PN, .inr (.inr (.inr (.inr g_upi))))), (upy, .inl (ct 1, PN, .inl g_upy)), (upn, .inl (ct 1, PN, .inl g_upn)), (q18_1, .inl (ct 5, n18_2, .inr (.inr (.inr (.inr f124_3))))), (q29_1, .inl (ct 1, n18_2, .inl f134_2)), (q39_1, .inl (ct 1, n18_2, .inl f144_2))] ++ (pl)) _ := hP
          have hD : va_D A ([(mm, .inr (16, (m112_1.set 23 (.int z151_1)))), (upi, .inl (ct 5, PN, .inr (.inr (.inr (.inr g_upi))))), (upy, .inl (ct 1, PN, .inl g_upy)), (upn, .inl (ct 1, PN, .inl g_upn)), (q18_1, .inl (ct 5, n18_2, .inr (.inr (.inr (.inr f124_3))))), (q29_1, .inl (ct 1, n18_2, .inl f134_2)), (q39_1, .inl (ct 1, n18_2, .inl f144_2))] ++ (pl)) := hD
          obtain ⟨m152_1, em152_1⟩ : ∃ z, z = (m112_1.set 23 (.int z151_1)) := ⟨_, rfl⟩
          rw [← em152_1] at hP hD
          have hsm152_1 : SB fs_mm m152_1 [20, 21, 22, 23] := by rw [em152_1]; exact SB.set hsm112_1 (by decide)
          have hfm152_1_20 : m152_1[20]? = some (.ref q18_1) := by rw [em152_1]; exact fs_ne (by decide) hfm112_1_20
          have hfm152_1_21 : m152_1[21]? = some (.ref q29_1) := by rw [em152_1]; exact fs_ne (by decide) hfm112_1_21
          have hfm152_1_22 : m152_1[22]? = some (.ref q39_1) := by rw [em152_1]; exact fs_ne (by decide) hfm112_1_22
          have hfm152_1_23 : m152_1[23]? = some (.int z151_1) := by rw [em152_1]; exact fs_eq (by rw [hsm112_1.1, hlen_mm]; decide)
          have hP : va_P D vwCl ([(mm, .inr (16, m152_1)), (upi, .inl (ct 5, PN, .inr (.inr (.inr (.inr g_upi))))), (upy, .inl (ct 1, PN, .inl g_upy)), (upn, .inl (ct 1, PN, .inl g_upn)), (q18_1, .inl (ct 5, n18_2, .inr (.inr (.inr (.inr f124_3))))), (q29_1, .inl (ct 1, n18_2, .inl f134_2)), (q39_1, .inl (ct 1, n18_2, .inl f144_2))] ++ (pl)) _ := hP
          have hD : va_D A ([(mm, .inr (16, m152_1)), (upi, .inl (ct 5, PN, .inr (.inr (.inr (.inr g_upi))))), (upy, .inl (ct 1, PN, .inl g_upy)), (upn, .inl (ct 1, PN, .inl g_upn)), (q18_1, .inl (ct 5, n18_2, .inr (.inr (.inr (.inr f124_3))))), (q29_1, .inl (ct 1, n18_2, .inl f134_2)), (q39_1, .inl (ct 1, n18_2, .inl f144_2))] ++ (pl)) := hD
          exact et_v (SX := Unit) (pl1 := fun _ => pl) hQ hx hb hr hlocks dX16_push_155 (m152_1, q18_1, q29_1, q39_1, z151_1, f124_3, n18_2, f134_2, f144_2, c39_3, k39_4) ⟨hsm152_1, hfm152_1_20, hfm152_1_21, hfm152_1_22, r151_2, hfm152_1_23, (show z151_1.toInt = x_mm_23.toInt + 1 by have q0 := (eq_add ez151_1 h_x_mm_23 (show rg (1 : Int32) 1 1 from rg_l (by decide)) (by decide)); have q1 := (show (1 : Int32).toInt = 1 from by decide); omega), (show z151_1.toInt ≤ ((n18_2 : Nat) : Int) by have q0 := (eq_add ez151_1 h_x_mm_23 (show rg (1 : Int32) 1 1 from rg_l (by decide)) (by decide)); have q1 := (eq_len ez8_1 (show (0 : Int) ≤ ((PN : Nat) : Int) ∧ ((PN : Nat) : Int) ≤ 80000 from ⟨Int.natCast_nonneg _, FF.out hq0⟩) (by decide)); have q2 := (eq_mull ez17_1 (show rg (2 : Int32) 2 2 from rg_l (by decide)) h_x_mm_23 (by decide)); have q3 := FF.out hq1; have q4 := FF.out t9_2; have q5 := FF.out en18_2; have q6 := (show (1 : Int32).toInt = 1 from by decide); omega), (show ((PN : Nat) : Int) ≤ ((n18_2 : Nat) : Int) by have q0 := (eq_mull ez17_1 (show rg (2 : Int32) 2 2 from rg_l (by decide)) h_x_mm_23 (by decide)); have q1 := (eq_len ez8_1 (show (0 : Int) ≤ ((PN : Nat) : Int) ∧ ((PN : Nat) : Int) ≤ 80000 from ⟨Int.natCast_nonneg _, FF.out hq0⟩) (by decide)); have q2 := FF.out hq1; have q3 := FF.out t9_2; have q4 := FF.out en18_2; omega), (show ((n18_2 : Nat) : Int) ≤ 80000 by have q0 := r17_2.2; have q1 := FF.out en18_2; omega), (show 64 * ((c39_3 : Nat) : Int) + 3 * ((PN : Nat) : Int) ≤ 3 * ((n18_2 : Nat) : Int) by have q0 := (eq_mull ez17_1 (show rg (2 : Int32) 2 2 from rg_l (by decide)) h_x_mm_23 (by decide)); have q1 := (eq_len ez8_1 (show (0 : Int) ≤ ((PN : Nat) : Int) ∧ ((PN : Nat) : Int) ≤ 80000 from ⟨Int.natCast_nonneg _, FF.out hq0⟩) (by decide)); have q2 := FF.out hq1; have q3 := FF.out t9_2; have q4 := FF.out en18_2; have q5 := FF.out ec18_3; have q6 := FF.out ec29_3; have q7 := FF.out ec39_3; omega), (show ((k39_4 : Nat) : Int) = 6 * (((n18_2 : Nat) : Int) - ((PN : Nat) : Int)) by have q0 := (eq_mull ez17_1 (show rg (2 : Int32) 2 2 from rg_l (by decide)) h_x_mm_23 (by decide)); have q1 := (eq_len ez8_1 (show (0 : Int) ≤ ((PN : Nat) : Int) ∧ ((PN : Nat) : Int) ≤ 80000 from ⟨Int.natCast_nonneg _, FF.out hq0⟩) (by decide)); have q2 := FF.out hq2; have q3 := FF.out t9_2; have q4 := FF.out en18_2; have q5 := FF.out ek18_4; have q6 := FF.out ek29_4; have q7 := FF.out ek39_4; omega), hA125_1, hA135_1, hA145_1⟩ hP hD hS [0, 4, 5, 6] (by decide) rfl (Nat.le_refl _) (Nat.le_refl _) (FF.out mc39_3) (FF.out mk39_4)
        · have t52_2 := FF.mk (i_nle c52_1)
          have r52_3 : rg j46_l7 0 39998 := rg_ltA t52_2 r46_1001 h_x_mm_23 (by decide)
          have r52_4 : rg x_mm_23 1 39999 := rg_ltB t52_2 r46_1001 h_x_mm_23 (by decide)
          refine lv_aload hx hb dX16_push_55 (lv_at hl 4 rfl) ?_
          refine lv_iload hx hb dX16_push_57 (lv_at hl 7 rfl) ?_
          refine lv_aload_n hx hb dX16_push_59 rfl (lv_at hl 0 rfl) ?_
          refine va_get (D := D) (ci := 16) (v := .ref upi) (C := RX16) (T := TX16) (N := 78) hx hb (htX16 hn) (fun _ h => h) hown hK hP 0 rfl rfl 20 (by decide) (hn.get mw_1559 rfl) (fun _ h9 => h9) hf_mm_20 dX16_push_60 ?_
          refine lv_iload hx hb dX16_push_63 (lv_at hl 7 rfl) ?_
          obtain ⟨a65_1, fa65_1, ha65_1, ma65_1⟩ := EL.at hg0 (i := j46_l7) (show 0 ≤ j46_l7.toInt by have q0 := r52_3.1; omega) (show j46_l7.toInt < x_mm_23.toInt by have q0 := FF.out t52_2; omega)
          have hi65_2 : vp_in j46_l7 PN := (in_of (show 0 ≤ j46_l7.toInt ∧ j46_l7.toInt < ((PN : Nat) : Int) by have q0 := r52_3.1; have q1 := FF.out hq2; have q2 := FF.out t52_2; omega))
          refine aq_ld hx hb hK hP 1 5 rfl rfl hi65_2 ha65_1 dX16_push_65 ?_
          have hi66_1 : vp_in j46_l7 n18_2 := (in_of (show 0 ≤ j46_l7.toInt ∧ j46_l7.toInt < ((n18_2 : Nat) : Int) by have q0 := r52_3.1; have q1 := (eq_len ez8_1 (show (0 : Int) ≤ ((PN : Nat) : Int) ∧ ((PN : Nat) : Int) ≤ 80000 from ⟨Int.natCast_nonneg _, FF.out hq0⟩) (by decide)); have q2 := (eq_mull ez17_1 (show rg (2 : Int32) 2 2 from rg_l (by decide)) h_x_mm_23 (by decide)); have q3 := FF.out hq1; have q4 := FF.out t9_2; have q5 := FF.out en18_2; have q6 := FF.out t52_2; omega))
          obtain ⟨k66_2, hk66_2⟩ := pl_get (X := [(mm, .inr (16, fs_mm)), (upi, .inl (ct 5, PN, .inr (.inr (.inr (.inr g_upi))))), (upy, .inl (ct 1, PN, .inl g_upy)), (upn, .inl (ct 1, PN, .inl g_upn)), (q18_1, .inl (ct 5, n18_2, .inr (.inr (.inr (.inr j46_cq18_1))))), (q29_1, .inl (ct 1, n18_2, .inl j46_cq29_1)), (q39_1, .inl (ct 1, n18_2, .inl j46_cq39_1))]) ma65_1
          refine va_astq hx hb hK hP hD hS 4 5 k66_2 12 rfl rfl hk66_2 rfl hi66_1 dX16_push_66 (fun H locs hP hD hS => ?_)
          have hP : va_P D vwCl ([(mm, .inr (16, fs_mm)), (upi, .inl (ct 5, PN, .inr (.inr (.inr (.inr g_upi))))), (upy, .inl (ct 1, PN, .inl g_upy)), (upn, .inl (ct 1, PN, .inl g_upn)), (q18_1, .inl (ct 5, n18_2, .inr (.inr (.inr (.inr (va_up j46_cq18_1 j46_l7.toNatClampNeg (some a65_1))))))), (q29_1, .inl (ct 1, n18_2, .inl j46_cq29_1)), (q39_1, .inl (ct 1, n18_2, .inl j46_cq39_1))] ++ (pl)) _ := hP
          have hD : va_D A ([(mm, .inr (16, fs_mm)), (upi, .inl (ct 5, PN, .inr (.inr (.inr (.inr g_upi))))), (upy, .inl (ct 1, PN, .inl g_upy)), (upn, .inl (ct 1, PN, .inl g_upn)), (q18_1, .inl (ct 5, n18_2, .inr (.inr (.inr (.inr (va_up j46_cq18_1 j46_l7.toNatClampNeg (some a65_1))))))), (q29_1, .inl (ct 1, n18_2, .inl j46_cq29_1)), (q39_1, .inl (ct 1, n18_2, .inl j46_cq39_1))] ++ (pl)) := hD
          obtain ⟨f66_3, ef66_3⟩ : ∃ z, z = (va_up j46_cq18_1 j46_l7.toNatClampNeg (some a65_1)) := ⟨_, rfl⟩
          rw [← ef66_3] at hP hD
          refine lv_aload hx hb dX16_push_67 (lv_at hl 5 rfl) ?_
          refine lv_iload hx hb dX16_push_69 (lv_at hl 7 rfl) ?_
          refine lv_aload_n hx hb dX16_push_71 rfl (lv_at hl 0 rfl) ?_
          refine va_get (D := D) (ci := 16) (v := .ref upy) (C := RX16) (T := TX16) (N := 78) hx hb (htX16 hn) (fun _ h => h) hown hK hP 0 rfl rfl 21 (by decide) (hn.get mw_1560 rfl) (fun _ h9 => h9) hf_mm_21 dX16_push_72 ?_
          refine lv_iload hx hb dX16_push_75 (lv_at hl 7 rfl) ?_
          have hi77_1 : vp_in j46_l7 PN := (in_of (show 0 ≤ j46_l7.toInt ∧ j46_l7.toInt < ((PN : Nat) : Int) by have q0 := r52_3.1; have q1 := FF.out hq2; have q2 := FF.out t52_2; omega))
          refine va_iald hx hb hK hP 2 1 rfl rfl hi77_1 dX16_push_77 ?_
          refine lv_topi (fun z77_2 ez77_2 => ?_)
          have hi78_1 : vp_in j46_l7 n18_2 := (in_of (show 0 ≤ j46_l7.toInt ∧ j46_l7.toInt < ((n18_2 : Nat) : Int) by have q0 := r52_3.1; have q1 := (eq_len ez8_1 (show (0 : Int) ≤ ((PN : Nat) : Int) ∧ ((PN : Nat) : Int) ≤ 80000 from ⟨Int.natCast_nonneg _, FF.out hq0⟩) (by decide)); have q2 := (eq_mull ez17_1 (show rg (2 : Int32) 2 2 from rg_l (by decide)) h_x_mm_23 (by decide)); have q3 := FF.out hq1; have q4 := FF.out t9_2; have q5 := FF.out en18_2; have q6 := FF.out t52_2; omega))
          refine va_iast hx hb hK hP hD hS 5 1 rfl rfl hi78_1 dX16_push_78 (fun H locs hP hD hS => ?_)
          have hP : va_P D vwCl ([(mm, .inr (16, fs_mm)), (upi, .inl (ct 5, PN, .inr (.inr (.inr (.inr g_upi))))), (upy, .inl (ct 1, PN, .inl g_upy)), (upn, .inl (ct 1, PN, .inl g_upn)), (q18_1, .inl (ct 5, n18_2, .inr (.inr (.inr (.inr f66_3))))), (q29_1, .inl (ct 1, n18_2, .inl (upd j46_cq29_1 j46_l7.toNatClampNeg z77_2))), (q39_1, .inl (ct 1, n18_2, .inl j46_cq39_1))] ++ (pl)) _ := hP
          have hD : va_D A ([(mm, .inr (16, fs_mm)), (upi, .inl (ct 5, PN, .inr (.inr (.inr (.inr g_upi))))), (upy, .inl (ct 1, PN, .inl g_upy)), (upn, .inl (ct 1, PN, .inl g_upn)), (q18_1, .inl (ct 5, n18_2, .inr (.inr (.inr (.inr f66_3))))), (q29_1, .inl (ct 1, n18_2, .inl (upd j46_cq29_1 j46_l7.toNatClampNeg z77_2))), (q39_1, .inl (ct 1, n18_2, .inl j46_cq39_1))] ++ (pl)) := hD
          obtain ⟨f78_2, ef78_2⟩ : ∃ z, z = (upd j46_cq29_1 j46_l7.toNatClampNeg z77_2) := ⟨_, rfl⟩
          rw [← ef78_2] at hP hD
          refine lv_aload hx hb dX16_push_79 (lv_at hl 6 rfl) ?_
          refine lv_iload hx hb dX16_push_81 (lv_at hl 7 rfl) ?_
          refine lv_aload_n hx hb dX16_push_83 rfl (lv_at hl 0 rfl) ?_
          refine va_get (D := D) (ci := 16) (v := .ref upn) (C := RX16) (T := TX16) (N := 78) hx hb (htX16 hn) (fun _ h => h) hown hK hP 0 rfl rfl 22 (by decide) (hn.get mw_1561 rfl) (fun _ h9 => h9) hf_mm_22 dX16_push_84 ?_
          refine lv_iload hx hb dX16_push_87 (lv_at hl 7 rfl) ?_
          have hi89_1 : vp_in j46_l7 PN := (in_of (show 0 ≤ j46_l7.toInt ∧ j46_l7.toInt < ((PN : Nat) : Int) by have q0 := r52_3.1; have q1 := FF.out hq2; have q2 := FF.out t52_2; omega))
          refine va_iald hx hb hK hP 3 1 rfl rfl hi89_1 dX16_push_89 ?_
          refine lv_topi (fun z89_2 ez89_2 => ?_)
          have hi90_1 : vp_in j46_l7 n18_2 := (in_of (show 0 ≤ j46_l7.toInt ∧ j46_l7.toInt < ((n18_2 : Nat) : Int) by have q0 := r52_3.1; have q1 := (eq_len ez8_1 (show (0 : Int) ≤ ((PN : Nat) : Int) ∧ ((PN : Nat) : Int) ≤ 80000 from ⟨Int.natCast_nonneg _, FF.out hq0⟩) (by decide)); have q2 := (eq_mull ez17_1 (show rg (2 : Int32) 2 2 from rg_l (by decide)) h_x_mm_23 (by decide)); have q3 := FF.out hq1; have q4 := FF.out t9_2; have q5 := FF.out en18_2; have q6 := FF.out t52_2; omega))
          refine va_iast hx hb hK hP hD hS 6 1 rfl rfl hi90_1 dX16_push_90 (fun H locs hP hD hS => ?_)
          have hP : va_P D vwCl ([(mm, .inr (16, fs_mm)), (upi, .inl (ct 5, PN, .inr (.inr (.inr (.inr g_upi))))), (upy, .inl (ct 1, PN, .inl g_upy)), (upn, .inl (ct 1, PN, .inl g_upn)), (q18_1, .inl (ct 5, n18_2, .inr (.inr (.inr (.inr f66_3))))), (q29_1, .inl (ct 1, n18_2, .inl f78_2)), (q39_1, .inl (ct 1, n18_2, .inl (upd j46_cq39_1 j46_l7.toNatClampNeg z89_2)))] ++ (pl)) _ := hP
          have hD : va_D A ([(mm, .inr (16, fs_mm)), (upi, .inl (ct 5, PN, .inr (.inr (.inr (.inr g_upi))))), (upy, .inl (ct 1, PN, .inl g_upy)), (upn, .inl (ct 1, PN, .inl g_upn)), (q18_1, .inl (ct 5, n18_2, .inr (.inr (.inr (.inr f66_3))))), (q29_1, .inl (ct 1, n18_2, .inl f78_2)), (q39_1, .inl (ct 1, n18_2, .inl (upd j46_cq39_1 j46_l7.toNatClampNeg z89_2)))] ++ (pl)) := hD
          obtain ⟨f90_2, ef90_2⟩ : ∃ z, z = (upd j46_cq39_1 j46_l7.toNatClampNeg z89_2) := ⟨_, rfl⟩
          rw [← ef90_2] at hP hD
          obtain ⟨x91_1, ex91_1⟩ : ∃ z : Int32, z = j46_l7 + 1 := ⟨_, rfl⟩
          have r91_2 : rg x91_1 1 39999 := rg_add ex91_1 r52_3 (show rg (1 : Int32) 1 1 from rg_l (by decide)) (by decide)
          refine lv_iinc (v := x91_1) (lv' := [(7, .int x91_1), (0, .ref mm), (1, .ref f), (2, .int v1), (3, .int v2), (4, .ref q18_1), (5, .ref q29_1), (6, .ref q39_1)]) hx hb dX16_push_91 hl (k := 7) rfl (by rw [ex91_1]; rfl) (by decide) rfl (fun ls hl => ?_)
          refine lv_goto (tgt := 46) hx hb dX16_push_94 (by decide) ?_
          exact ih46 x91_1 f66_3 f78_2 f90_2 H locs ls (rg_w r91_2 (by decide)) (AG.copy hg46_1002 ef66_3 ha65_1 (show 0 ≤ j46_l7.toInt by have q0 := r52_3.1; omega) (show x91_1.toInt = j46_l7.toInt + 1 by have q0 := (eq_add ex91_1 r52_3 (show rg (1 : Int32) 1 1 from rg_l (by decide)) (by decide)); have q1 := (show (1 : Int32).toInt = 1 from by decide); omega)) (IW.copy hg46_1003 ef78_2 ez77_2 (show 0 ≤ j46_l7.toInt by have q0 := r52_3.1; omega) (show x91_1.toInt = j46_l7.toInt + 1 by have q0 := (eq_add ex91_1 r52_3 (show rg (1 : Int32) 1 1 from rg_l (by decide)) (by decide)); have q1 := (show (1 : Int32).toInt = 1 from by decide); omega)) (IW.copy hg46_1004 ef90_2 ez89_2 (show 0 ≤ j46_l7.toInt by have q0 := r52_3.1; omega) (show x91_1.toInt = j46_l7.toInt + 1 by have q0 := (eq_add ex91_1 r52_3 (show rg (1 : Int32) 1 1 from rg_l (by decide)) (by decide)); have q1 := (show (1 : Int32).toInt = 1 from by decide); omega)) (show ((2147483647 : Int) - x91_1.toInt).toNat < n46 by have q0 := r52_3.2; have q1 := (eq_add ex91_1 r52_3 (show rg (1 : Int32) 1 1 from rg_l (by decide)) (by decide)); have q2 := (show (1 : Int32).toInt = 1 from by decide); have q3 := hms46; omega) (lv_sub hl [1, 2, 3, 4, 5, 6, 7, 0] rfl) hP hD hS
    exact b46 _ (0 : Int32) (fun _ => none) (fun _ => 0) (fun _ => 0) H locs ls (rg_w (show rg (0 : Int32) 0 0 from rg_l (by decide)) (by decide)) (AG.zero (by decide)) (IW.zero (by decide)) (IW.zero (by decide)) (Nat.lt_succ_self _) (lv_sub hl [4, 5, 6, 7, 3, 2, 1, 0] rfl) hP hD hS
