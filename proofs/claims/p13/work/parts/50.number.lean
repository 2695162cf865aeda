/-! a filter's own nodes in the heap -/
abbrev WV := @W
abbrev wv_widen := @W.widen
abbrev wv_eq := @W.eq
section FLS
variable {po X : va_W} {F : Nat → Int32} {L : List (Nat × (Int32 → va_E))}
theorem fl_mem {a : Nat} {e : Int32 → va_E} (h : (a, e) ∈ L) : (a, e (F a)) ∈ po ++ pl_of F L := List.mem_append_right _ (List.mem_map.mpr ⟨_, h, rfl⟩)
theorem fl_fix {l : ST} (h : FSUB (l.cells.map fixed) L) : SUB l.cells (po ++ pl_of F L) := fun c hc => by
  have h1 := h (fixed c) (List.mem_map.mpr ⟨c, hc, rfl⟩)
  exact fl_mem (po := po) (F := F) h1
theorem fl_set {A : Nat → Prop} {a k : Nat} {g : Int32 → va_E} {v : Int32} (hD : va_D A (X ++ (po ++ pl_of F L))) (h : (a, g) ∈ L) (hk : (X ++ (po ++ pl_of F L))[k]? = some (a, g (F a))) : (X ++ (po ++ pl_of F L)).set k (a, g v) = X ++ (po ++ pl_of (va_up F a v) L) := by
  rw [← List.append_assoc] at hD hk ⊢
  rw [pl_set hD h hk, List.append_assoc]
/-- some node of class 12 -/
def FND (L : List (Nat × (Int32 → va_E))) (q : Nat) : Prop := ∃ k a b l r sg, (q, fent k a b l r sg) ∈ L
theorem FT.memL {T : FT} (h : T.ok) (hs : FSUB T.shape L) : FND L T.root := by
  rcases FT.cases_ h with ⟨l, r, sg, h1, -⟩ | ⟨x, h1, -⟩ | ⟨x, y, h1, -⟩ | ⟨x, y, h1, -⟩ <;> exact ⟨_, _, _, _, _, _, hs _ h1⟩
theorem FND.mem {q : Nat} (h : FND L q) (po : va_W) (F : Nat → Int32) : ∃ fs, ((q, .inr (12, fs)) : Nat × va_E) ∈ po ++ pl_of F L := by
  obtain ⟨k, a, b, l, r, sg, h⟩ := h
  exact ⟨_, fl_mem h⟩
def EF (L : List (Nat × (Int32 → va_E))) (g : Nat → Option Nat) (n : Int) : Prop := ∀ k : Nat, (k : Int) < n → ∃ q, g k = some q ∧ FND L q
def TT (L : List (Nat × (Int32 → va_E))) (g : Nat → Option Nat) (n : Int) (s c : Nat) : Prop := ∃ ps pc : Nat → Nat, (ps 0 = 0 ∧ pc 0 = 0) ∧ (∀ k : Nat, (k : Int) = n → ps k = s ∧ pc k = c) ∧ ∀ k : Nat, (k : Int) < n → ∃ (q : Nat) (l r : ST) (sg : Int32), (ps k + (l.sz + r.sz + 1) ≤ ps (k + 1) ∧ pc k + (l.c4 + r.c4) ≤ pc (k + 1)) ∧ g k = some q ∧ (q, fent 0 .null .null (.ref l.root) (.ref r.root) sg) ∈ L ∧ l.ok ∧ r.ok ∧ FSUB (l.cells.map fixed) L ∧ FSUB (r.cells.map fixed) L ∧ ((l.dep : Nat) : Int) ≤ 83 ∧ ((r.dep : Nat) : Int) ≤ 83 ∧ ((l.sz : Nat) : Int) ≤ 38000 ∧ ((r.sz : Nat) : Int) ≤ 38000
variable {g g2 : Nat → Option Nat} {n n2 : Int}
theorem EF.zero (h : n ≤ 0) : EF L g n := fun k hk => by omega
theorem TT.zero (h : n = 0) : TT L g n 0 0 := ⟨fun _ => 0, fun _ => 0, ⟨rfl, rfl⟩, fun _ _ => ⟨rfl, rfl⟩, fun k hk => by omega⟩
theorem EF.mono (h : EF L g n) (hm : n2 ≤ n) : EF L g n2 := fun k hk => h k (by omega)
theorem EF.el (h : EF L g n) : EL 12 g n (po ++ pl_of F L) := fun k hk => by
  obtain ⟨q, h1, h2⟩ := h k hk
  obtain ⟨fs, h3⟩ := h2.mem po F
  exact ⟨q, fs, h1, h3⟩
theorem TT.el {s c : Nat} (h : TT L g n s c) : EL 12 g n (po ++ pl_of F L) := fun k hk => by
  obtain ⟨ps, pc, -, -, h⟩ := h
  obtain ⟨q, l, r, sg, -, h1, h2, -⟩ := h k hk
  exact ⟨q, _, h1, fl_mem h2⟩
theorem EF.push {q : Nat} (h : EF L g n) (ha : AP g g2 n q) (hq : FND L q) (hn : n2 = n + 1) : EF L g2 n2 := fun k hk => by
  by_cases hk2 : (k : Int) < n
  · rw [ha.1 k hk2]; exact h k hk2
  · exact ⟨q, ha.2 k (by omega), hq⟩
theorem TT.push {T : FT} {l r : ST} {sg : Int32} {s c : Nat} (h : TT L g n s c) (h0 : 0 ≤ n) (ha : AP g g2 n T.root) (ht : T.isT l r sg) (hs : FSUB T.shape L) (hd : ((T.dep : Nat) : Int) ≤ 83) (hz : ((T.sz : Nat) : Int) ≤ 38000) (hn : n2 = n + 1) : TT L g2 n2 (s + T.sz) (c + T.c4) := by
  obtain ⟨ps, pc, ⟨p0, p1⟩, pe, h⟩ := h
  obtain ⟨m, rfl⟩ : ∃ m : Nat, n = m := ⟨n.toNat, by omega⟩
  obtain ⟨e1, e2⟩ := pe m rfl
  refine ⟨fun k => if k = m + 1 then s + T.sz else ps k, fun k => if k = m + 1 then c + T.c4 else pc k, ⟨?_, ?_⟩, fun k hk => ?_, fun k hk => ?_⟩
  · show (if 0 = m + 1 then _ else ps 0) = 0
    rw [if_neg (by omega)]; exact p0
  · show (if 0 = m + 1 then _ else pc 0) = 0
    rw [if_neg (by omega)]; exact p1
  · have : k = m + 1 := by omega
    subst this
    exact ⟨if_pos rfl, if_pos rfl⟩
  · by_cases hk2 : (k : Int) < m
    · obtain ⟨q, l1, r1, sg1, hq, h5⟩ := h k hk2
      rw [ha.1 k hk2]
      refine ⟨q, l1, r1, sg1, ?_, h5⟩
      show (if k = m + 1 then _ else ps k) + _ ≤ (if k + 1 = m + 1 then _ else ps (k + 1)) ∧ (if k = m + 1 then _ else pc k) + _ ≤ (if k + 1 = m + 1 then _ else pc (k + 1))
      rw [if_neg (by omega), if_neg (by omega), if_neg (by omega), if_neg (by omega)]
      exact hq
    · have hkm : k = m := by omega
      subst hkm
      obtain ⟨h1, h2, h3, -, -, h6, h7, h8, h9, h10, h11⟩ := ht
      refine ⟨_, l, r, sg, ?_, ha.2 k rfl, hs _ h1, h2, h3, h6.tr hs, h7.tr hs, by omega, by omega, by omega, by omega⟩
      show (if k = k + 1 then _ else ps k) + _ ≤ (if k + 1 = k + 1 then _ else ps (k + 1)) ∧ (if k = k + 1 then _ else pc k) + _ ≤ (if k + 1 = k + 1 then _ else pc (k + 1))
      rw [if_neg (by omega), if_pos rfl, if_neg (by omega), if_pos rfl, e1, e2]
      omega
/-- tests of a pool, by what is to be made ahead of each -/
def MTW (pl : va_W) (gt : Nat → Option Nat) (n : Int) (ps pc : Nat → Nat) : Prop := ∀ k : Nat, (k : Int) < n → ∃ q l r sg z, gt k = some q ∧ TSm pl q l r sg z ∧ ps k + (l.sz + r.sz + 1) ≤ ps (k + 1) ∧ pc k + (l.c4 + r.c4) ≤ pc (k + 1)
theorem TT.ts {s c : Nat} (h : TT L g n s c) (po : va_W) (F : Nat → Int32) : ∃ ps pc : Nat → Nat, (ps 0 = 0 ∧ pc 0 = 0) ∧ (∀ k : Nat, (k : Int) = n → ps k = s ∧ pc k = c) ∧ MTW (po ++ pl_of F L) g n ps pc := by
  obtain ⟨ps, pc, h0, he, h⟩ := h
  refine ⟨ps, pc, h0, he, fun k hk => ?_⟩
  obtain ⟨q, l, r, sg, hq, h1, h2, h3, h4, h5, h6, h7, h8, h9, h10⟩ := h k hk
  exact ⟨q, l, r, sg, F q, h1, ⟨fl_mem h2, h3, h4, fl_fix h5, fl_fix h6, h7, h8, h9, h10⟩, hq⟩
theorem nodup_fa {A : Nat → Prop} {W : FT} (hD : va_D A (X ++ (po ++ pl_of F W.shape))) : W.fa.Nodup := by
  have h1 := (va_D_iff.mp hD).1
  rw [List.map_append, List.map_append] at h1
  have h2 := (List.nodup_append.mp (List.nodup_append.mp h1).2.1).2.1
  have h3 : (pl_of F W.shape).map (·.1) = W.shape.map (·.1) := by
    simp only [pl_of, List.map_map]
    exact List.map_congr_left (fun _ _ => rfl)
  rw [h3] at h2
  exact List.Nodup.sublist (List.Sublist.map _ List.filter_sublist) h2
end FLS
/-- wiring: what lies on the pile covers the tests from the first one on; what is behind them is wired -/
def WF (e v N : Int) : Prop := (v < 0 ∧ -2 ≤ v) ∨ (e ≤ v ∧ v < N)
def DN (ys ns : Nat → Int32) (e N : Int) : Prop := ∀ i : Nat, e ≤ (i : Int) → (i : Int) < N → FW i (ys i).toInt N ∧ FW i (ns i).toInt N
def WPr (gp : Nat → Option Nat) (py pn : Nat → Int32) : Nat → List (FT × Int × Int) → Prop
  | n, [] => n = 0
  | n, t :: R => ∃ m, n = m + 1 ∧ gp m = some t.1.root ∧ (py m).toInt = t.2.1 ∧ (pn m).toInt = t.2.2 ∧ WPr gp py pn m R
theorem WPr.agree {gp gp2 : Nat → Option Nat} {py pn py2 pn2 : Nat → Int32} : ∀ {R : List (FT × Int × Int)} {n : Nat}, (∀ k, k < n → gp2 k = gp k ∧ py2 k = py k ∧ pn2 k = pn k) → WPr gp py pn n R → WPr gp2 py2 pn2 n R
  | [], _, _, h => h
  | t :: R, n, ha, ⟨m, e, h1, h2, h3, h4⟩ => ⟨m, e, (ha m (by omega)).1.trans h1, by rw [(ha m (by omega)).2.1]; exact h2, by rw [(ha m (by omega)).2.2]; exact h3, WPr.agree (fun k hk => ha k (by omega)) h4⟩
def NBW (F : Nat → Int32) (N : Int) : List (FT × Int × Int) → Int → Prop
  | [], e => e = 0
  | t :: R, e => ∃ k, NB F t.1 k ∧ k + ((t.1.tests : Nat) : Int) = e ∧ WF e t.2.1 N ∧ WF e t.2.2 N ∧ NBW F N R k
def faW : List (FT × Int × Int) → Nat
  | [] => 0
  | t :: R => t.1.fa.length + faW R
def WIR (W : FT) (F : Nat → Int32) (gp : Nat → Option Nat) (py pn : Nat → Int32) (n : Int) (ys ns : Nat → Int32) (N : Int) (mu : Nat) : Prop := ∃ R e, (∃ m : Nat, n = m ∧ WPr gp py pn m R) ∧ (∀ t ∈ R, t.1.ok ∧ FSUB t.1.shape W.shape) ∧ NBW F N R e ∧ e ≤ N ∧ DN ys ns e N ∧ mu = faW R
def WIP (W : FT) (F : Nat → Int32) (gp : Nat → Option Nat) (py pn : Nat → Int32) (n : Int) (ys ns : Nat → Int32) (N : Int) (mu : Nat) (t : FT) (so no k e : Int) : Prop := ∃ R, (∃ m : Nat, n = m ∧ WPr gp py pn m R) ∧ (∀ t ∈ R, t.1.ok ∧ FSUB t.1.shape W.shape) ∧ NBW F N R k ∧ (t.ok ∧ FSUB t.shape W.shape) ∧ NB F t k ∧ k + ((t.tests : Nat) : Int) = e ∧ WF e so N ∧ WF e no N ∧ e ≤ N ∧ DN ys ns e N ∧ mu = t.fa.length + faW R
section WIRS
variable {W t x y : FT} {F : Nat → Int32} {gp gp1 gp2 : Nat → Option Nat} {py pn py1 pn1 py2 pn2 ys ns ys2 ns2 : Nat → Int32} {n n1 n2 N so no k e s1 s2 : Int} {mu : Nat}
theorem NBW.nn : ∀ {R : List (FT × Int × Int)} {e : Int}, NBW F N R e → 0 ≤ e
  | [], e, h => by have : e = 0 := h; omega
  | t :: R, e, ⟨k, _, h2, _, _, h5⟩ => by have := NBW.nn h5; omega
theorem WIR.start (hW : W.ok) (hb : NB F W 0) (hN : N = ((W.tests : Nat) : Int)) (ha : AP gp gp1 0 W.root) (h1 : IP py py1 0 (-1)) (h2 : IP pn pn1 0 (-2)) : WIR W F gp1 py1 pn1 1 ys ns N W.fa.length := by
  refine ⟨[(W, -1, -2)], N, ⟨1, rfl, 0, rfl, ha.2 0 rfl, h1.2 0 rfl, h2.2 0 rfl, rfl⟩, fun s hs => ?_, ⟨0, hb, by show (0 : Int) + ((W.tests : Nat) : Int) = N; omega, Or.inl ⟨by show (-1 : Int) < 0; omega, by show (-2 : Int) ≤ -1; omega⟩, Or.inl ⟨by show (-2 : Int) < 0; omega, by show (-2 : Int) ≤ -2; omega⟩, rfl⟩, by omega, fun i h3 h4 => by omega, rfl⟩
  rw [List.mem_singleton.mp hs]
  exact ⟨hW, FSUB.rf⟩
theorem WIR.pop {i : Int32} (h : WIR W F gp py pn n ys ns N mu) (hi : i.toInt + 1 = n) (h0 : 0 < n) : ∃ t k e, gp i.toNatClampNeg = some t.root ∧ WIP W F gp py pn i.toInt ys ns N mu t (py i.toNatClampNeg).toInt (pn i.toNatClampNeg).toInt k e := by
  obtain ⟨R, e, ⟨m, em, hp⟩, ho, hb, he, hd, hm⟩ := h
  cases R with
  | nil => have : m = 0 := hp; omega
  | cons t R =>
    obtain ⟨m', e', h1, h2, h3, h4⟩ := hp
    obtain ⟨k, b1, b2, b3, b4, b5⟩ := hb
    have h5 := ncn_nat (i := i) (by omega)
    have h6 : i.toNatClampNeg = m' := by omega
    rw [h6]
    exact ⟨t.1, k, e, h1, R, ⟨m', by omega, h4⟩, fun s hs => ho s (List.mem_cons_of_mem _ hs), b5, ho t List.mem_cons_self, b1, b2, by rw [h2]; exact b3, by rw [h3]; exact b4, he, hd, hm⟩
theorem WIP.test {l r : ST} {sg : Int32} {i a b : Int32} (h : WIP W F gp py pn n ys ns N mu t so no k e) (ht : t.isT l r sg) (e1 : ys2 = upd ys i.toNatClampNeg a) (e2 : ns2 = upd ns i.toNatClampNeg b) (hi : i.toInt = k) (ha : a.toInt = so) (hb2 : b.toInt = no) : ∃ mu2, mu2 < mu ∧ WIR W F gp py pn n ys2 ns2 N mu2 := by
  obtain ⟨R, hp, ho, hb, hot, hnb, hk, w1, w2, he, hd, hm⟩ := h
  have hk0 := NBW.nn hb
  obtain ⟨-, -, -, q1, q2, -⟩ := ht
  rw [q1] at hk
  rw [q2] at hm
  have h5 := ncn_nat (i := i) (by omega)
  refine ⟨faW R, by rw [hm]; simp, R, k, hp, ho, hb, by omega, fun j h1 h2 => ?_, rfl⟩
  subst e1; subst e2
  unfold upd
  by_cases hj : j = i.toNatClampNeg
  · rw [if_pos hj, if_pos hj, ha, hb2]
    unfold WF at w1 w2
    unfold FW
    constructor <;> omega
  · rw [if_neg hj, if_neg hj]; exact hd j (by omega) h2
theorem WIP.inv (h : WIP W F gp py pn n ys ns N mu t so no k e) (ht : t.isN x) (hb : NB F x k) (ha : AP gp gp1 n x.root) (h1 : IP py py1 n s1) (h2 : IP pn pn1 n s2) (q1 : s1 = no) (q2 : s2 = so) (hn : n1 = n + 1) : ∃ mu2, mu2 < mu ∧ WIR W F gp1 py1 pn1 n1 ys ns N mu2 := by
  obtain ⟨R, ⟨m, em, hp⟩, ho, hbw, hot, hnb, hk, w1, w2, he, hd, hm⟩ := h
  obtain ⟨-, hx, e1, e2, hs, -⟩ := ht
  rw [e2] at hm
  subst q1; subst q2
  refine ⟨x.fa.length + faW R, by rw [hm]; simp only [List.length_append, List.length_singleton]; omega, (x, s1, s2) :: R, e, ⟨m + 1, by omega, m, rfl, ha.2 m em.symm, h1.2 m em.symm, h2.2 m em.symm, WPr.agree (fun j hj => ⟨ha.1 j (by omega), h1.1 j (by omega), h2.1 j (by omega)⟩) hp⟩, fun s hs2 => ?_, ⟨k, hb, by rw [← e1]; exact hk, w2, w1, hbw⟩, he, hd, rfl⟩
  rcases List.mem_cons.mp hs2 with rfl | hs2
  · exact ⟨hx, hs.tr hot.2⟩
  · exact ho s hs2
theorem WIP.bin {sa sb na nb : Int} (h : WIP W F gp py pn n ys ns N mu t so no k e) (ht : t.isB 1 x y ∨ t.isB 2 x y) (hb : NB F x k) (hb2 : NB F y (k + ((x.tests : Nat) : Int))) (ha : AP gp gp1 n x.root) (h1 : IP py py1 n sa) (h2 : IP pn pn1 n na) (hn : n1 = n + 1) (ha2 : AP gp1 gp2 n1 y.root) (h3 : IP py1 py2 n1 sb) (h4 : IP pn1 pn2 n1 nb) (hn2 : n2 = n + 2) (q1 : sb = so) (q2 : nb = no) (q3 : sa = so ∨ sa = (F y.root).toInt) (q4 : na = no ∨ na = (F y.root).toInt) : ∃ mu2, mu2 < mu ∧ WIR W F gp2 py2 pn2 n2 ys ns N mu2 := by
  obtain ⟨R, ⟨m, em, hp⟩, ho, hbw, hot, hnb, hk, w1, w2, he, hd, hm⟩ := h
  have hB : ∃ j, t.isB j x y := by
    rcases ht with h9 | h9
    · exact ⟨_, h9⟩
    · exact ⟨_, h9⟩
  obtain ⟨j, -, hx, hy, e1, e2, hs1, hs2, -⟩ := hB
  rw [e2] at hm
  rw [e1] at hk
  have hf := hb2.first
  have hty := (FT.tests3 hy).2
  have wa : ∀ v : Int, v = so ∨ v = no ∨ v = (F y.root).toInt → WF (k + ((x.tests : Nat) : Int)) v N := fun v hv => by
    unfold WF at w1 w2 ⊢
    rcases hv with hv | hv | hv <;> omega
  refine ⟨y.fa.length + (x.fa.length + faW R), by rw [hm]; simp; omega, (y, sb, nb) :: (x, sa, na) :: R, e, ⟨m + 2, by omega, m + 1, rfl, ha2.2 (m + 1) (by omega), h3.2 (m + 1) (by omega), h4.2 (m + 1) (by omega), m, rfl, (ha2.1 m (by omega)).trans (ha.2 m em.symm), by rw [h3.1 m (by omega)]; exact h1.2 m em.symm, by rw [h4.1 m (by omega)]; exact h2.2 m em.symm, WPr.agree (fun j hj => ⟨(ha2.1 j (by omega)).trans (ha.1 j (by omega)), (h3.1 j (by omega)).trans (h1.1 j (by omega)), (h4.1 j (by omega)).trans (h2.1 j (by omega))⟩) hp⟩, fun s hs3 => ?_, ⟨k + ((x.tests : Nat) : Int), hb2, by show _ + ((y.tests : Nat) : Int) = e; omega, by rw [q1]; exact w1, by rw [q2]; exact w2, k, hb, rfl, wa sa (by rcases q3 with h9 | h9; exact Or.inl h9; exact Or.inr (Or.inr h9)), wa na (by rcases q4 with h9 | h9; exact Or.inr (Or.inl h9); exact Or.inr (Or.inr h9)), hbw⟩, he, hd, rfl⟩
  rcases List.mem_cons.mp hs3 with rfl | hs3
  · exact ⟨hy, hs2.tr hot.2⟩
  · rcases List.mem_cons.mp hs3 with rfl | hs3
    · exact ⟨hx, hs1.tr hot.2⟩
    · exact ho s hs3
theorem WIR.end_ (h : WIR W F gp py pn n ys ns N mu) (h0 : n ≤ 0) : DN ys ns 0 N := by
  obtain ⟨R, e, ⟨m, em, hp⟩, ho, hb, he, hd, hm⟩ := h
  cases R with
  | nil => have : e = 0 := hb; subst this; exact hd
  | cons t R => obtain ⟨m', e', -⟩ := hp; omega
theorem WIP.facts (h : WIP W F gp py pn n ys ns N mu t so no k e) : t.ok ∧ FSUB t.shape W.shape ∧ NB F t k ∧ 0 ≤ k ∧ k < N := by
  obtain ⟨R, -, -, hb, hot, hnb, hk, -, -, he, -⟩ := h
  have := NBW.nn hb
  have := (FT.tests3 hot.1).2
  exact ⟨hot.1, hot.2, hnb, by omega, by omega⟩
end WIRS
theorem MT.of {pl : va_W} {gt : Nat → Option Nat} {ys ns : Nat → Int32} {n : Int} {ps pc : Nat → Nat} (h : MTW pl gt n ps pc) (hd : DN ys ns 0 n) : MT pl gt ys ns n := fun i hi => by
  obtain ⟨q, l, r, sg, z, h1, h2, -⟩ := h i hi
  exact ⟨⟨q, l, r, sg, z, h1, h2⟩, hd i (by omega) hi⟩
theorem MT.more {pl pl2 : va_W} {gt : Nat → Option Nat} {ys ns : Nat → Int32} {n : Int} (h : MT pl gt ys ns n) (hs : SUB pl pl2) : MT pl2 gt ys ns n := fun i hi => by
  obtain ⟨⟨q, l, r, sg, z, h1, h2, h3, h4, h5, h6, h7⟩, h8⟩ := h i hi
  exact ⟨⟨q, l, r, sg, z, h1, hs _ h2, h3, h4, h5.tr hs, h6.tr hs, h7⟩, h8⟩
theorem FT.fa_len : ∀ {n : Nat} {T : FT}, FT.by_ n T → 1 ≤ T.fa.length ∧ T.fa.length ≤ T.sz
  | 0, _, h => h.elim
  | n + 1, T, h => by
    rcases h with ⟨a, l, r, sg, hl, hr, rfl⟩ | ⟨a, x, hx, rfl⟩ | ⟨a, o, x, y, hx, hy, rfl⟩ | ⟨a, b, c, s, l, r, hs, hl, hr, rfl⟩
    · rw [fa_test hl hr, sz_test]; simp
    · have h1 := FT.fa_len hx
      rw [fa_inv, sz_inv, List.length_append]; simp only [List.length_singleton]; omega
    · have h1 := FT.fa_len hx; have h2 := FT.fa_len hy
      rw [fa_two, sz_two, List.length_append, List.length_append]; simp only [List.length_singleton]; omega
    · rw [fa_pair hs hl hr, sz_pair]; simp only [List.length_append, List.length_singleton]; omega
theorem FT.fa_le {T : FT} (h : T.ok) : 1 ≤ T.fa.length ∧ ((T.fa.length : Nat) : Int) ≤ ((T.sz : Nat) : Int) := by
  obtain ⟨n, h⟩ := h
  have := FT.fa_len h
  omega
theorem PLr.len {g : Nat → Option Nat} : ∀ {R : List FT} {n : Nat}, (∀ t ∈ R, t.ok) → PLr g n R → n ≤ (faL R).length
  | [], _, _, h => by have := h; show _ ≤ 0; exact Nat.le_of_eq h
  | t :: R, n, ho, ⟨m, e, _, h2⟩ => by
    have h3 := PLr.len (fun s hs => ho s (List.mem_cons_of_mem _ hs)) h2
    have h4 := (FT.fa_le (ho t List.mem_cons_self)).1
    show n ≤ (t.fa ++ faL R).length
    rw [List.length_append]; omega
theorem NUM.le {W : FT} {F : Nat → Int32} {gp : Nat → Option Nat} {n k : Int} {mu s c : Nat} (h : NUM W F gp n k mu s c) : n ≤ ((mu : Nat) : Int) ∧ k ≤ ((W.tests : Nat) : Int) := by
  obtain ⟨R, -, ⟨m, e, hp⟩, ho, -, hk, hm, -⟩ := h
  have := PLr.len (fun t ht => (ho t ht).1) hp
  omega
theorem NUMP.facts {W t : FT} {F : Nat → Int32} {gp : Nat → Option Nat} {n k : Int} {mu s c : Nat} (h : NUMP W F gp n k mu s c t) : t.ok ∧ FSUB t.shape W.shape ∧ t.dep ≤ W.dep ∧ t.sz ≤ W.sz ∧ k + 1 ≤ ((W.tests : Nat) : Int) ∧ s + t.sz ≤ W.sz ∧ c + t.c4 ≤ W.c4 := by
  obtain ⟨R, hsc, -, -, ho, -, hk, -⟩ := h
  have := (FT.tests3 ho.1).2
  exact ⟨ho.1, ho.2.1, ho.2.2.1, ho.2.2.2, by omega, by omega, by omega⟩
theorem WPr.len {gp : Nat → Option Nat} {py pn : Nat → Int32} : ∀ {R : List (FT × Int × Int)} {n : Nat}, (∀ t ∈ R, t.1.ok) → WPr gp py pn n R → n ≤ faW R
  | [], _, _, h => by show _ ≤ 0; exact Nat.le_of_eq h
  | t :: R, n, ho, ⟨m, e, _, _, _, h2⟩ => by
    have h3 := WPr.len (fun s hs => ho s (List.mem_cons_of_mem _ hs)) h2
    have h4 := (FT.fa_le (ho t List.mem_cons_self)).1
    show n ≤ t.1.fa.length + faW R
    omega
theorem WIR.le {W : FT} {F : Nat → Int32} {gp : Nat → Option Nat} {py pn ys ns : Nat → Int32} {n N : Int} {mu : Nat} (h : WIR W F gp py pn n ys ns N mu) : n ≤ ((mu : Nat) : Int) := by
  obtain ⟨R, e, ⟨m, em, hp⟩, ho, -, -, -, hm⟩ := h
  have := WPr.len (fun t ht => (ho t ht).1) hp
  omega
theorem AP.z {g g2 : Nat → Option Nat} {n : Int} {q : Nat} (h : AP g g2 n q) (h0 : n = 0) : AP g g2 0 q := h0 ▸ h
theorem IP.z {g g2 : Nat → Int32} {n v m : Int} (h : IP g g2 n v) (h0 : n = 0) (hv : v = m) : IP g g2 0 m := by
  subst h0; subst hv; exact h
theorem AP.to {g g2 : Nat → Option Nat} {n m : Int} {q : Nat} (h : AP g g2 n q) (h0 : n = m) : AP g g2 m q := h0 ▸ h
theorem IP.to {g g2 : Nat → Int32} {n v m : Int} (h : IP g g2 n v) (h0 : n = m) : IP g g2 m v := h0 ▸ h
theorem NUM.to {W : FT} {F : Nat → Int32} {gp : Nat → Option Nat} {n k n2 k2 : Int} {mu s c : Nat} (h : NUM W F gp n k mu s c) (h1 : n = n2) (h2 : k = k2) : NUM W F gp n2 k2 mu s c := by
  subst h1; subst h2; exact h
theorem WIR.to {W : FT} {F : Nat → Int32} {gp : Nat → Option Nat} {py pn ys ns : Nat → Int32} {n n2 N : Int} {mu : Nat} (h : WIR W F gp py pn n ys ns N mu) (h1 : n = n2) : WIR W F gp py pn n2 ys ns N mu := h1 ▸ h
def TTE (L : List (Nat × (Int32 → va_E))) (g : Nat → Option Nat) (n : Int) (s c : Nat) : Prop := ∃ s1 c1, s1 ≤ s ∧ c1 ≤ c ∧ TT L g n s1 c1
theorem TTE.of {L : List (Nat × (Int32 → va_E))} {g : Nat → Option Nat} {n : Int} {s c s1 c1 : Nat} (h : TT L g n s1 c1) (h2 : s1 ≤ s ∧ c1 ≤ c) : TTE L g n s c := ⟨s1, c1, h2.1, h2.2, h⟩
theorem NUM.sc {W : FT} {F : Nat → Int32} {gp : Nat → Option Nat} {n k : Int} {mu s c : Nat} (h : NUM W F gp n k mu s c) : s ≤ W.sz ∧ c ≤ W.c4 := by
  obtain ⟨R, hsc, -⟩ := h
  omega
set_option maxHeartbeats 2000000 in
theorem c_X16_number_ (l : Launch) (hst : l.stackTraces = false) (D : va_G) (ct : Nat → ClassId) (MC : Nat) (MS : Nat) (po : va_W) (W : FT) (F : Nat → Int32) (mm : Nat) (fs_mm : List Value) (ute : Nat) (x_mm_15 : Int32) (upi : Nat) (upy : Nat) (upn : Nat) (x_mm_23 : Int32) (g_ute : Nat → Option Nat) (TN : Nat) (g_upi : Nat → Option Nat) (PN : Nat) (g_upy : Nat → Int32) (g_upn : Nat → Int32) (ok_W : W.ok) (hlen_mm : fs_mm.length = 78) (hf_mm_14 : fs_mm[14]? = some (.ref ute)) (h_x_mm_15 : rg x_mm_15 0 34000) (hf_mm_15 : fs_mm[15]? = some (.int x_mm_15)) (hf_mm_20 : fs_mm[20]? = some (.ref upi)) (hf_mm_21 : fs_mm[21]? = some (.ref upy)) (hf_mm_22 : fs_mm[22]? = some (.ref upn)) (h_x_mm_23 : rg x_mm_23 0 40000) (hf_mm_23 : fs_mm[23]? = some (.int x_mm_23)) (hq0 : ((W.sz : Nat) : Int) ≤ 38000) (hq1 : ((W.dep : Nat) : Int) ≤ 83) (hq2 : ((TN : Nat) : Int) ≤ 70000) (hq3 : 16 ≤ ((TN : Nat) : Int)) (hq4 : ((PN : Nat) : Int) ≤ 80000) (hq5 : 64 ≤ ((PN : Nat) : Int)) (hq6 : 620010 ≤ ((MS : Nat) : Int) + 2 * ((TN : Nat) : Int) + 6 * ((PN : Nat) : Int)) (hq7 : 521000 ≤ 64 * ((MC : Nat) : Int) + 3 * ((PN : Nat) : Int) + 4 * ((TN : Nat) : Int)) : KP (V := Unit) (S := List Value × Nat × Int32 × Nat × Nat × Nat × Int32 × (Nat → Option Nat) × Nat × (Nat → Option Nat) × Nat × (Nat → Int32) × (Nat → Int32) × (Nat → Int32) × Nat × Nat) (SX := Unit) l yX16_number_ cX16_number_ 3 none 2 47 D ct [.ref mm, .ref W.root] ([(mm, .inr (16, fs_mm)), (ute, .inl (ct 5, TN, .inr (.inr (.inr (.inr g_ute))))), (upi, .inl (ct 5, PN, .inr (.inr (.inr (.inr g_upi))))), (upy, .inl (ct 1, PN, .inl g_upy)), (upn, .inl (ct 1, PN, .inl g_upn))] ++ (po ++ pl_of F W.shape)) MC MS (fun _ : Unit => none) (fun (_ : Unit) (u : List Value × Nat × Int32 × Nat × Nat × Nat × Int32 × (Nat → Option Nat) × Nat × (Nat → Option Nat) × Nat × (Nat → Int32) × (Nat → Int32) × (Nat → Int32) × Nat × Nat) => match u with | (fs2_mm, a_mm_14, y_mm_15, a_mm_20, a_mm_21, a_mm_22, y_mm_23, k_ute, TN2, k_upi, PN2, k_upy, k_upn, F2, kc, kn) => SB fs_mm fs2_mm [14, 15, 20, 21, 22, 23] ∧ fs2_mm[14]? = some (.ref a_mm_14) ∧ rg y_mm_15 0 34000 ∧ fs2_mm[15]? = some (.int y_mm_15) ∧ fs2_mm[20]? = some (.ref a_mm_20) ∧ fs2_mm[21]? = some (.ref a_mm_21) ∧ fs2_mm[22]? = some (.ref a_mm_22) ∧ rg y_mm_23 0 0 ∧ fs2_mm[23]? = some (.int y_mm_23) ∧ (y_mm_15.toInt = ((W.tests : Nat) : Int)) ∧ (y_mm_15.toInt ≤ ((TN2 : Nat) : Int)) ∧ (((TN : Nat) : Int) ≤ ((TN2 : Nat) : Int)) ∧ (((TN2 : Nat) : Int) ≤ 70000) ∧ (((TN2 : Nat) : Int) = ((TN : Nat) : Int) ∨ ((TN2 : Nat) : Int) ≤ 2 * y_mm_15.toInt) ∧ (((PN : Nat) : Int) ≤ ((PN2 : Nat) : Int)) ∧ (((PN2 : Nat) : Int) ≤ 80000) ∧ (64 * ((kc : Nat) : Int) + 4 * ((TN : Nat) : Int) + 3 * ((PN : Nat) : Int) ≤ 4 * ((TN2 : Nat) : Int) + 3 * ((PN2 : Nat) : Int)) ∧ (((kn : Nat) : Int) = 2 * (((TN2 : Nat) : Int) - ((TN : Nat) : Int)) + 6 * (((PN2 : Nat) : Int) - ((PN : Nat) : Int))) ∧ (NB F2 W 0) ∧ (TTE W.shape k_ute y_mm_15.toInt W.sz W.c4)) (fun (u : List Value × Nat × Int32 × Nat × Nat × Nat × Int32 × (Nat → Option Nat) × Nat × (Nat → Option Nat) × Nat × (Nat → Int32) × (Nat → Int32) × (Nat → Int32) × Nat × Nat) => (match u with | (fs2_mm, a_mm_14, y_mm_15, a_mm_20, a_mm_21, a_mm_22, y_mm_23, k_ute, TN2, k_upi, PN2, k_upy, k_upn, F2, kc, kn) => [(mm, .inr (16, fs2_mm)), (a_mm_14, .inl (ct 5, TN2, .inr (.inr (.inr (.inr k_ute))))), (a_mm_20, .inl (ct 5, PN2, .inr (.inr (.inr (.inr k_upi))))), (a_mm_21, .inl (ct 1, PN2, .inl k_upy)), (a_mm_22, .inl (ct 1, PN2, .inl k_upn))]) ++ (match u with | (fs2_mm, a_mm_14, y_mm_15, a_mm_20, a_mm_21, a_mm_22, y_mm_23, k_ute, TN2, k_upi, PN2, k_upy, k_upn, F2, kc, kn) => (po ++ pl_of F2 W.shape))) (fun (u : List Value × Nat × Int32 × Nat × Nat × Nat × Int32 × (Nat → Option Nat) × Nat × (Nat → Option Nat) × Nat × (Nat → Int32) × (Nat → Int32) × (Nat → Int32) × Nat × Nat) => match u with | (fs2_mm, a_mm_14, y_mm_15, a_mm_20, a_mm_21, a_mm_22, y_mm_23, k_ute, TN2, k_upi, PN2, k_upy, k_upn, F2, kc, kn) => kc) (fun (u : List Value × Nat × Int32 × Nat × Nat × Nat × Int32 × (Nat → Option Nat) × Nat × (Nat → Option Nat) × Nat × (Nat → Int32) × (Nat → Int32) × (Nat → Int32) × Nat × Nat) => match u with | (fs2_mm, a_mm_14, y_mm_15, a_mm_20, a_mm_21, a_mm_22, y_mm_23, k_ute, TN2, k_upi, PN2, k_upy, k_upn, F2, kc, kn) => kn) 15 RX15 peW (fun _ => False) (fun _ => ([] : va_W) ++ ((po ++ pl_of F W.shape))) (fun _ => 0) (fun _ => 0) := by
  refine KP_of (by decide) (Nat.le_of_ble_eq_true rfl) (fun p e s m below meth c A Q C0 htab hA H locs hS hP hD hQ ls hl => ?_)
  obtain ⟨hx, hb, hr, hown, hin, hml, hlocks, hn, hK, hZ, hSK⟩ := C0
  have hl : lv_has ls 3 [(0, .ref mm), (1, .ref W.root)] := hl
  replace hq0 := FF.mk hq0
  replace hq1 := FF.mk hq1
  replace hq2 := FF.mk hq2
  replace hq3 := FF.mk hq3
  replace hq4 := FF.mk hq4
  replace hq5 := FF.mk hq5
  replace hq6 := FF.mk hq6
  replace hq7 := FF.mk hq7
  obtain ⟨fsW, hmW⟩ := FND.mem (FT.memL ok_W FSUB.rf) po F
  have hfl := FF.mk (FT.fa_le ok_W).2
  have ht3 := FF.mk (FT.tests3 ok_W)
  have hnd := nodup_fa hD
  refine lv_aload_n hx hb dX16_number__0 rfl (lv_at hl 0 rfl) ?_
  refine lv_iconst (v := 0) hx hb dX16_number__1 (by decide) ?_
  refine va_put (D := D) (ci := 16) (v := .int 0) (ty := .int) (C := RX16) (T := TX16) (N := 78) hx hb (htX16 hn) (fun _ h => h) tyX16 tyX16_ok nmX16 hown hK hP hD hS 0 rfl rfl 15 (by decide) (hn.get mw_1554 rfl) (fun _ h9 => h9) rfl (by decide +kernel) rfl rfl (by rw [hlen_mm]; decide) dX16_number__2 (fun H locs hP hD hS => ?_)
  have hP : va_P D vwCl ([(mm, .inr (16, (fs_mm.set 15 (.int 0)))), (ute, .inl (ct 5, TN, .inr (.inr (.inr (.inr g_ute))))), (upi, .inl (ct 5, PN, .inr (.inr (.inr (.inr g_upi))))), (upy, .inl (ct 1, PN, .inl g_upy)), (upn, .inl (ct 1, PN, .inl g_upn))] ++ ((po ++ pl_of F W.shape))) _ := hP
  have hD : va_D A ([(mm, .inr (16, (fs_mm.set 15 (.int 0)))), (ute, .inl (ct 5, TN, .inr (.inr (.inr (.inr g_ute))))), (upi, .inl (ct 5, PN, .inr (.inr (.inr (.inr g_upi))))), (upy, .inl (ct 1, PN, .inl g_upy)), (upn, .inl (ct 1, PN, .inl g_upn))] ++ ((po ++ pl_of F W.shape))) := hD
  obtain ⟨m2_1, em2_1⟩ : ∃ z, z = (fs_mm.set 15 (.int 0)) := ⟨_, rfl⟩
  rw [← em2_1] at hP hD
  have hsm2_1 : SB fs_mm m2_1 [14, 15, 20, 21, 22, 23] := by rw [em2_1]; exact SB.set (SB.rf _ _) (by decide)
  have hfm2_1_14 : m2_1[14]? = some (.ref ute) := by rw [em2_1]; exact fs_ne (by decide) hf_mm_14
  have hfm2_1_20 : m2_1[20]? = some (.ref upi) := by rw [em2_1]; exact fs_ne (by decide) hf_mm_20
  have hfm2_1_21 : m2_1[21]? = some (.ref upy) := by rw [em2_1]; exact fs_ne (by decide) hf_mm_21
  have hfm2_1_22 : m2_1[22]? = some (.ref upn) := by rw [em2_1]; exact fs_ne (by decide) hf_mm_22
  have hfm2_1_23 : m2_1[23]? = some (.int x_mm_23) := by rw [em2_1]; exact fs_ne (by decide) hf_mm_23
  have hfm2_1_15 : m2_1[15]? = some (.int 0) := by rw [em2_1]; exact fs_eq (by rw [hlen_mm]; decide)
  have hP : va_P D vwCl ([(mm, .inr (16, m2_1)), (ute, .inl (ct 5, TN, .inr (.inr (.inr (.inr g_ute))))), (upi, .inl (ct 5, PN, .inr (.inr (.inr (.inr g_upi))))), (upy, .inl (ct 1, PN, .inl g_upy)), (upn, .inl (ct 1, PN, .inl g_upn))] ++ ((po ++ pl_of F W.shape))) _ := hP
  have hD : va_D A ([(mm, .inr (16, m2_1)), (ute, .inl (ct 5, TN, .inr (.inr (.inr (.inr g_ute))))), (upi, .inl (ct 5, PN, .inr (.inr (.inr (.inr g_upi))))), (upy, .inl (ct 1, PN, .inl g_upy)), (upn, .inl (ct 1, PN, .inl g_upn))] ++ ((po ++ pl_of F W.shape))) := hD
  refine lv_aload_n hx hb dX16_number__5 rfl (lv_at hl 0 rfl) ?_
  refine lv_iconst (v := 0) hx hb dX16_number__6 (by decide) ?_
  refine va_put (D := D) (ci := 16) (v := .int 0) (ty := .int) (C := RX16) (T := TX16) (N := 78) hx hb (htX16 hn) (fun _ h => h) tyX16 tyX16_ok nmX16 hown hK hP hD hS 0 rfl rfl 23 (by decide) (hn.get mw_1562 rfl) (fun _ h9 => h9) rfl (by decide +kernel) rfl rfl (by rw [hsm2_1.1, hlen_mm]; decide) dX16_number__7 (fun H locs hP hD hS => ?_)
  have hP : va_P D vwCl ([(mm, .inr (16, (m2_1.set 23 (.int 0)))), (ute, .inl (ct 5, TN, .inr (.inr (.inr (.inr g_ute))))), (upi, .inl (ct 5, PN, .inr (.inr (.inr (.inr g_upi))))), (upy, .inl (ct 1, PN, .inl g_upy)), (upn, .inl (ct 1, PN, .inl g_upn))] ++ ((po ++ pl_of F W.shape))) _ := hP
  have hD : va_D A ([(mm, .inr (16, (m2_1.set 23 (.int 0)))), (ute, .inl (ct 5, TN, .inr (.inr (.inr (.inr g_ute))))), (upi, .inl (ct 5, PN, .inr (.inr (.inr (.inr g_upi))))), (upy, .inl (ct 1, PN, .inl g_upy)), (upn, .inl (ct 1, PN, .inl g_upn))] ++ ((po ++ pl_of F W.shape))) := hD
  obtain ⟨m7_1, em7_1⟩ : ∃ z, z = (m2_1.set 23 (.int 0)) := ⟨_, rfl⟩
  rw [← em7_1] at hP hD
  have hsm7_1 : SB fs_mm m7_1 [14, 15, 20, 21, 22, 23] := by rw [em7_1]; exact SB.set hsm2_1 (by decide)
  have hfm7_1_14 : m7_1[14]? = some (.ref ute) := by rw [em7_1]; exact fs_ne (by decide) hfm2_1_14
  have hfm7_1_20 : m7_1[20]? = some (.ref upi) := by rw [em7_1]; exact fs_ne (by decide) hfm2_1_20
  have hfm7_1_21 : m7_1[21]? = some (.ref upy) := by rw [em7_1]; exact fs_ne (by decide) hfm2_1_21
  have hfm7_1_22 : m7_1[22]? = some (.ref upn) := by rw [em7_1]; exact fs_ne (by decide) hfm2_1_22
  have hfm7_1_15 : m7_1[15]? = some (.int 0) := by rw [em7_1]; exact fs_ne (by decide) hfm2_1_15
  have hfm7_1_23 : m7_1[23]? = some (.int 0) := by rw [em7_1]; exact fs_eq (by rw [hsm2_1.1, hlen_mm]; decide)
  have hP : va_P D vwCl ([(mm, .inr (16, m7_1)), (ute, .inl (ct 5, TN, .inr (.inr (.inr (.inr g_ute))))), (upi, .inl (ct 5, PN, .inr (.inr (.inr (.inr g_upi))))), (upy, .inl (ct 1, PN, .inl g_upy)), (upn, .inl (ct 1, PN, .inl g_upn))] ++ ((po ++ pl_of F W.shape))) _ := hP
  have hD : va_D A ([(mm, .inr (16, m7_1)), (ute, .inl (ct 5, TN, .inr (.inr (.inr (.inr g_ute))))), (upi, .inl (ct 5, PN, .inr (.inr (.inr (.inr g_upi))))), (upy, .inl (ct 1, PN, .inl g_upy)), (upn, .inl (ct 1, PN, .inl g_upn))] ++ ((po ++ pl_of F W.shape))) := hD
  refine lv_aload_n hx hb dX16_number__10 rfl (lv_at hl 0 rfl) ?_
  refine lv_aload_n hx hb dX16_number__11 rfl (lv_at hl 1 rfl) ?_
  refine lv_iconst (v := 0) hx hb dX16_number__12 (by decide) ?_
  refine lv_iconst (v := 0) hx hb dX16_number__13 (by decide) ?_
  obtain ⟨m14_1, gm14_1⟩ : ∃ m9 : Nat, m9 + 0 = MC := ⟨MC - 0, Nat.sub_add_cancel (Nat.zero_le MC)⟩
  have em14_1 := FF.mk gm14_1
  obtain ⟨m14_2, gm14_2⟩ : ∃ m9 : Nat, m9 + 0 = MS := ⟨MS - 0, Nat.sub_add_cancel (Nat.zero_le MS)⟩
  have em14_2 := FF.mk gm14_2
  refine gt_P (pl := ((po ++ pl_of F W.shape))) (pl1 := fun _ => ((po ++ pl_of F W.shape))) (wr := [(ute, .inl (ct 5, TN, .inr (.inr (.inr (.inr g_ute)))))]) [0, 2, 3, 4] [1] (rt_V (As := [.ref W.root, .int 0, .int 0]) (rest := []) (c_X16_push l hst D ct m14_1 m14_2 ((po ++ pl_of F W.shape)) mm W.root _ (0 : Int32) (0 : Int32) m7_1 upi upy upn (0 : Int32) g_upi PN g_upy g_upn hmW (hsm7_1.1.trans hlen_mm) hfm7_1_20 hfm7_1_21 hfm7_1_22 (rg_w (show rg (0 : Int32) 0 0 from rg_l (by decide)) (by decide)) hfm7_1_23 (show ((PN : Nat) : Int) ≤ 80000 by have q0 := FF.out hq4; omega) (show 64 ≤ ((PN : Nat) : Int) by have q0 := FF.out hq5; omega) (show (0 : Int32).toInt ≤ ((PN : Nat) : Int) by have q0 := FF.out hq5; have q1 := (show (0 : Int32).toInt = 0 from by decide); omega) (show 480000 ≤ ((m14_2 : Nat) : Int) + 6 * ((PN : Nat) : Int) by have q0 := FF.out hq2; have q1 := FF.out hq6; have q2 := FF.out em14_2; omega) (show 240192 ≤ 64 * ((m14_1 : Nat) : Int) + 3 * ((PN : Nat) : Int) by have q0 := FF.out hq2; have q1 := FF.out hq7; have q2 := FF.out em14_1; omega) (EL.zero (show (0 : Int32).toInt ≤ 0 by have q0 := (show (0 : Int32).toInt = 0 from by decide); omega)) _) (cb_of (n := 3) hn mw_2215 mw_13 mw_2212 mhX16_push ⟨(Nat.le_of_ble_eq_true rfl), (Nat.le_of_ble_eq_true rfl)⟩) hx hb hml hown hn hK hSK hZ hS mw_2214 mw_s204 (ci := 16) (q0 := 0) rfl rfl rfl rfl hl.1 (Nat.le_of_ble_eq_true rfl) dX16_number__14 ⟨(Nat.le_of_eq ((Nat.add_comm _ _).trans gm14_1)), (Nat.le_of_eq ((Nat.add_comm _ _).trans gm14_2))⟩) hP hD hS hA rfl rfl (by decide) (by decide) (by decide) (fun xq14_6 ux14_7 xfs14_8 H locs hpx14_9 hpexfs14_8 hP hD hS => ?_) (fun r14_3 u14_4 H locs hp14_5 hP hD hS => ?_)
  · exact hpx14_9.elim
  obtain ⟨fs2_mm14_310, a_mm_2014_311, a_mm_2114_312, a_mm_2214_313, y_mm_2314_314, k_upi14_315, PN214_316, k_upy14_317, k_upn14_318, kc14_319, kn14_320⟩ := u14_4
  obtain ⟨hp14_321, hp14_322, hp14_323, hp14_324, hp14_325, hp14_326, hp14_327, hp14_328, hp14_329, hp14_330, hp14_331, hp14_332, hp14_333, hp14_334, hp14_335⟩ := hp14_5
  have hs14_336 : SB fs_mm fs2_mm14_310 [14, 15, 20, 21, 22, 23] := SB.trans hsm7_1 hp14_321 (by decide)
  have hf14_337 : fs2_mm14_310[14]? = some (.ref ute) := SB.get hp14_321 (by decide) hfm7_1_14
  have hf14_338 : fs2_mm14_310[15]? = some (.int 0) := SB.get hp14_321 (by decide) hfm7_1_15
  have hp14_325 : rg y_mm_2314_314 1 40000 := hp14_325
  replace hp14_327 : FF (y_mm_2314_314.toInt = (0 : Int32).toInt + 1) := hp14_327
  replace hp14_328 : FF (y_mm_2314_314.toInt ≤ ((PN214_316 : Nat) : Int)) := hp14_328
  replace hp14_329 : FF (((PN : Nat) : Int) ≤ ((PN214_316 : Nat) : Int)) := hp14_329
  replace hp14_330 : FF (((PN214_316 : Nat) : Int) ≤ 80000) := hp14_330
  replace hp14_331 : FF (64 * ((kc14_319 : Nat) : Int) + 3 * ((PN : Nat) : Int) ≤ 3 * ((PN214_316 : Nat) : Int)) := hp14_331
  replace hp14_332 : FF (((kn14_320 : Nat) : Int) = 6 * (((PN214_316 : Nat) : Int) - ((PN : Nat) : Int))) := hp14_332
  have hp14_333 : AP g_upi k_upi14_315 (0 : Int32).toInt W.root := hp14_333
  have hp14_334 : IP g_upy k_upy14_317 (0 : Int32).toInt (0 : Int32).toInt := hp14_334
  have hp14_335 : IP g_upn k_upn14_318 (0 : Int32).toInt (0 : Int32).toInt := hp14_335
  obtain ⟨c14_339, ec14_339⟩ : ∃ x9 : Nat, x9 = 0 + kc14_319 := ⟨_, rfl⟩
  have ec14_339 := FF.mk ec14_339
  have mc14_339 : FF (c14_339 ≤ MC) := FF.mk (Int.ofNat_le.mp (show ((c14_339 : Nat) : Int) ≤ ((MC : Nat) : Int) by have q0 := FF.out hq2; have q1 := FF.out hq7; have q2 := FF.out hp14_330; have q3 := FF.out hp14_331; have q4 := FF.out ec14_339; omega))
  obtain ⟨k14_340, ek14_340⟩ : ∃ x9 : Nat, x9 = 0 + kn14_320 := ⟨_, rfl⟩
  have ek14_340 := FF.mk ek14_340
  have mk14_340 : FF (k14_340 ≤ MS) := FF.mk (Int.ofNat_le.mp (show ((k14_340 : Nat) : Int) ≤ ((MS : Nat) : Int) by have q0 := FF.out hq2; have q1 := FF.out hq6; have q2 := FF.out hp14_330; have q3 := FF.out hp14_332; have q4 := FF.out ek14_340; omega))
  have hP : va_P D vwCl ([(ute, .inl (ct 5, TN, .inr (.inr (.inr (.inr g_ute))))), (mm, .inr (16, fs2_mm14_310)), (a_mm_2014_311, .inl (ct 5, PN214_316, .inr (.inr (.inr (.inr k_upi14_315))))), (a_mm_2114_312, .inl (ct 1, PN214_316, .inl k_upy14_317)), (a_mm_2214_313, .inl (ct 1, PN214_316, .inl k_upn14_318))] ++ ((po ++ pl_of F W.shape))) _ := hP
  have hD : va_D A ([(ute, .inl (ct 5, TN, .inr (.inr (.inr (.inr g_ute))))), (mm, .inr (16, fs2_mm14_310)), (a_mm_2014_311, .inl (ct 5, PN214_316, .inr (.inr (.inr (.inr k_upi14_315))))), (a_mm_2114_312, .inl (ct 1, PN214_316, .inl k_upy14_317)), (a_mm_2214_313, .inl (ct 1, PN214_316, .inl k_upn14_318))] ++ ((po ++ pl_of F W.shape))) := hD
  refine wv_widen (k := c14_339) (n := k14_340) (Nat.le_of_eq (FF.out ec14_339).symm) (Nat.le_of_eq (FF.out ek14_340).symm) (wv_eq (g2 := F0 m 17 ls []) rfl ?_)
  have b17 : ∀ (n17 : Nat) (j17_accC : Nat) (j17_accS : Nat) (j17_admm_14 : Nat) (j17_lnmm_14 : Nat) (j17_cmm14 : Nat → Option Nat) (j17_admm_20 : Nat) (j17_lnmm_20 : Nat) (j17_cmm20 : Nat → Option Nat) (j17_admm_21 : Nat) (j17_cmm21 : Nat → Int32) (j17_admm_22 : Nat) (j17_cmm22 : Nat → Int32) (j17_nc : Nat) (j17_nmu : Nat) (j17_ns : Nat) (j17_plF : Nat → Int32) (j17_amm : List Value) (j17_fmm_15 : Int32) (j17_fmm_23 : Int32) (H : Heap) (locs : List Loc) (ls : Array Slot), (FF (((j17_accC : Nat) : Int) ≤ ((MC : Nat) : Int))) → (FF (((j17_accS : Nat) : Int) ≤ ((MS : Nat) : Int))) → (FF (((j17_lnmm_14 : Nat) : Int) ≤ 80000)) → (FF (((j17_lnmm_20 : Nat) : Int) ≤ 80000)) → (FF (((j17_lnmm_20 : Nat) : Int) ≤ 80000)) → (FF (((j17_lnmm_20 : Nat) : Int) ≤ 80000)) → (SB fs_mm j17_amm [14, 15, 20, 21, 22, 23]) → (j17_amm[14]? = some (.ref j17_admm_14)) → (rg j17_fmm_15 0 34000) → (j17_amm[15]? = some (.int j17_fmm_15)) → (j17_amm[20]? = some (.ref j17_admm_20)) → (j17_amm[21]? = some (.ref j17_admm_21)) → (j17_amm[22]? = some (.ref j17_admm_22)) → (rg j17_fmm_23 0 40000) → (j17_amm[23]? = some (.int j17_fmm_23)) → (NUM W j17_plF j17_cmm20 j17_fmm_23.toInt j17_fmm_15.toInt j17_nmu j17_ns j17_nc) → (EF W.shape j17_cmm20 j17_fmm_23.toInt) → (TT W.shape j17_cmm14 j17_fmm_15.toInt j17_ns j17_nc) → (FF (j17_fmm_15.toInt ≤ ((j17_lnmm_14 : Nat) : Int))) → (FF (j17_fmm_23.toInt ≤ ((j17_lnmm_20 : Nat) : Int))) → (FF (((TN : Nat) : Int) ≤ ((j17_lnmm_14 : Nat) : Int))) → (FF (((j17_lnmm_14 : Nat) : Int) ≤ 70000)) → (FF (((PN : Nat) : Int) ≤ ((j17_lnmm_20 : Nat) : Int))) → (FF (((j17_lnmm_20 : Nat) : Int) ≤ 80000)) → (FF (((j17_lnmm_14 : Nat) : Int) = ((TN : Nat) : Int) ∨ ((j17_lnmm_14 : Nat) : Int) ≤ 2 * j17_fmm_15.toInt)) → (FF (64 * ((j17_accC : Nat) : Int) + 4 * ((TN : Nat) : Int) + 3 * ((PN : Nat) : Int) ≤ 4 * ((j17_lnmm_14 : Nat) : Int) + 3 * ((j17_lnmm_20 : Nat) : Int))) → (FF (((j17_accS : Nat) : Int) = 2 * (((j17_lnmm_14 : Nat) : Int) - ((TN : Nat) : Int)) + 6 * (((j17_lnmm_20 : Nat) : Int) - ((PN : Nat) : Int)))) → (FF (((j17_nmu : Nat) : Int) ≤ 38000)) → (((j17_nmu : Nat) : Int)).toNat < n17 → lv_has ls 3 [(0, .ref mm)] → va_P D vwCl ([(j17_admm_14, .inl (ct 5, j17_lnmm_14, .inr (.inr (.inr (.inr j17_cmm14))))), (mm, .inr (16, j17_amm)), (j17_admm_20, .inl (ct 5, j17_lnmm_20, .inr (.inr (.inr (.inr j17_cmm20))))), (j17_admm_21, .inl (ct 1, j17_lnmm_20, .inl j17_cmm21)), (j17_admm_22, .inl (ct 1, j17_lnmm_20, .inl j17_cmm22))] ++ ((po ++ pl_of j17_plF W.shape))) H → va_D A ([(j17_admm_14, .inl (ct 5, j17_lnmm_14, .inr (.inr (.inr (.inr j17_cmm14))))), (mm, .inr (16, j17_amm)), (j17_admm_20, .inl (ct 5, j17_lnmm_20, .inr (.inr (.inr (.inr j17_cmm20))))), (j17_admm_21, .inl (ct 1, j17_lnmm_20, .inl j17_cmm21)), (j17_admm_22, .inl (ct 1, j17_lnmm_20, .inl j17_cmm22))] ++ ((po ++ pl_of j17_plF W.shape))) → va_S A s.heap H locs → WV p l e ({ frames := 2, cells := MC, slots := MS, locals := 47 }) s m [.ref mm, .ref W.root].toArray below meth c H locs j17_accC j17_accS Q (F0 m 17 ls []) := by
    intro n17
    induction n17 with
    | zero => intros; rename_i hms _ _ _ _; exact absurd hms (Nat.not_lt_zero _)
    | succ n17 ih17 =>
      intro j17_accC j17_accS j17_admm_14 j17_lnmm_14 j17_cmm14 j17_admm_20 j17_lnmm_20 j17_cmm20 j17_admm_21 j17_cmm21 j17_admm_22 j17_cmm22 j17_nc j17_nmu j17_ns j17_plF j17_amm j17_fmm_15 j17_fmm_23 H locs ls hm17_1001 hm17_1002 hb17_1003 hb17_1004 hb17_1005 hb17_1006 hs17_1007 hf17_1008 r17_1009 hf17_1010 hf17_1011 hf17_1012 hf17_1013 r17_1014 hf17_1015 hg17_1016 hg17_1017 hg17_1018 hi17_1019 hi17_1020 hi17_1021 hi17_1022 hi17_1023 hi17_1024 hi17_1025 hi17_1026 hi17_1027 hi17_1028 hms17 hl hP hD hS
      refine lv_aload_n hx hb dX16_number__17 rfl (lv_at hl 0 rfl) ?_
      have hk18_1 : FF (j17_fmm_23.toInt ≤ ((j17_nmu : Nat) : Int) ∧ j17_fmm_15.toInt ≤ ((W.tests : Nat) : Int)) := FF.mk hg17_1016.le
      refine va_get (D := D) (ci := 16) (v := .int j17_fmm_23) (C := RX16) (T := TX16) (N := 78) hx hb (htX16 hn) (fun _ h => h) hown hK hP 1 rfl rfl 23 (by decide) (hn.get mw_1562 rfl) (fun _ h9 => h9) hf17_1015 dX16_number__18 ?_
      refine lv_if_le (tgt := 98) hx hb dX16_number__21 (by decide) (fun c21_1 => ?_) (fun c21_1 => ?_)
      · have t21_2 := FF.mk (i_le c21_1)
        have r21_3 : rg j17_fmm_23 0 0 := rg_leA t21_2 r17_1014 (show rg (0 : Int32) 0 0 from rg_l (by decide)) (by decide)
        have hN98_1 := NUM.end_ hg17_1016 (show j17_fmm_23.toInt ≤ 0 by have q0 := r21_3.2; omega)
        have hk98_2 : FF (j17_fmm_15.toInt = ((W.tests : Nat) : Int)) := FF.mk hN98_1.2
        exact et_v (SX := Unit) hQ hx hb hr hlocks dX16_number__98 (j17_amm, j17_admm_14, j17_fmm_15, j17_admm_20, j17_admm_21, j17_admm_22, j17_fmm_23, j17_cmm14, j17_lnmm_14, j17_cmm20, j17_lnmm_20, j17_cmm21, j17_cmm22, j17_plF, j17_accC, j17_accS) ⟨hs17_1007, hf17_1008, r17_1009, hf17_1010, hf17_1011, hf17_1012, hf17_1013, r21_3, hf17_1015, (show j17_fmm_15.toInt = ((W.tests : Nat) : Int) by have q0 := FF.out hk18_1; have q1 := FF.out hk98_2; omega), (show j17_fmm_15.toInt ≤ ((j17_lnmm_14 : Nat) : Int) by have q0 := FF.out hi17_1019; omega), (show ((TN : Nat) : Int) ≤ ((j17_lnmm_14 : Nat) : Int) by have q0 := FF.out hi17_1021; omega), (show ((j17_lnmm_14 : Nat) : Int) ≤ 70000 by have q0 := FF.out hi17_1022; omega), (show ((j17_lnmm_14 : Nat) : Int) = ((TN : Nat) : Int) ∨ ((j17_lnmm_14 : Nat) : Int) ≤ 2 * j17_fmm_15.toInt by have q0 := FF.out hi17_1021; have q1 := FF.out hi17_1025; omega), (show ((PN : Nat) : Int) ≤ ((j17_lnmm_20 : Nat) : Int) by have q0 := FF.out hi17_1023; omega), (show ((j17_lnmm_20 : Nat) : Int) ≤ 80000 by have q0 := FF.out hb17_1004; omega), (show 64 * ((j17_accC : Nat) : Int) + 4 * ((TN : Nat) : Int) + 3 * ((PN : Nat) : Int) ≤ 4 * ((j17_lnmm_14 : Nat) : Int) + 3 * ((j17_lnmm_20 : Nat) : Int) by have q0 := FF.out hi17_1026; omega), (show ((j17_accS : Nat) : Int) = 2 * (((j17_lnmm_14 : Nat) : Int) - ((TN : Nat) : Int)) + 6 * (((j17_lnmm_20 : Nat) : Int) - ((PN : Nat) : Int)) by have q0 := FF.out hi17_1027; omega), hN98_1.1, (TTE.of hg17_1018 (NUM.sc hg17_1016))⟩ hP hD hS [1, 0, 2, 3, 4] (by decide) rfl (Nat.le_refl _) (Nat.le_refl _) (Int.ofNat_le.mp (FF.out hm17_1001)) (Int.ofNat_le.mp (FF.out hm17_1002))
      · have t21_2 := FF.mk (i_nle c21_1)
        have r21_3 : rg j17_fmm_23 1 40000 := rg_ltB t21_2 (show rg (0 : Int32) 0 0 from rg_l (by decide)) r17_1014 (by decide)
        refine lv_aload_n hx hb dX16_number__24 rfl (lv_at hl 0 rfl) ?_
        refine lv_dup hx hb dX16_number__25 rfl ?_
        refine va_get (D := D) (ci := 16) (v := .int j17_fmm_23) (C := RX16) (T := TX16) (N := 78) hx hb (htX16 hn) (fun _ h => h) hown hK hP 1 rfl rfl 23 (by decide) (hn.get mw_1562 rfl) (fun _ h9 => h9) hf17_1015 dX16_number__26 ?_
        refine lv_iconst (v := 1) hx hb dX16_number__29 (by decide) ?_
        refine lv_isub hx hb dX16_number__30 ?_
        refine lv_topi (fun z30_1 ez30_1 => ?_)
        have r30_2 : rg z30_1 0 39999 := rg_sub ez30_1 r21_3 (show rg (1 : Int32) 1 1 from rg_l (by decide)) (by decide)
        refine va_put (D := D) (ci := 16) (v := .int z30_1) (ty := .int) (C := RX16) (T := TX16) (N := 78) hx hb (htX16 hn) (fun _ h => h) tyX16 tyX16_ok nmX16 hown hK hP hD hS 1 rfl rfl 23 (by decide) (hn.get mw_1562 rfl) (fun _ h9 => h9) rfl (by decide +kernel) rfl rfl (by rw [hs17_1007.1, hlen_mm]; decide) dX16_number__31 (fun H locs hP hD hS => ?_)
        have hP : va_P D vwCl ([(j17_admm_14, .inl (ct 5, j17_lnmm_14, .inr (.inr (.inr (.inr j17_cmm14))))), (mm, .inr (16, (j17_amm.set 23 (.int z30_1)))), (j17_admm_20, .inl (ct 5, j17_lnmm_20, .inr (.inr (.inr (.inr j17_cmm20))))), (j17_admm_21, .inl (ct 1, j17_lnmm_20, .inl j17_cmm21)), (j17_admm_22, .inl (ct 1, j17_lnmm_20, .inl j17_cmm22))] ++ ((po ++ pl_of j17_plF W.shape))) _ := hP
        have hD : va_D A ([(j17_admm_14, .inl (ct 5, j17_lnmm_14, .inr (.inr (.inr (.inr j17_cmm14))))), (mm, .inr (16, (j17_amm.set 23 (.int z30_1)))), (j17_admm_20, .inl (ct 5, j17_lnmm_20, .inr (.inr (.inr (.inr j17_cmm20))))), (j17_admm_21, .inl (ct 1, j17_lnmm_20, .inl j17_cmm21)), (j17_admm_22, .inl (ct 1, j17_lnmm_20, .inl j17_cmm22))] ++ ((po ++ pl_of j17_plF W.shape))) := hD
        obtain ⟨m31_1, em31_1⟩ : ∃ z, z = (j17_amm.set 23 (.int z30_1)) := ⟨_, rfl⟩
        rw [← em31_1] at hP hD
        have hsm31_1 : SB fs_mm m31_1 [14, 15, 20, 21, 22, 23] := by rw [em31_1]; exact SB.set hs17_1007 (by decide)
        have hfm31_1_14 : m31_1[14]? = some (.ref j17_admm_14) := by rw [em31_1]; exact fs_ne (by decide) hf17_1008
        have hfm31_1_15 : m31_1[15]? = some (.int j17_fmm_15) := by rw [em31_1]; exact fs_ne (by decide) hf17_1010
        have hfm31_1_20 : m31_1[20]? = some (.ref j17_admm_20) := by rw [em31_1]; exact fs_ne (by decide) hf17_1011
        have hfm31_1_21 : m31_1[21]? = some (.ref j17_admm_21) := by rw [em31_1]; exact fs_ne (by decide) hf17_1012
        have hfm31_1_22 : m31_1[22]? = some (.ref j17_admm_22) := by rw [em31_1]; exact fs_ne (by decide) hf17_1013
        have hfm31_1_23 : m31_1[23]? = some (.int z30_1) := by rw [em31_1]; exact fs_eq (by rw [hs17_1007.1, hlen_mm]; decide)
        have hP : va_P D vwCl ([(j17_admm_14, .inl (ct 5, j17_lnmm_14, .inr (.inr (.inr (.inr j17_cmm14))))), (mm, .inr (16, m31_1)), (j17_admm_20, .inl (ct 5, j17_lnmm_20, .inr (.inr (.inr (.inr j17_cmm20))))), (j17_admm_21, .inl (ct 1, j17_lnmm_20, .inl j17_cmm21)), (j17_admm_22, .inl (ct 1, j17_lnmm_20, .inl j17_cmm22))] ++ ((po ++ pl_of j17_plF W.shape))) _ := hP
        have hD : va_D A ([(j17_admm_14, .inl (ct 5, j17_lnmm_14, .inr (.inr (.inr (.inr j17_cmm14))))), (mm, .inr (16, m31_1)), (j17_admm_20, .inl (ct 5, j17_lnmm_20, .inr (.inr (.inr (.inr j17_cmm20))))), (j17_admm_21, .inl (ct 1, j17_lnmm_20, .inl j17_cmm21)), (j17_admm_22, .inl (ct 1, j17_lnmm_20, .inl j17_cmm22))] ++ ((po ++ pl_of j17_plF W.shape))) := hD
        refine lv_aload_n hx hb dX16_number__34 rfl (lv_at hl 0 rfl) ?_
        refine va_get (D := D) (ci := 16) (v := .ref j17_admm_20) (C := RX16) (T := TX16) (N := 78) hx hb (htX16 hn) (fun _ h => h) hown hK hP 1 rfl rfl 20 (by decide) (hn.get mw_1559 rfl) (fun _ h9 => h9) hfm31_1_20 dX16_number__35 ?_
        refine lv_aload_n hx hb dX16_number__38 rfl (lv_at hl 0 rfl) ?_
        refine va_get (D := D) (ci := 16) (v := .int z30_1) (C := RX16) (T := TX16) (N := 78) hx hb (htX16 hn) (fun _ h => h) hown hK hP 1 rfl rfl 23 (by decide) (hn.get mw_1562 rfl) (fun _ h9 => h9) hfm31_1_23 dX16_number__39 ?_
        obtain ⟨t42_1t, gt42_1, pt42_1⟩ := NUM.pop (i := z30_1) hg17_1016 (show z30_1.toInt + 1 = j17_fmm_23.toInt by have q0 := (eq_sub ez30_1 r21_3 (show rg (1 : Int32) 1 1 from rg_l (by decide)) (by decide)); have q1 := (show (1 : Int32).toInt = 1 from by decide); omega) (show 0 < j17_fmm_23.toInt by have q0 := r21_3.1; omega)
        obtain ⟨ot42_1, st42_1, dt42_1, zt42_1, kt42_1, sst42_1, sct42_1⟩ := pt42_1.facts
        have hk42_2 : FF (((j17_ns : Nat) : Int) + ((t42_1t.sz : Nat) : Int) ≤ ((W.sz : Nat) : Int)) := FF.mk (by omega)
        have hk42_3 : FF (j17_fmm_15.toInt + 1 ≤ ((W.tests : Nat) : Int)) := FF.mk kt42_1
        rcases FT.cases_ ot42_1 with ⟨t42_1l, t42_1r, t42_1s, ct42_1⟩ | ⟨t42_1x, ct42_1⟩ | ⟨t42_1x, t42_1y, ct42_1⟩ | ⟨t42_1x, t42_1y, ct42_1⟩
        · have ht42_1 := st42_1 _ ct42_1.1
          have hi42_1 : vp_in z30_1 j17_lnmm_20 := (in_of (show 0 ≤ z30_1.toInt ∧ z30_1.toInt < ((j17_lnmm_20 : Nat) : Int) by have q0 := r30_2.1; have q1 := (eq_sub ez30_1 r21_3 (show rg (1 : Int32) 1 1 from rg_l (by decide)) (by decide)); have q2 := FF.out hi17_1020; have q3 := (show (1 : Int32).toInt = 1 from by decide); omega))
          refine aq_ld hx hb hK hP 2 5 rfl rfl hi42_1 gt42_1 dX16_number__42 ?_
          refine lv_astore_n (lv' := [(2, .ref t42_1t.root), (0, .ref mm)]) hx hb dX16_number__43 rfl hl (by decide) rfl (fun ls hl => ?_)
          refine lv_aload_n hx hb dX16_number__44 rfl (lv_at hl 0 rfl) ?_
          refine lv_aload_n hx hb dX16_number__45 rfl (lv_at hl 1 rfl) ?_
          refine va_get (D := D) (ci := 16) (v := .int j17_fmm_15) (C := RX16) (T := TX16) (N := 78) hx hb (htX16 hn) (fun _ h => h) hown hK hP 1 rfl rfl 15 (by decide) (hn.get mw_1554 rfl) (fun _ h9 => h9) hfm31_1_15 dX16_number__46 ?_
          have hD0 := hD
          obtain ⟨k49_1, hk49_1⟩ := pl_get (X := [(j17_admm_14, .inl (ct 5, j17_lnmm_14, .inr (.inr (.inr (.inr j17_cmm14))))), (mm, .inr (16, m31_1)), (j17_admm_20, .inl (ct 5, j17_lnmm_20, .inr (.inr (.inr (.inr j17_cmm20))))), (j17_admm_21, .inl (ct 1, j17_lnmm_20, .inl j17_cmm21)), (j17_admm_22, .inl (ct 1, j17_lnmm_20, .inl j17_cmm22))]) (fl_mem (po := po) (F := j17_plF) ht42_1)
          refine va_put (D := D) (ci := 12) (v := .int j17_fmm_15) (ty := .int) (C := RX12) (T := TX12) (N := 7) hx hb (htX12 hn) (fun _ h => h) tyX12 tyX12_ok nmX12 hown hK hP hD hS k49_1 hk49_1 rfl 6 (by decide) (hn.get mw_1986 rfl) (fun _ h9 => h9) rfl (by decide +kernel) rfl rfl (Nat.le_of_ble_eq_true rfl) dX16_number__49 (fun H locs hP hD hS => ?_)
          have hP : va_P D vwCl ((([(j17_admm_14, .inl (ct 5, j17_lnmm_14, .inr (.inr (.inr (.inr j17_cmm14))))), (mm, .inr (16, m31_1)), (j17_admm_20, .inl (ct 5, j17_lnmm_20, .inr (.inr (.inr (.inr j17_cmm20))))), (j17_admm_21, .inl (ct 1, j17_lnmm_20, .inl j17_cmm21)), (j17_admm_22, .inl (ct 1, j17_lnmm_20, .inl j17_cmm22))] ++ ((po ++ pl_of j17_plF W.shape)) : va_W)).set k49_1 (t42_1t.root, (fent 0 .null .null (.ref t42_1l.root) (.ref t42_1r.root) t42_1s) j17_fmm_15)) _ := hP
          have hD : va_D A ((([(j17_admm_14, .inl (ct 5, j17_lnmm_14, .inr (.inr (.inr (.inr j17_cmm14))))), (mm, .inr (16, m31_1)), (j17_admm_20, .inl (ct 5, j17_lnmm_20, .inr (.inr (.inr (.inr j17_cmm20))))), (j17_admm_21, .inl (ct 1, j17_lnmm_20, .inl j17_cmm21)), (j17_admm_22, .inl (ct 1, j17_lnmm_20, .inl j17_cmm22))] ++ ((po ++ pl_of j17_plF W.shape)) : va_W)).set k49_1 (t42_1t.root, (fent 0 .null .null (.ref t42_1l.root) (.ref t42_1r.root) t42_1s) j17_fmm_15)) := hD
          rw [fl_set hD0 ht42_1 hk49_1] at hP hD
          obtain ⟨F49_2, eF49_2⟩ : ∃ z, z = va_up j17_plF t42_1t.root j17_fmm_15 := ⟨_, rfl⟩
          rw [← eF49_2] at hP hD
          have hP : va_P D vwCl ([(j17_admm_14, .inl (ct 5, j17_lnmm_14, .inr (.inr (.inr (.inr j17_cmm14))))), (mm, .inr (16, m31_1)), (j17_admm_20, .inl (ct 5, j17_lnmm_20, .inr (.inr (.inr (.inr j17_cmm20))))), (j17_admm_21, .inl (ct 1, j17_lnmm_20, .inl j17_cmm21)), (j17_admm_22, .inl (ct 1, j17_lnmm_20, .inl j17_cmm22))] ++ ((po ++ pl_of F49_2 W.shape))) _ := hP
          have hD : va_D A ([(j17_admm_14, .inl (ct 5, j17_lnmm_14, .inr (.inr (.inr (.inr j17_cmm14))))), (mm, .inr (16, m31_1)), (j17_admm_20, .inl (ct 5, j17_lnmm_20, .inr (.inr (.inr (.inr j17_cmm20))))), (j17_admm_21, .inl (ct 1, j17_lnmm_20, .inl j17_cmm21)), (j17_admm_22, .inl (ct 1, j17_lnmm_20, .inl j17_cmm22))] ++ ((po ++ pl_of F49_2 W.shape))) := hD
          refine lv_aload_n hx hb dX16_number__52 rfl (lv_at hl 0 rfl) ?_
          obtain ⟨k53_1, hk53_1⟩ := pl_get (X := [(j17_admm_14, .inl (ct 5, j17_lnmm_14, .inr (.inr (.inr (.inr j17_cmm14))))), (mm, .inr (16, m31_1)), (j17_admm_20, .inl (ct 5, j17_lnmm_20, .inr (.inr (.inr (.inr j17_cmm20))))), (j17_admm_21, .inl (ct 1, j17_lnmm_20, .inl j17_cmm21)), (j17_admm_22, .inl (ct 1, j17_lnmm_20, .inl j17_cmm22))]) (fl_mem (po := po) (F := F49_2) ht42_1)
          refine va_get (D := D) (ci := 12) (v := .int 0) (C := RX12) (T := TX12) (N := 7) hx hb (htX12 hn) (fun _ h => h) hown hK hP k53_1 hk53_1 rfl 0 (by decide) (hn.get mw_1975 rfl) (fun _ h9 => h9) rfl dX16_number__53 ?_
          refine lv_if_ne (tgt := 67) hx hb dX16_number__56 (by decide) (fun c56_1 => absurd (by decide) c56_1) (fun c56_1 => ?_)
          refine lv_aload_n hx hb dX16_number__59 rfl (lv_at hl 1 rfl) ?_
          refine lv_aload_n hx hb dX16_number__60 rfl (lv_at hl 0 rfl) ?_
          obtain ⟨m61_1, gm61_1⟩ : ∃ m9 : Nat, m9 + j17_accC = MC := ⟨MC - j17_accC, Nat.sub_add_cancel (Int.ofNat_le.mp (FF.out hm17_1001))⟩
          have em61_1 := FF.mk gm61_1
          obtain ⟨m61_2, gm61_2⟩ : ∃ m9 : Nat, m9 + j17_accS = MS := ⟨MS - j17_accS, Nat.sub_add_cancel (Int.ofNat_le.mp (FF.out hm17_1002))⟩
          have em61_2 := FF.mk gm61_2
          refine gt_P (pl := ((po ++ pl_of F49_2 W.shape))) (pl1 := fun _ => ((po ++ pl_of F49_2 W.shape))) (wr := [(j17_admm_20, .inl (ct 5, j17_lnmm_20, .inr (.inr (.inr (.inr j17_cmm20))))), (j17_admm_21, .inl (ct 1, j17_lnmm_20, .inl j17_cmm21)), (j17_admm_22, .inl (ct 1, j17_lnmm_20, .inl j17_cmm22))]) [1, 0] [2, 3, 4] (rt_V (As := [.ref t42_1t.root]) (rest := []) (c_X16_addTest l hst D ct m61_1 m61_2 ((po ++ pl_of F49_2 W.shape)) mm t42_1t.root _ m31_1 j17_admm_14 j17_fmm_15 j17_cmm14 j17_lnmm_14 (fl_mem (po := po) (F := F49_2) ht42_1) (hsm31_1.1.trans hlen_mm) hfm31_1_14 (rg_of (show 0 ≤ j17_fmm_15.toInt ∧ j17_fmm_15.toInt ≤ 33999 by have q0 := r17_1009.1; have q1 := FF.out hq0; have q2 := FF.out ht3; have q3 := FF.out hk42_3; omega)) hfm31_1_15 (show ((j17_lnmm_14 : Nat) : Int) ≤ 70000 by have q0 := FF.out hi17_1022; omega) (show 16 ≤ ((j17_lnmm_14 : Nat) : Int) by have q0 := FF.out hq3; have q1 := FF.out hi17_1021; omega) (show j17_fmm_15.toInt ≤ ((j17_lnmm_14 : Nat) : Int) by have q0 := FF.out hi17_1019; omega) (show 140000 ≤ ((m61_2 : Nat) : Int) + 2 * ((j17_lnmm_14 : Nat) : Int) by have q0 := FF.out hq6; have q1 := FF.out hb17_1004; have q2 := FF.out hi17_1027; have q3 := FF.out em61_2; omega) (show 70032 ≤ 16 * ((m61_1 : Nat) : Int) + ((j17_lnmm_14 : Nat) : Int) by have q0 := FF.out hq7; have q1 := FF.out hb17_1004; have q2 := FF.out hi17_1026; have q3 := FF.out em61_1; omega) (EL.mono (TT.el hg17_1018) (show j17_fmm_15.toInt ≤ j17_fmm_15.toInt by omega)) _) (cb_of (n := 1) hn mw_2219 mw_13 mw_2216 mhX16_addTest ⟨(Nat.le_of_ble_eq_true rfl), (Nat.le_of_ble_eq_true rfl)⟩) hx hb hml hown hn hK hSK hZ hS mw_2218 mw_s205 (ci := 16) (q0 := 0) rfl rfl rfl rfl hl.1 (Nat.le_of_ble_eq_true rfl) dX16_number__61 ⟨(Nat.le_of_eq ((Nat.add_comm _ _).trans gm61_1)), (Nat.le_of_eq ((Nat.add_comm _ _).trans gm61_2))⟩) hP hD hS hA rfl rfl (by decide) (by decide) (by decide) (fun xq61_6 ux61_7 xfs61_8 H locs hpx61_9 hpexfs61_8 hP hD hS => ?_) (fun r61_3 u61_4 H locs hp61_5 hP hD hS => ?_)
          · exact hpx61_9.elim
          obtain ⟨fs2_mm61_310, a_mm_1461_311, y_mm_1561_312, k_ute61_313, TN261_314, kc61_315, kn61_316⟩ := u61_4
          obtain ⟨hp61_317, hp61_318, hp61_319, hp61_320, hp61_321, hp61_322, hp61_323, hp61_324, hp61_325, hp61_326, hp61_327, hp61_328⟩ := hp61_5
          have hs61_329 : SB fs_mm fs2_mm61_310 [14, 15, 20, 21, 22, 23] := SB.trans hsm31_1 hp61_317 (by decide)
          have hf61_330 : fs2_mm61_310[20]? = some (.ref j17_admm_20) := SB.get hp61_317 (by decide) hfm31_1_20
          have hf61_331 : fs2_mm61_310[21]? = some (.ref j17_admm_21) := SB.get hp61_317 (by decide) hfm31_1_21
          have hf61_332 : fs2_mm61_310[22]? = some (.ref j17_admm_22) := SB.get hp61_317 (by decide) hfm31_1_22
          have hf61_333 : fs2_mm61_310[23]? = some (.int z30_1) := SB.get hp61_317 (by decide) hfm31_1_23
          have hp61_319 : rg y_mm_1561_312 1 34000 := hp61_319
          replace hp61_321 : FF (y_mm_1561_312.toInt = j17_fmm_15.toInt + 1) := hp61_321
          replace hp61_322 : FF (y_mm_1561_312.toInt ≤ ((TN261_314 : Nat) : Int)) := hp61_322
          replace hp61_323 : FF (((j17_lnmm_14 : Nat) : Int) ≤ ((TN261_314 : Nat) : Int)) := hp61_323
          replace hp61_324 : FF (((TN261_314 : Nat) : Int) ≤ 70000) := hp61_324
          replace hp61_325 : FF (((TN261_314 : Nat) : Int) = ((j17_lnmm_14 : Nat) : Int) ∨ ((TN261_314 : Nat) : Int) ≤ 2 * j17_fmm_15.toInt) := hp61_325
          replace hp61_326 : FF (16 * ((kc61_315 : Nat) : Int) + ((j17_lnmm_14 : Nat) : Int) ≤ ((TN261_314 : Nat) : Int)) := hp61_326
          replace hp61_327 : FF (((kn61_316 : Nat) : Int) = 2 * (((TN261_314 : Nat) : Int) - ((j17_lnmm_14 : Nat) : Int))) := hp61_327
          have hp61_328 : AP j17_cmm14 k_ute61_313 j17_fmm_15.toInt t42_1t.root := hp61_328
          obtain ⟨c61_334, ec61_334⟩ : ∃ x9 : Nat, x9 = j17_accC + kc61_315 := ⟨_, rfl⟩
          have ec61_334 := FF.mk ec61_334
          have mc61_334 : FF (c61_334 ≤ MC) := FF.mk (Int.ofNat_le.mp (show ((c61_334 : Nat) : Int) ≤ ((MC : Nat) : Int) by have q0 := FF.out hq7; have q1 := FF.out hb17_1004; have q2 := FF.out hi17_1026; have q3 := FF.out hp61_324; have q4 := FF.out hp61_326; have q5 := FF.out ec61_334; omega))
          obtain ⟨k61_335, ek61_335⟩ : ∃ x9 : Nat, x9 = j17_accS + kn61_316 := ⟨_, rfl⟩
          have ek61_335 := FF.mk ek61_335
          have mk61_335 : FF (k61_335 ≤ MS) := FF.mk (Int.ofNat_le.mp (show ((k61_335 : Nat) : Int) ≤ ((MS : Nat) : Int) by have q0 := FF.out hq6; have q1 := FF.out hb17_1004; have q2 := FF.out hi17_1027; have q3 := FF.out hp61_324; have q4 := FF.out hp61_327; have q5 := FF.out ek61_335; omega))
          have hP : va_P D vwCl ([(j17_admm_20, .inl (ct 5, j17_lnmm_20, .inr (.inr (.inr (.inr j17_cmm20))))), (j17_admm_21, .inl (ct 1, j17_lnmm_20, .inl j17_cmm21)), (j17_admm_22, .inl (ct 1, j17_lnmm_20, .inl j17_cmm22)), (mm, .inr (16, fs2_mm61_310)), (a_mm_1461_311, .inl (ct 5, TN261_314, .inr (.inr (.inr (.inr k_ute61_313)))))] ++ ((po ++ pl_of F49_2 W.shape))) _ := hP
          have hD : va_D A ([(j17_admm_20, .inl (ct 5, j17_lnmm_20, .inr (.inr (.inr (.inr j17_cmm20))))), (j17_admm_21, .inl (ct 1, j17_lnmm_20, .inl j17_cmm21)), (j17_admm_22, .inl (ct 1, j17_lnmm_20, .inl j17_cmm22)), (mm, .inr (16, fs2_mm61_310)), (a_mm_1461_311, .inl (ct 5, TN261_314, .inr (.inr (.inr (.inr k_ute61_313)))))] ++ ((po ++ pl_of F49_2 W.shape))) := hD
          refine wv_widen (k := c61_334) (n := k61_335) (Nat.le_of_eq (FF.out ec61_334).symm) (Nat.le_of_eq (FF.out ek61_335).symm) (wv_eq (g2 := F0 m 64 ls []) rfl ?_)
          refine lv_goto (tgt := 95) hx hb dX16_number__64 (by decide) ?_
          have hT95_2 : TT W.shape k_ute61_313 y_mm_1561_312.toInt (j17_ns + t42_1t.sz) (j17_nc + t42_1t.c4) := TT.push hg17_1018 (show 0 ≤ j17_fmm_15.toInt by have q0 := r17_1009.1; omega) (AP.to hp61_328 (show j17_fmm_15.toInt = j17_fmm_15.toInt by omega)) ct42_1 st42_1 (by have q1 := (show ((W.dep : Nat) : Int) ≤ 83 by have q0 := FF.out hq1; omega); have q2 := dt42_1; omega) (by have q1 := (show ((W.sz : Nat) : Int) ≤ 38000 by have q0 := FF.out hq0; omega); have q2 := zt42_1; omega) (show y_mm_1561_312.toInt = j17_fmm_15.toInt + 1 by have q0 := FF.out hp61_321; omega)
          obtain ⟨u95_1m, lu95_1, u95_1⟩ := NUMP.test pt42_1 ct42_1 eF49_2 (show j17_fmm_15.toInt = j17_fmm_15.toInt by omega) (show y_mm_1561_312.toInt = j17_fmm_15.toInt + 1 by have q0 := FF.out hp61_321; omega)
          have u95_1 : NUM W F49_2 j17_cmm20 z30_1.toInt y_mm_1561_312.toInt u95_1m (j17_ns + t42_1t.sz) (j17_nc + t42_1t.c4) := u95_1
          have hk95_3 : FF (((u95_1m : Nat) : Int) < ((j17_nmu : Nat) : Int)) := FF.mk (Int.ofNat_lt.mpr lu95_1)
          refine lv_goto (tgt := 17) hx hb dX16_number__95 (by decide) ?_
          have hP := hP.part (cx := [(a_mm_1461_311, .inl (ct 5, TN261_314, .inr (.inr (.inr (.inr k_ute61_313))))), (mm, .inr (16, fs2_mm61_310)), (j17_admm_20, .inl (ct 5, j17_lnmm_20, .inr (.inr (.inr (.inr j17_cmm20))))), (j17_admm_21, .inl (ct 1, j17_lnmm_20, .inl j17_cmm21)), (j17_admm_22, .inl (ct 1, j17_lnmm_20, .inl j17_cmm22))]) [4, 3, 0, 1, 2] rfl
          have hD := hD.part (cx := [(a_mm_1461_311, .inl (ct 5, TN261_314, .inr (.inr (.inr (.inr k_ute61_313))))), (mm, .inr (16, fs2_mm61_310)), (j17_admm_20, .inl (ct 5, j17_lnmm_20, .inr (.inr (.inr (.inr j17_cmm20))))), (j17_admm_21, .inl (ct 1, j17_lnmm_20, .inl j17_cmm21)), (j17_admm_22, .inl (ct 1, j17_lnmm_20, .inl j17_cmm22))]) [4, 3, 0, 1, 2] (by decide) rfl
          have hP : va_P D vwCl ([(a_mm_1461_311, .inl (ct 5, TN261_314, .inr (.inr (.inr (.inr k_ute61_313))))), (mm, .inr (16, fs2_mm61_310)), (j17_admm_20, .inl (ct 5, j17_lnmm_20, .inr (.inr (.inr (.inr j17_cmm20))))), (j17_admm_21, .inl (ct 1, j17_lnmm_20, .inl j17_cmm21)), (j17_admm_22, .inl (ct 1, j17_lnmm_20, .inl j17_cmm22))] ++ ((po ++ pl_of F49_2 W.shape))) _ := hP
          have hD : va_D A ([(a_mm_1461_311, .inl (ct 5, TN261_314, .inr (.inr (.inr (.inr k_ute61_313))))), (mm, .inr (16, fs2_mm61_310)), (j17_admm_20, .inl (ct 5, j17_lnmm_20, .inr (.inr (.inr (.inr j17_cmm20))))), (j17_admm_21, .inl (ct 1, j17_lnmm_20, .inl j17_cmm21)), (j17_admm_22, .inl (ct 1, j17_lnmm_20, .inl j17_cmm22))] ++ ((po ++ pl_of F49_2 W.shape))) := hD
          exact ih17 c61_334 k61_335 a_mm_1461_311 TN261_314 k_ute61_313 j17_admm_20 j17_lnmm_20 j17_cmm20 j17_admm_21 j17_cmm21 j17_admm_22 j17_cmm22 (j17_nc + t42_1t.c4) u95_1m (j17_ns + t42_1t.sz) F49_2 fs2_mm61_310 y_mm_1561_312 z30_1 H locs ls (show ((c61_334 : Nat) : Int) ≤ ((MC : Nat) : Int) by have q0 := FF.out hq7; have q1 := FF.out hb17_1004; have q2 := FF.out hi17_1026; have q3 := FF.out hp61_324; have q4 := FF.out hp61_326; have q5 := FF.out ec61_334; omega) (show ((k61_335 : Nat) : Int) ≤ ((MS : Nat) : Int) by have q0 := FF.out mk61_335; omega) (show ((TN261_314 : Nat) : Int) ≤ 80000 by have q0 := FF.out hp61_324; omega) (show ((j17_lnmm_20 : Nat) : Int) ≤ 80000 by have q0 := FF.out hb17_1004; omega) (show ((j17_lnmm_20 : Nat) : Int) ≤ 80000 by have q0 := FF.out hb17_1004; omega) (show ((j17_lnmm_20 : Nat) : Int) ≤ 80000 by have q0 := FF.out hb17_1004; omega) hs61_329 hp61_318 (rg_w hp61_319 (by decide)) hp61_320 hf61_330 hf61_331 hf61_332 (rg_w r30_2 (by decide)) hf61_333 u95_1 (EF.mono hg17_1017 (show z30_1.toInt ≤ j17_fmm_23.toInt by have q0 := (eq_sub ez30_1 r21_3 (show rg (1 : Int32) 1 1 from rg_l (by decide)) (by decide)); have q1 := (show (1 : Int32).toInt = 1 from by decide); omega)) hT95_2 (show y_mm_1561_312.toInt ≤ ((TN261_314 : Nat) : Int) by have q0 := FF.out hp61_322; omega) (show z30_1.toInt ≤ ((j17_lnmm_20 : Nat) : Int) by have q0 := (eq_sub ez30_1 r21_3 (show rg (1 : Int32) 1 1 from rg_l (by decide)) (by decide)); have q1 := FF.out hi17_1020; have q2 := (show (1 : Int32).toInt = 1 from by decide); omega) (show ((TN : Nat) : Int) ≤ ((TN261_314 : Nat) : Int) by have q0 := FF.out hi17_1021; have q1 := FF.out hp61_323; omega) (show ((TN261_314 : Nat) : Int) ≤ 70000 by have q0 := FF.out hp61_324; omega) (show ((PN : Nat) : Int) ≤ ((j17_lnmm_20 : Nat) : Int) by have q0 := FF.out hi17_1023; omega) (show ((j17_lnmm_20 : Nat) : Int) ≤ 80000 by have q0 := FF.out hb17_1004; omega) (show ((TN261_314 : Nat) : Int) = ((TN : Nat) : Int) ∨ ((TN261_314 : Nat) : Int) ≤ 2 * y_mm_1561_312.toInt by have q0 := FF.out hi17_1021; have q1 := FF.out hi17_1025; have q2 := FF.out hp61_321; have q3 := FF.out hp61_323; have q4 := FF.out hp61_325; omega) (show 64 * ((c61_334 : Nat) : Int) + 4 * ((TN : Nat) : Int) + 3 * ((PN : Nat) : Int) ≤ 4 * ((TN261_314 : Nat) : Int) + 3 * ((j17_lnmm_20 : Nat) : Int) by have q0 := FF.out hi17_1026; have q1 := FF.out hp61_326; have q2 := FF.out ec61_334; omega) (show ((k61_335 : Nat) : Int) = 2 * (((TN261_314 : Nat) : Int) - ((TN : Nat) : Int)) + 6 * (((j17_lnmm_20 : Nat) : Int) - ((PN : Nat) : Int)) by have q0 := FF.out hi17_1027; have q1 := FF.out hp61_327; have q2 := FF.out ek61_335; omega) (show ((u95_1m : Nat) : Int) ≤ 38000 by have q0 := FF.out hi17_1028; have q1 := FF.out hk95_3; omega) (show (((u95_1m : Nat) : Int)).toNat < n17 by have q0 := r21_3.1; have q1 := FF.out hk18_1; have q2 := FF.out hk95_3; have q3 := hms17; omega) (lv_sub hl [1] rfl) hP hD hS
        · have ht42_1 := st42_1 _ ct42_1.1
          have mt42_1x := FT.memL ct42_1.2.1 (FSUB.tr ct42_1.2.2.2.2.1 st42_1)
          have hi42_1 : vp_in z30_1 j17_lnmm_20 := (in_of (show 0 ≤ z30_1.toInt ∧ z30_1.toInt < ((j17_lnmm_20 : Nat) : Int) by have q0 := r30_2.1; have q1 := (eq_sub ez30_1 r21_3 (show rg (1 : Int32) 1 1 from rg_l (by decide)) (by decide)); have q2 := FF.out hi17_1020; have q3 := (show (1 : Int32).toInt = 1 from by decide); omega))
          refine aq_ld hx hb hK hP 2 5 rfl rfl hi42_1 gt42_1 dX16_number__42 ?_
          refine lv_astore_n (lv' := [(2, .ref t42_1t.root), (0, .ref mm)]) hx hb dX16_number__43 rfl hl (by decide) rfl (fun ls hl => ?_)
          refine lv_aload_n hx hb dX16_number__44 rfl (lv_at hl 0 rfl) ?_
          refine lv_aload_n hx hb dX16_number__45 rfl (lv_at hl 1 rfl) ?_
          refine va_get (D := D) (ci := 16) (v := .int j17_fmm_15) (C := RX16) (T := TX16) (N := 78) hx hb (htX16 hn) (fun _ h => h) hown hK hP 1 rfl rfl 15 (by decide) (hn.get mw_1554 rfl) (fun _ h9 => h9) hfm31_1_15 dX16_number__46 ?_
          have hD0 := hD
          obtain ⟨k49_1, hk49_1⟩ := pl_get (X := [(j17_admm_14, .inl (ct 5, j17_lnmm_14, .inr (.inr (.inr (.inr j17_cmm14))))), (mm, .inr (16, m31_1)), (j17_admm_20, .inl (ct 5, j17_lnmm_20, .inr (.inr (.inr (.inr j17_cmm20))))), (j17_admm_21, .inl (ct 1, j17_lnmm_20, .inl j17_cmm21)), (j17_admm_22, .inl (ct 1, j17_lnmm_20, .inl j17_cmm22))]) (fl_mem (po := po) (F := j17_plF) ht42_1)
          refine va_put (D := D) (ci := 12) (v := .int j17_fmm_15) (ty := .int) (C := RX12) (T := TX12) (N := 7) hx hb (htX12 hn) (fun _ h => h) tyX12 tyX12_ok nmX12 hown hK hP hD hS k49_1 hk49_1 rfl 6 (by decide) (hn.get mw_1986 rfl) (fun _ h9 => h9) rfl (by decide +kernel) rfl rfl (Nat.le_of_ble_eq_true rfl) dX16_number__49 (fun H locs hP hD hS => ?_)
          have hP : va_P D vwCl ((([(j17_admm_14, .inl (ct 5, j17_lnmm_14, .inr (.inr (.inr (.inr j17_cmm14))))), (mm, .inr (16, m31_1)), (j17_admm_20, .inl (ct 5, j17_lnmm_20, .inr (.inr (.inr (.inr j17_cmm20))))), (j17_admm_21, .inl (ct 1, j17_lnmm_20, .inl j17_cmm21)), (j17_admm_22, .inl (ct 1, j17_lnmm_20, .inl j17_cmm22))] ++ ((po ++ pl_of j17_plF W.shape)) : va_W)).set k49_1 (t42_1t.root, (fent 3 (.ref t42_1x.root) .null .null .null 0) j17_fmm_15)) _ := hP
          have hD : va_D A ((([(j17_admm_14, .inl (ct 5, j17_lnmm_14, .inr (.inr (.inr (.inr j17_cmm14))))), (mm, .inr (16, m31_1)), (j17_admm_20, .inl (ct 5, j17_lnmm_20, .inr (.inr (.inr (.inr j17_cmm20))))), (j17_admm_21, .inl (ct 1, j17_lnmm_20, .inl j17_cmm21)), (j17_admm_22, .inl (ct 1, j17_lnmm_20, .inl j17_cmm22))] ++ ((po ++ pl_of j17_plF W.shape)) : va_W)).set k49_1 (t42_1t.root, (fent 3 (.ref t42_1x.root) .null .null .null 0) j17_fmm_15)) := hD
          rw [fl_set hD0 ht42_1 hk49_1] at hP hD
          obtain ⟨F49_2, eF49_2⟩ : ∃ z, z = va_up j17_plF t42_1t.root j17_fmm_15 := ⟨_, rfl⟩
          rw [← eF49_2] at hP hD
          have hP : va_P D vwCl ([(j17_admm_14, .inl (ct 5, j17_lnmm_14, .inr (.inr (.inr (.inr j17_cmm14))))), (mm, .inr (16, m31_1)), (j17_admm_20, .inl (ct 5, j17_lnmm_20, .inr (.inr (.inr (.inr j17_cmm20))))), (j17_admm_21, .inl (ct 1, j17_lnmm_20, .inl j17_cmm21)), (j17_admm_22, .inl (ct 1, j17_lnmm_20, .inl j17_cmm22))] ++ ((po ++ pl_of F49_2 W.shape))) _ := hP
          have hD : va_D A ([(j17_admm_14, .inl (ct 5, j17_lnmm_14, .inr (.inr (.inr (.inr j17_cmm14))))), (mm, .inr (16, m31_1)), (j17_admm_20, .inl (ct 5, j17_lnmm_20, .inr (.inr (.inr (.inr j17_cmm20))))), (j17_admm_21, .inl (ct 1, j17_lnmm_20, .inl j17_cmm21)), (j17_admm_22, .inl (ct 1, j17_lnmm_20, .inl j17_cmm22))] ++ ((po ++ pl_of F49_2 W.shape))) := hD
          refine lv_aload_n hx hb dX16_number__52 rfl (lv_at hl 0 rfl) ?_
          obtain ⟨k53_1, hk53_1⟩ := pl_get (X := [(j17_admm_14, .inl (ct 5, j17_lnmm_14, .inr (.inr (.inr (.inr j17_cmm14))))), (mm, .inr (16, m31_1)), (j17_admm_20, .inl (ct 5, j17_lnmm_20, .inr (.inr (.inr (.inr j17_cmm20))))), (j17_admm_21, .inl (ct 1, j17_lnmm_20, .inl j17_cmm21)), (j17_admm_22, .inl (ct 1, j17_lnmm_20, .inl j17_cmm22))]) (fl_mem (po := po) (F := F49_2) ht42_1)
          refine va_get (D := D) (ci := 12) (v := .int 3) (C := RX12) (T := TX12) (N := 7) hx hb (htX12 hn) (fun _ h => h) hown hK hP k53_1 hk53_1 rfl 0 (by decide) (hn.get mw_1975 rfl) (fun _ h9 => h9) rfl dX16_number__53 ?_
          refine lv_if_ne (tgt := 67) hx hb dX16_number__56 (by decide) (fun c56_1 => ?_) (fun c56_1 => absurd c56_1 (by decide))
          refine lv_aload_n hx hb dX16_number__67 rfl (lv_at hl 0 rfl) ?_
          obtain ⟨k68_1, hk68_1⟩ := pl_get (X := [(j17_admm_14, .inl (ct 5, j17_lnmm_14, .inr (.inr (.inr (.inr j17_cmm14))))), (mm, .inr (16, m31_1)), (j17_admm_20, .inl (ct 5, j17_lnmm_20, .inr (.inr (.inr (.inr j17_cmm20))))), (j17_admm_21, .inl (ct 1, j17_lnmm_20, .inl j17_cmm21)), (j17_admm_22, .inl (ct 1, j17_lnmm_20, .inl j17_cmm22))]) (fl_mem (po := po) (F := F49_2) ht42_1)
          refine va_get (D := D) (ci := 12) (v := .int 3) (C := RX12) (T := TX12) (N := 7) hx hb (htX12 hn) (fun _ h => h) hown hK hP k68_1 hk68_1 rfl 0 (by decide) (hn.get mw_1975 rfl) (fun _ h9 => h9) rfl dX16_number__68 ?_
          refine lv_iconst (v := 3) hx hb dX16_number__71 (by decide) ?_
          refine lv_icmp_eq (tgt := 85) hx hb dX16_number__72 (by decide) (fun c72_1 => ?_) (fun c72_1 => absurd (by decide) c72_1)
          refine lv_aload_n hx hb dX16_number__85 rfl (lv_at hl 1 rfl) ?_
          refine lv_aload_n hx hb dX16_number__86 rfl (lv_at hl 0 rfl) ?_
          obtain ⟨k87_1, hk87_1⟩ := pl_get (X := [(j17_admm_14, .inl (ct 5, j17_lnmm_14, .inr (.inr (.inr (.inr j17_cmm14))))), (mm, .inr (16, m31_1)), (j17_admm_20, .inl (ct 5, j17_lnmm_20, .inr (.inr (.inr (.inr j17_cmm20))))), (j17_admm_21, .inl (ct 1, j17_lnmm_20, .inl j17_cmm21)), (j17_admm_22, .inl (ct 1, j17_lnmm_20, .inl j17_cmm22))]) (fl_mem (po := po) (F := F49_2) ht42_1)
          refine va_get (D := D) (ci := 12) (v := .ref t42_1x.root) (C := RX12) (T := TX12) (N := 7) hx hb (htX12 hn) (fun _ h => h) hown hK hP k87_1 hk87_1 rfl 1 (by decide) (hn.get mw_1977 rfl) (fun _ h9 => h9) rfl dX16_number__87 ?_
          refine lv_iconst (v := 0) hx hb dX16_number__90 (by decide) ?_
          refine lv_iconst (v := 0) hx hb dX16_number__91 (by decide) ?_
          obtain ⟨m92_1, gm92_1⟩ : ∃ m9 : Nat, m9 + j17_accC = MC := ⟨MC - j17_accC, Nat.sub_add_cancel (Int.ofNat_le.mp (FF.out hm17_1001))⟩
          have em92_1 := FF.mk gm92_1
          obtain ⟨m92_2, gm92_2⟩ : ∃ m9 : Nat, m9 + j17_accS = MS := ⟨MS - j17_accS, Nat.sub_add_cancel (Int.ofNat_le.mp (FF.out hm17_1002))⟩
          have em92_2 := FF.mk gm92_2
          refine gt_P (pl := ((po ++ pl_of F49_2 W.shape))) (pl1 := fun _ => ((po ++ pl_of F49_2 W.shape))) (wr := [(j17_admm_14, .inl (ct 5, j17_lnmm_14, .inr (.inr (.inr (.inr j17_cmm14)))))]) [1, 2, 3, 4] [0] (rt_V (As := [.ref t42_1x.root, .int 0, .int 0]) (rest := []) (c_X16_push l hst D ct m92_1 m92_2 ((po ++ pl_of F49_2 W.shape)) mm t42_1x.root _ (0 : Int32) (0 : Int32) m31_1 j17_admm_20 j17_admm_21 j17_admm_22 z30_1 j17_cmm20 j17_lnmm_20 j17_cmm21 j17_cmm22 (FND.mem mt42_1x po F49_2).choose_spec (hsm31_1.1.trans hlen_mm) hfm31_1_20 hfm31_1_21 hfm31_1_22 r30_2 hfm31_1_23 (show ((j17_lnmm_20 : Nat) : Int) ≤ 80000 by have q0 := FF.out hb17_1004; omega) (show 64 ≤ ((j17_lnmm_20 : Nat) : Int) by have q0 := FF.out hq5; have q1 := FF.out hi17_1023; omega) (show z30_1.toInt ≤ ((j17_lnmm_20 : Nat) : Int) by have q0 := (eq_sub ez30_1 r21_3 (show rg (1 : Int32) 1 1 from rg_l (by decide)) (by decide)); have q1 := FF.out hi17_1020; have q2 := (show (1 : Int32).toInt = 1 from by decide); omega) (show 480000 ≤ ((m92_2 : Nat) : Int) + 6 * ((j17_lnmm_20 : Nat) : Int) by have q0 := FF.out hq6; have q1 := FF.out hi17_1022; have q2 := FF.out hi17_1027; have q3 := FF.out em92_2; omega) (show 240192 ≤ 64 * ((m92_1 : Nat) : Int) + 3 * ((j17_lnmm_20 : Nat) : Int) by have q0 := FF.out hq7; have q1 := FF.out hi17_1022; have q2 := FF.out hi17_1026; have q3 := FF.out em92_1; omega) (EF.el (EF.mono hg17_1017 (show z30_1.toInt ≤ j17_fmm_23.toInt by have q0 := (eq_sub ez30_1 r21_3 (show rg (1 : Int32) 1 1 from rg_l (by decide)) (by decide)); have q1 := (show (1 : Int32).toInt = 1 from by decide); omega))) _) (cb_of (n := 3) hn mw_2215 mw_13 mw_2212 mhX16_push ⟨(Nat.le_of_ble_eq_true rfl), (Nat.le_of_ble_eq_true rfl)⟩) hx hb hml hown hn hK hSK hZ hS mw_2214 mw_s204 (ci := 16) (q0 := 0) rfl rfl rfl rfl hl.1 (Nat.le_of_ble_eq_true rfl) dX16_number__92 ⟨(Nat.le_of_eq ((Nat.add_comm _ _).trans gm92_1)), (Nat.le_of_eq ((Nat.add_comm _ _).trans gm92_2))⟩) hP hD hS hA rfl rfl (by decide) (by decide) (by decide) (fun xq92_6 ux92_7 xfs92_8 H locs hpx92_9 hpexfs92_8 hP hD hS => ?_) (fun r92_3 u92_4 H locs hp92_5 hP hD hS => ?_)
          · exact hpx92_9.elim
          obtain ⟨fs2_mm92_310, a_mm_2092_311, a_mm_2192_312, a_mm_2292_313, y_mm_2392_314, k_upi92_315, PN292_316, k_upy92_317, k_upn92_318, kc92_319, kn92_320⟩ := u92_4
          obtain ⟨hp92_321, hp92_322, hp92_323, hp92_324, hp92_325, hp92_326, hp92_327, hp92_328, hp92_329, hp92_330, hp92_331, hp92_332, hp92_333, hp92_334, hp92_335⟩ := hp92_5
          have hs92_336 : SB fs_mm fs2_mm92_310 [14, 15, 20, 21, 22, 23] := SB.trans hsm31_1 hp92_321 (by decide)
          have hf92_337 : fs2_mm92_310[14]? = some (.ref j17_admm_14) := SB.get hp92_321 (by decide) hfm31_1_14
          have hf92_338 : fs2_mm92_310[15]? = some (.int j17_fmm_15) := SB.get hp92_321 (by decide) hfm31_1_15
          have hp92_325 : rg y_mm_2392_314 1 40000 := hp92_325
          replace hp92_327 : FF (y_mm_2392_314.toInt = z30_1.toInt + 1) := hp92_327
          replace hp92_328 : FF (y_mm_2392_314.toInt ≤ ((PN292_316 : Nat) : Int)) := hp92_328
          replace hp92_329 : FF (((j17_lnmm_20 : Nat) : Int) ≤ ((PN292_316 : Nat) : Int)) := hp92_329
          replace hp92_330 : FF (((PN292_316 : Nat) : Int) ≤ 80000) := hp92_330
          replace hp92_331 : FF (64 * ((kc92_319 : Nat) : Int) + 3 * ((j17_lnmm_20 : Nat) : Int) ≤ 3 * ((PN292_316 : Nat) : Int)) := hp92_331
          replace hp92_332 : FF (((kn92_320 : Nat) : Int) = 6 * (((PN292_316 : Nat) : Int) - ((j17_lnmm_20 : Nat) : Int))) := hp92_332
          have hp92_333 : AP j17_cmm20 k_upi92_315 z30_1.toInt t42_1x.root := hp92_333
          have hp92_334 : IP j17_cmm21 k_upy92_317 z30_1.toInt (0 : Int32).toInt := hp92_334
          have hp92_335 : IP j17_cmm22 k_upn92_318 z30_1.toInt (0 : Int32).toInt := hp92_335
          obtain ⟨c92_339, ec92_339⟩ : ∃ x9 : Nat, x9 = j17_accC + kc92_319 := ⟨_, rfl⟩
          have ec92_339 := FF.mk ec92_339
          have mc92_339 : FF (c92_339 ≤ MC) := FF.mk (Int.ofNat_le.mp (show ((c92_339 : Nat) : Int) ≤ ((MC : Nat) : Int) by have q0 := FF.out hq7; have q1 := FF.out hi17_1022; have q2 := FF.out hi17_1026; have q3 := FF.out hp92_330; have q4 := FF.out hp92_331; have q5 := FF.out ec92_339; omega))
          obtain ⟨k92_340, ek92_340⟩ : ∃ x9 : Nat, x9 = j17_accS + kn92_320 := ⟨_, rfl⟩
          have ek92_340 := FF.mk ek92_340
          have mk92_340 : FF (k92_340 ≤ MS) := FF.mk (Int.ofNat_le.mp (show ((k92_340 : Nat) : Int) ≤ ((MS : Nat) : Int) by have q0 := FF.out hq6; have q1 := FF.out hi17_1022; have q2 := FF.out hi17_1027; have q3 := FF.out hp92_330; have q4 := FF.out hp92_332; have q5 := FF.out ek92_340; omega))
          have hP : va_P D vwCl ([(j17_admm_14, .inl (ct 5, j17_lnmm_14, .inr (.inr (.inr (.inr j17_cmm14))))), (mm, .inr (16, fs2_mm92_310)), (a_mm_2092_311, .inl (ct 5, PN292_316, .inr (.inr (.inr (.inr k_upi92_315))))), (a_mm_2192_312, .inl (ct 1, PN292_316, .inl k_upy92_317)), (a_mm_2292_313, .inl (ct 1, PN292_316, .inl k_upn92_318))] ++ ((po ++ pl_of F49_2 W.shape))) _ := hP
          have hD : va_D A ([(j17_admm_14, .inl (ct 5, j17_lnmm_14, .inr (.inr (.inr (.inr j17_cmm14))))), (mm, .inr (16, fs2_mm92_310)), (a_mm_2092_311, .inl (ct 5, PN292_316, .inr (.inr (.inr (.inr k_upi92_315))))), (a_mm_2192_312, .inl (ct 1, PN292_316, .inl k_upy92_317)), (a_mm_2292_313, .inl (ct 1, PN292_316, .inl k_upn92_318))] ++ ((po ++ pl_of F49_2 W.shape))) := hD
          refine wv_widen (k := c92_339) (n := k92_340) (Nat.le_of_eq (FF.out ec92_339).symm) (Nat.le_of_eq (FF.out ek92_340).symm) (wv_eq (g2 := F0 m 95 ls []) rfl ?_)
          obtain ⟨u95_1m, lu95_1, u95_1⟩ := NUMP.inv pt42_1 ct42_1 eF49_2 (show j17_fmm_15.toInt = j17_fmm_15.toInt by omega) (AP.to hp92_333 (show z30_1.toInt = z30_1.toInt by omega)) (show y_mm_2392_314.toInt = z30_1.toInt + 1 by have q0 := FF.out hp92_327; omega)
          have u95_1 : NUM W F49_2 k_upi92_315 y_mm_2392_314.toInt j17_fmm_15.toInt u95_1m j17_ns j17_nc := u95_1
          have hk95_2 : FF (((u95_1m : Nat) : Int) < ((j17_nmu : Nat) : Int)) := FF.mk (Int.ofNat_lt.mpr lu95_1)
          refine lv_goto (tgt := 17) hx hb dX16_number__95 (by decide) ?_
          exact ih17 c92_339 k92_340 j17_admm_14 j17_lnmm_14 j17_cmm14 a_mm_2092_311 PN292_316 k_upi92_315 a_mm_2192_312 k_upy92_317 a_mm_2292_313 k_upn92_318 j17_nc u95_1m j17_ns F49_2 fs2_mm92_310 j17_fmm_15 y_mm_2392_314 H locs ls (show ((c92_339 : Nat) : Int) ≤ ((MC : Nat) : Int) by have q0 := FF.out hq7; have q1 := FF.out hi17_1022; have q2 := FF.out hi17_1026; have q3 := FF.out hp92_330; have q4 := FF.out hp92_331; have q5 := FF.out ec92_339; omega) (show ((k92_340 : Nat) : Int) ≤ ((MS : Nat) : Int) by have q0 := FF.out mk92_340; omega) (show ((j17_lnmm_14 : Nat) : Int) ≤ 80000 by have q0 := FF.out hi17_1022; omega) (show ((PN292_316 : Nat) : Int) ≤ 80000 by have q0 := FF.out hp92_330; omega) (show ((PN292_316 : Nat) : Int) ≤ 80000 by have q0 := FF.out hp92_330; omega) (show ((PN292_316 : Nat) : Int) ≤ 80000 by have q0 := FF.out hp92_330; omega) hs92_336 hf92_337 r17_1009 hf92_338 hp92_322 hp92_323 hp92_324 (rg_w hp92_325 (by decide)) hp92_326 u95_1 (EF.push (n2 := y_mm_2392_314.toInt) (EF.mono hg17_1017 (show z30_1.toInt ≤ j17_fmm_23.toInt by have q0 := (eq_sub ez30_1 r21_3 (show rg (1 : Int32) 1 1 from rg_l (by decide)) (by decide)); have q1 := (show (1 : Int32).toInt = 1 from by decide); omega)) hp92_333 mt42_1x (show y_mm_2392_314.toInt = z30_1.toInt + 1 by have q0 := FF.out hp92_327; omega)) hg17_1018 (show j17_fmm_15.toInt ≤ ((j17_lnmm_14 : Nat) : Int) by have q0 := FF.out hi17_1019; omega) (show y_mm_2392_314.toInt ≤ ((PN292_316 : Nat) : Int) by have q0 := FF.out hp92_328; omega) (show ((TN : Nat) : Int) ≤ ((j17_lnmm_14 : Nat) : Int) by have q0 := FF.out hi17_1021; omega) (show ((j17_lnmm_14 : Nat) : Int) ≤ 70000 by have q0 := FF.out hi17_1022; omega) (show ((PN : Nat) : Int) ≤ ((PN292_316 : Nat) : Int) by have q0 := FF.out hi17_1023; have q1 := FF.out hp92_329; omega) (show ((PN292_316 : Nat) : Int) ≤ 80000 by have q0 := FF.out hp92_330; omega) (show ((j17_lnmm_14 : Nat) : Int) = ((TN : Nat) : Int) ∨ ((j17_lnmm_14 : Nat) : Int) ≤ 2 * j17_fmm_15.toInt by have q0 := FF.out hi17_1021; have q1 := FF.out hi17_1025; omega) (show 64 * ((c92_339 : Nat) : Int) + 4 * ((TN : Nat) : Int) + 3 * ((PN : Nat) : Int) ≤ 4 * ((j17_lnmm_14 : Nat) : Int) + 3 * ((PN292_316 : Nat) : Int) by have q0 := FF.out hi17_1026; have q1 := FF.out hp92_331; have q2 := FF.out ec92_339; omega) (show ((k92_340 : Nat) : Int) = 2 * (((j17_lnmm_14 : Nat) : Int) - ((TN : Nat) : Int)) + 6 * (((PN292_316 : Nat) : Int) - ((PN : Nat) : Int)) by have q0 := FF.out hi17_1027; have q1 := FF.out hp92_332; have q2 := FF.out ek92_340; omega) (show ((u95_1m : Nat) : Int) ≤ 38000 by have q0 := FF.out hi17_1028; have q1 := FF.out hk95_2; omega) (show (((u95_1m : Nat) : Int)).toNat < n17 by have q0 := r21_3.1; have q1 := FF.out hk18_1; have q2 := FF.out hk95_2; have q3 := hms17; omega) (lv_sub hl [1] rfl) hP hD hS
        · have ht42_1 := st42_1 _ ct42_1.1
          have mt42_1x := FT.memL ct42_1.2.1 (FSUB.tr ct42_1.2.2.2.2.2.1 st42_1)
          have mt42_1y := FT.memL ct42_1.2.2.1 (FSUB.tr ct42_1.2.2.2.2.2.2.1 st42_1)
          have hi42_1 : vp_in z30_1 j17_lnmm_20 := (in_of (show 0 ≤ z30_1.toInt ∧ z30_1.toInt < ((j17_lnmm_20 : Nat) : Int) by have q0 := r30_2.1; have q1 := (eq_sub ez30_1 r21_3 (show rg (1 : Int32) 1 1 from rg_l (by decide)) (by decide)); have q2 := FF.out hi17_1020; have q3 := (show (1 : Int32).toInt = 1 from by decide); omega))
          refine aq_ld hx hb hK hP 2 5 rfl rfl hi42_1 gt42_1 dX16_number__42 ?_
          refine lv_astore_n (lv' := [(2, .ref t42_1t.root), (0, .ref mm)]) hx hb dX16_number__43 rfl hl (by decide) rfl (fun ls hl => ?_)
          refine lv_aload_n hx hb dX16_number__44 rfl (lv_at hl 0 rfl) ?_
          refine lv_aload_n hx hb dX16_number__45 rfl (lv_at hl 1 rfl) ?_
          refine va_get (D := D) (ci := 16) (v := .int j17_fmm_15) (C := RX16) (T := TX16) (N := 78) hx hb (htX16 hn) (fun _ h => h) hown hK hP 1 rfl rfl 15 (by decide) (hn.get mw_1554 rfl) (fun _ h9 => h9) hfm31_1_15 dX16_number__46 ?_
          have hD0 := hD
          obtain ⟨k49_1, hk49_1⟩ := pl_get (X := [(j17_admm_14, .inl (ct 5, j17_lnmm_14, .inr (.inr (.inr (.inr j17_cmm14))))), (mm, .inr (16, m31_1)), (j17_admm_20, .inl (ct 5, j17_lnmm_20, .inr (.inr (.inr (.inr j17_cmm20))))), (j17_admm_21, .inl (ct 1, j17_lnmm_20, .inl j17_cmm21)), (j17_admm_22, .inl (ct 1, j17_lnmm_20, .inl j17_cmm22))]) (fl_mem (po := po) (F := j17_plF) ht42_1)
          refine va_put (D := D) (ci := 12) (v := .int j17_fmm_15) (ty := .int) (C := RX12) (T := TX12) (N := 7) hx hb (htX12 hn) (fun _ h => h) tyX12 tyX12_ok nmX12 hown hK hP hD hS k49_1 hk49_1 rfl 6 (by decide) (hn.get mw_1986 rfl) (fun _ h9 => h9) rfl (by decide +kernel) rfl rfl (Nat.le_of_ble_eq_true rfl) dX16_number__49 (fun H locs hP hD hS => ?_)
          have hP : va_P D vwCl ((([(j17_admm_14, .inl (ct 5, j17_lnmm_14, .inr (.inr (.inr (.inr j17_cmm14))))), (mm, .inr (16, m31_1)), (j17_admm_20, .inl (ct 5, j17_lnmm_20, .inr (.inr (.inr (.inr j17_cmm20))))), (j17_admm_21, .inl (ct 1, j17_lnmm_20, .inl j17_cmm21)), (j17_admm_22, .inl (ct 1, j17_lnmm_20, .inl j17_cmm22))] ++ ((po ++ pl_of j17_plF W.shape)) : va_W)).set k49_1 (t42_1t.root, (fent 1 (.ref t42_1x.root) (.ref t42_1y.root) .null .null 0) j17_fmm_15)) _ := hP
          have hD : va_D A ((([(j17_admm_14, .inl (ct 5, j17_lnmm_14, .inr (.inr (.inr (.inr j17_cmm14))))), (mm, .inr (16, m31_1)), (j17_admm_20, .inl (ct 5, j17_lnmm_20, .inr (.inr (.inr (.inr j17_cmm20))))), (j17_admm_21, .inl (ct 1, j17_lnmm_20, .inl j17_cmm21)), (j17_admm_22, .inl (ct 1, j17_lnmm_20, .inl j17_cmm22))] ++ ((po ++ pl_of j17_plF W.shape)) : va_W)).set k49_1 (t42_1t.root, (fent 1 (.ref t42_1x.root) (.ref t42_1y.root) .null .null 0) j17_fmm_15)) := hD
          rw [fl_set hD0 ht42_1 hk49_1] at hP hD
          obtain ⟨F49_2, eF49_2⟩ : ∃ z, z = va_up j17_plF t42_1t.root j17_fmm_15 := ⟨_, rfl⟩
          rw [← eF49_2] at hP hD
          have hP : va_P D vwCl ([(j17_admm_14, .inl (ct 5, j17_lnmm_14, .inr (.inr (.inr (.inr j17_cmm14))))), (mm, .inr (16, m31_1)), (j17_admm_20, .inl (ct 5, j17_lnmm_20, .inr (.inr (.inr (.inr j17_cmm20))))), (j17_admm_21, .inl (ct 1, j17_lnmm_20, .inl j17_cmm21)), (j17_admm_22, .inl (ct 1, j17_lnmm_20, .inl j17_cmm22))] ++ ((po ++ pl_of F49_2 W.shape))) _ := hP
          have hD : va_D A ([(j17_admm_14, .inl (ct 5, j17_lnmm_14, .inr (.inr (.inr (.inr j17_cmm14))))), (mm, .inr (16, m31_1)), (j17_admm_20, .inl (ct 5, j17_lnmm_20, .inr (.inr (.inr (.inr j17_cmm20))))), (j17_admm_21, .inl (ct 1, j17_lnmm_20, .inl j17_cmm21)), (j17_admm_22, .inl (ct 1, j17_lnmm_20, .inl j17_cmm22))] ++ ((po ++ pl_of F49_2 W.shape))) := hD
          refine lv_aload_n hx hb dX16_number__52 rfl (lv_at hl 0 rfl) ?_
          obtain ⟨k53_1, hk53_1⟩ := pl_get (X := [(j17_admm_14, .inl (ct 5, j17_lnmm_14, .inr (.inr (.inr (.inr j17_cmm14))))), (mm, .inr (16, m31_1)), (j17_admm_20, .inl (ct 5, j17_lnmm_20, .inr (.inr (.inr (.inr j17_cmm20))))), (j17_admm_21, .inl (ct 1, j17_lnmm_20, .inl j17_cmm21)), (j17_admm_22, .inl (ct 1, j17_lnmm_20, .inl j17_cmm22))]) (fl_mem (po := po) (F := F49_2) ht42_1)
          refine va_get (D := D) (ci := 12) (v := .int 1) (C := RX12) (T := TX12) (N := 7) hx hb (htX12 hn) (fun _ h => h) hown hK hP k53_1 hk53_1 rfl 0 (by decide) (hn.get mw_1975 rfl) (fun _ h9 => h9) rfl dX16_number__53 ?_
          refine lv_if_ne (tgt := 67) hx hb dX16_number__56 (by decide) (fun c56_1 => ?_) (fun c56_1 => absurd c56_1 (by decide))
          refine lv_aload_n hx hb dX16_number__67 rfl (lv_at hl 0 rfl) ?_
          obtain ⟨k68_1, hk68_1⟩ := pl_get (X := [(j17_admm_14, .inl (ct 5, j17_lnmm_14, .inr (.inr (.inr (.inr j17_cmm14))))), (mm, .inr (16, m31_1)), (j17_admm_20, .inl (ct 5, j17_lnmm_20, .inr (.inr (.inr (.inr j17_cmm20))))), (j17_admm_21, .inl (ct 1, j17_lnmm_20, .inl j17_cmm21)), (j17_admm_22, .inl (ct 1, j17_lnmm_20, .inl j17_cmm22))]) (fl_mem (po := po) (F := F49_2) ht42_1)
          refine va_get (D := D) (ci := 12) (v := .int 1) (C := RX12) (T := TX12) (N := 7) hx hb (htX12 hn) (fun _ h => h) hown hK hP k68_1 hk68_1 rfl 0 (by decide) (hn.get mw_1975 rfl) (fun _ h9 => h9) rfl dX16_number__68 ?_
          refine lv_iconst (v := 3) hx hb dX16_number__71 (by decide) ?_
          refine lv_icmp_eq (tgt := 85) hx hb dX16_number__72 (by decide) (fun c72_1 => absurd c72_1 (by decide)) (fun c72_1 => ?_)
          refine lv_aload_n hx hb dX16_number__75 rfl (lv_at hl 1 rfl) ?_
          refine lv_aload_n hx hb dX16_number__76 rfl (lv_at hl 0 rfl) ?_
          obtain ⟨k77_1, hk77_1⟩ := pl_get (X := [(j17_admm_14, .inl (ct 5, j17_lnmm_14, .inr (.inr (.inr (.inr j17_cmm14))))), (mm, .inr (16, m31_1)), (j17_admm_20, .inl (ct 5, j17_lnmm_20, .inr (.inr (.inr (.inr j17_cmm20))))), (j17_admm_21, .inl (ct 1, j17_lnmm_20, .inl j17_cmm21)), (j17_admm_22, .inl (ct 1, j17_lnmm_20, .inl j17_cmm22))]) (fl_mem (po := po) (F := F49_2) ht42_1)
          refine va_get (D := D) (ci := 12) (v := .ref t42_1y.root) (C := RX12) (T := TX12) (N := 7) hx hb (htX12 hn) (fun _ h => h) hown hK hP k77_1 hk77_1 rfl 2 (by decide) (hn.get mw_1979 rfl) (fun _ h9 => h9) rfl dX16_number__77 ?_
          refine lv_iconst (v := 0) hx hb dX16_number__80 (by decide) ?_
          refine lv_iconst (v := 0) hx hb dX16_number__81 (by decide) ?_
          obtain ⟨m82_1, gm82_1⟩ : ∃ m9 : Nat, m9 + j17_accC = MC := ⟨MC - j17_accC, Nat.sub_add_cancel (Int.ofNat_le.mp (FF.out hm17_1001))⟩
          have em82_1 := FF.mk gm82_1
          obtain ⟨m82_2, gm82_2⟩ : ∃ m9 : Nat, m9 + j17_accS = MS := ⟨MS - j17_accS, Nat.sub_add_cancel (Int.ofNat_le.mp (FF.out hm17_1002))⟩
          have em82_2 := FF.mk gm82_2
          refine gt_P (pl := ((po ++ pl_of F49_2 W.shape))) (pl1 := fun _ => ((po ++ pl_of F49_2 W.shape))) (wr := [(j17_admm_14, .inl (ct 5, j17_lnmm_14, .inr (.inr (.inr (.inr j17_cmm14)))))]) [1, 2, 3, 4] [0] (rt_V (As := [.ref t42_1y.root, .int 0, .int 0]) (rest := []) (c_X16_push l hst D ct m82_1 m82_2 ((po ++ pl_of F49_2 W.shape)) mm t42_1y.root _ (0 : Int32) (0 : Int32) m31_1 j17_admm_20 j17_admm_21 j17_admm_22 z30_1 j17_cmm20 j17_lnmm_20 j17_cmm21 j17_cmm22 (FND.mem mt42_1y po F49_2).choose_spec (hsm31_1.1.trans hlen_mm) hfm31_1_20 hfm31_1_21 hfm31_1_22 r30_2 hfm31_1_23 (show ((j17_lnmm_20 : Nat) : Int) ≤ 80000 by have q0 := FF.out hb17_1004; omega) (show 64 ≤ ((j17_lnmm_20 : Nat) : Int) by have q0 := FF.out hq5; have q1 := FF.out hi17_1023; omega) (show z30_1.toInt ≤ ((j17_lnmm_20 : Nat) : Int) by have q0 := (eq_sub ez30_1 r21_3 (show rg (1 : Int32) 1 1 from rg_l (by decide)) (by decide)); have q1 := FF.out hi17_1020; have q2 := (show (1 : Int32).toInt = 1 from by decide); omega) (show 480000 ≤ ((m82_2 : Nat) : Int) + 6 * ((j17_lnmm_20 : Nat) : Int) by have q0 := FF.out hq6; have q1 := FF.out hi17_1022; have q2 := FF.out hi17_1027; have q3 := FF.out em82_2; omega) (show 240192 ≤ 64 * ((m82_1 : Nat) : Int) + 3 * ((j17_lnmm_20 : Nat) : Int) by have q0 := FF.out hq7; have q1 := FF.out hi17_1022; have q2 := FF.out hi17_1026; have q3 := FF.out em82_1; omega) (EF.el (EF.mono hg17_1017 (show z30_1.toInt ≤ j17_fmm_23.toInt by have q0 := (eq_sub ez30_1 r21_3 (show rg (1 : Int32) 1 1 from rg_l (by decide)) (by decide)); have q1 := (show (1 : Int32).toInt = 1 from by decide); omega))) _) (cb_of (n := 3) hn mw_2215 mw_13 mw_2212 mhX16_push ⟨(Nat.le_of_ble_eq_true rfl), (Nat.le_of_ble_eq_true rfl)⟩) hx hb hml hown hn hK hSK hZ hS mw_2214 mw_s204 (ci := 16) (q0 := 0) rfl rfl rfl rfl hl.1 (Nat.le_of_ble_eq_true rfl) dX16_number__82 ⟨(Nat.le_of_eq ((Nat.add_comm _ _).trans gm82_1)), (Nat.le_of_eq ((Nat.add_comm _ _).trans gm82_2))⟩) hP hD hS hA rfl rfl (by decide) (by decide) (by decide) (fun xq82_6 ux82_7 xfs82_8 H locs hpx82_9 hpexfs82_8 hP hD hS => ?_) (fun r82_3 u82_4 H locs hp82_5 hP hD hS => ?_)
          · exact hpx82_9.elim
          obtain ⟨fs2_mm82_310, a_mm_2082_311, a_mm_2182_312, a_mm_2282_313, y_mm_2382_314, k_upi82_315, PN282_316, k_upy82_317, k_upn82_318, kc82_319, kn82_320⟩ := u82_4
          obtain ⟨hp82_321, hp82_322, hp82_323, hp82_324, hp82_325, hp82_326, hp82_327, hp82_328, hp82_329, hp82_330, hp82_331, hp82_332, hp82_333, hp82_334, hp82_335⟩ := hp82_5
          have hs82_336 : SB fs_mm fs2_mm82_310 [14, 15, 20, 21, 22, 23] := SB.trans hsm31_1 hp82_321 (by decide)
          have hf82_337 : fs2_mm82_310[14]? = some (.ref j17_admm_14) := SB.get hp82_321 (by decide) hfm31_1_14
          have hf82_338 : fs2_mm82_310[15]? = some (.int j17_fmm_15) := SB.get hp82_321 (by decide) hfm31_1_15
          have hp82_325 : rg y_mm_2382_314 1 40000 := hp82_325
          replace hp82_327 : FF (y_mm_2382_314.toInt = z30_1.toInt + 1) := hp82_327
          replace hp82_328 : FF (y_mm_2382_314.toInt ≤ ((PN282_316 : Nat) : Int)) := hp82_328
          replace hp82_329 : FF (((j17_lnmm_20 : Nat) : Int) ≤ ((PN282_316 : Nat) : Int)) := hp82_329
          replace hp82_330 : FF (((PN282_316 : Nat) : Int) ≤ 80000) := hp82_330
          replace hp82_331 : FF (64 * ((kc82_319 : Nat) : Int) + 3 * ((j17_lnmm_20 : Nat) : Int) ≤ 3 * ((PN282_316 : Nat) : Int)) := hp82_331
          replace hp82_332 : FF (((kn82_320 : Nat) : Int) = 6 * (((PN282_316 : Nat) : Int) - ((j17_lnmm_20 : Nat) : Int))) := hp82_332
          have hp82_333 : AP j17_cmm20 k_upi82_315 z30_1.toInt t42_1y.root := hp82_333
          have hp82_334 : IP j17_cmm21 k_upy82_317 z30_1.toInt (0 : Int32).toInt := hp82_334
          have hp82_335 : IP j17_cmm22 k_upn82_318 z30_1.toInt (0 : Int32).toInt := hp82_335
          obtain ⟨c82_339, ec82_339⟩ : ∃ x9 : Nat, x9 = j17_accC + kc82_319 := ⟨_, rfl⟩
          have ec82_339 := FF.mk ec82_339
          have mc82_339 : FF (c82_339 ≤ MC) := FF.mk (Int.ofNat_le.mp (show ((c82_339 : Nat) : Int) ≤ ((MC : Nat) : Int) by have q0 := FF.out hq7; have q1 := FF.out hi17_1022; have q2 := FF.out hi17_1026; have q3 := FF.out hp82_330; have q4 := FF.out hp82_331; have q5 := FF.out ec82_339; omega))
          obtain ⟨k82_340, ek82_340⟩ : ∃ x9 : Nat, x9 = j17_accS + kn82_320 := ⟨_, rfl⟩
          have ek82_340 := FF.mk ek82_340
          have mk82_340 : FF (k82_340 ≤ MS) := FF.mk (Int.ofNat_le.mp (show ((k82_340 : Nat) : Int) ≤ ((MS : Nat) : Int) by have q0 := FF.out hq6; have q1 := FF.out hi17_1022; have q2 := FF.out hi17_1027; have q3 := FF.out hp82_330; have q4 := FF.out hp82_332; have q5 := FF.out ek82_340; omega))
          have hP : va_P D vwCl ([(j17_admm_14, .inl (ct 5, j17_lnmm_14, .inr (.inr (.inr (.inr j17_cmm14))))), (mm, .inr (16, fs2_mm82_310)), (a_mm_2082_311, .inl (ct 5, PN282_316, .inr (.inr (.inr (.inr k_upi82_315))))), (a_mm_2182_312, .inl (ct 1, PN282_316, .inl k_upy82_317)), (a_mm_2282_313, .inl (ct 1, PN282_316, .inl k_upn82_318))] ++ ((po ++ pl_of F49_2 W.shape))) _ := hP
          have hD : va_D A ([(j17_admm_14, .inl (ct 5, j17_lnmm_14, .inr (.inr (.inr (.inr j17_cmm14))))), (mm, .inr (16, fs2_mm82_310)), (a_mm_2082_311, .inl (ct 5, PN282_316, .inr (.inr (.inr (.inr k_upi82_315))))), (a_mm_2182_312, .inl (ct 1, PN282_316, .inl k_upy82_317)), (a_mm_2282_313, .inl (ct 1, PN282_316, .inl k_upn82_318))] ++ ((po ++ pl_of F49_2 W.shape))) := hD
          refine wv_widen (k := c82_339) (n := k82_340) (Nat.le_of_eq (FF.out ec82_339).symm) (Nat.le_of_eq (FF.out ek82_340).symm) (wv_eq (g2 := F0 m 85 ls []) rfl ?_)
          refine lv_aload_n hx hb dX16_number__85 rfl (lv_at hl 1 rfl) ?_
          refine lv_aload_n hx hb dX16_number__86 rfl (lv_at hl 0 rfl) ?_
          obtain ⟨k87_1, hk87_1⟩ := pl_get (X := [(j17_admm_14, .inl (ct 5, j17_lnmm_14, .inr (.inr (.inr (.inr j17_cmm14))))), (mm, .inr (16, fs2_mm82_310)), (a_mm_2082_311, .inl (ct 5, PN282_316, .inr (.inr (.inr (.inr k_upi82_315))))), (a_mm_2182_312, .inl (ct 1, PN282_316, .inl k_upy82_317)), (a_mm_2282_313, .inl (ct 1, PN282_316, .inl k_upn82_318))]) (fl_mem (po := po) (F := F49_2) ht42_1)
          refine va_get (D := D) (ci := 12) (v := .ref t42_1x.root) (C := RX12) (T := TX12) (N := 7) hx hb (htX12 hn) (fun _ h => h) hown hK hP k87_1 hk87_1 rfl 1 (by decide) (hn.get mw_1977 rfl) (fun _ h9 => h9) rfl dX16_number__87 ?_
          refine lv_iconst (v := 0) hx hb dX16_number__90 (by decide) ?_
          refine lv_iconst (v := 0) hx hb dX16_number__91 (by decide) ?_
          obtain ⟨m92_1, gm92_1⟩ : ∃ m9 : Nat, m9 + c82_339 = MC := ⟨MC - c82_339, Nat.sub_add_cancel (FF.out mc82_339)⟩
          have em92_1 := FF.mk gm92_1
          obtain ⟨m92_2, gm92_2⟩ : ∃ m9 : Nat, m9 + k82_340 = MS := ⟨MS - k82_340, Nat.sub_add_cancel (FF.out mk82_340)⟩
          have em92_2 := FF.mk gm92_2
          refine gt_P (pl := ((po ++ pl_of F49_2 W.shape))) (pl1 := fun _ => ((po ++ pl_of F49_2 W.shape))) (wr := [(j17_admm_14, .inl (ct 5, j17_lnmm_14, .inr (.inr (.inr (.inr j17_cmm14)))))]) [1, 2, 3, 4] [0] (rt_V (As := [.ref t42_1x.root, .int 0, .int 0]) (rest := []) (c_X16_push l hst D ct m92_1 m92_2 ((po ++ pl_of F49_2 W.shape)) mm t42_1x.root _ (0 : Int32) (0 : Int32) fs2_mm82_310 a_mm_2082_311 a_mm_2182_312 a_mm_2282_313 y_mm_2382_314 k_upi82_315 PN282_316 k_upy82_317 k_upn82_318 (FND.mem mt42_1x po F49_2).choose_spec (hs82_336.1.trans hlen_mm) hp82_322 hp82_323 hp82_324 (rg_of (show 0 ≤ y_mm_2382_314.toInt ∧ y_mm_2382_314.toInt ≤ 39999 by have q0 := hp82_325.1; have q1 := (eq_sub ez30_1 r21_3 (show rg (1 : Int32) 1 1 from rg_l (by decide)) (by decide)); have q2 := FF.out hi17_1028; have q3 := FF.out hk18_1; have q4 := FF.out hp82_327; have q5 := (show (1 : Int32).toInt = 1 from by decide); omega)) hp82_326 (show ((PN282_316 : Nat) : Int) ≤ 80000 by have q0 := FF.out hp82_330; omega) (show 64 ≤ ((PN282_316 : Nat) : Int) by have q0 := FF.out hq5; have q1 := FF.out hi17_1023; have q2 := FF.out hp82_329; omega) (show y_mm_2382_314.toInt ≤ ((PN282_316 : Nat) : Int) by have q0 := FF.out hp82_328; omega) (show 480000 ≤ ((m92_2 : Nat) : Int) + 6 * ((PN282_316 : Nat) : Int) by have q0 := FF.out hq6; have q1 := FF.out hi17_1022; have q2 := FF.out hi17_1027; have q3 := FF.out hp82_332; have q4 := FF.out ek82_340; have q5 := FF.out em92_2; omega) (show 240192 ≤ 64 * ((m92_1 : Nat) : Int) + 3 * ((PN282_316 : Nat) : Int) by have q0 := FF.out hq7; have q1 := FF.out hi17_1022; have q2 := FF.out hi17_1026; have q3 := FF.out hp82_331; have q4 := FF.out ec82_339; have q5 := FF.out em92_1; omega) (EF.el (EF.push (n2 := y_mm_2382_314.toInt) (EF.mono hg17_1017 (show z30_1.toInt ≤ j17_fmm_23.toInt by have q0 := (eq_sub ez30_1 r21_3 (show rg (1 : Int32) 1 1 from rg_l (by decide)) (by decide)); have q1 := (show (1 : Int32).toInt = 1 from by decide); omega)) hp82_333 mt42_1y (show y_mm_2382_314.toInt = z30_1.toInt + 1 by have q0 := FF.out hp82_327; omega))) _) (cb_of (n := 3) hn mw_2215 mw_13 mw_2212 mhX16_push ⟨(Nat.le_of_ble_eq_true rfl), (Nat.le_of_ble_eq_true rfl)⟩) hx hb hml hown hn hK hSK hZ hS mw_2214 mw_s204 (ci := 16) (q0 := 0) rfl rfl rfl rfl hl.1 (Nat.le_of_ble_eq_true rfl) dX16_number__92 ⟨(Nat.le_of_eq ((Nat.add_comm _ _).trans gm92_1)), (Nat.le_of_eq ((Nat.add_comm _ _).trans gm92_2))⟩) hP hD hS hA rfl rfl (by decide) (by decide) (by decide) (fun xq92_6 ux92_7 xfs92_8 H locs hpx92_9 hpexfs92_8 hP hD hS => ?_) (fun r92_3 u92_4 H locs hp92_5 hP hD hS => ?_)
          · exact hpx92_9.elim
          obtain ⟨fs2_mm92_310, a_mm_2092_311, a_mm_2192_312, a_mm_2292_313, y_mm_2392_314, k_upi92_315, PN292_316, k_upy92_317, k_upn92_318, kc92_319, kn92_320⟩ := u92_4
          obtain ⟨hp92_321, hp92_322, hp92_323, hp92_324, hp92_325, hp92_326, hp92_327, hp92_328, hp92_329, hp92_330, hp92_331, hp92_332, hp92_333, hp92_334, hp92_335⟩ := hp92_5
          have hs92_336 : SB fs_mm fs2_mm92_310 [14, 15, 20, 21, 22, 23] := SB.trans hs82_336 hp92_321 (by decide)
          have hf92_337 : fs2_mm92_310[14]? = some (.ref j17_admm_14) := SB.get hp92_321 (by decide) hf82_337
          have hf92_338 : fs2_mm92_310[15]? = some (.int j17_fmm_15) := SB.get hp92_321 (by decide) hf82_338
          have hp92_325 : rg y_mm_2392_314 1 40000 := hp92_325
          replace hp92_327 : FF (y_mm_2392_314.toInt = y_mm_2382_314.toInt + 1) := hp92_327
          replace hp92_328 : FF (y_mm_2392_314.toInt ≤ ((PN292_316 : Nat) : Int)) := hp92_328
          replace hp92_329 : FF (((PN282_316 : Nat) : Int) ≤ ((PN292_316 : Nat) : Int)) := hp92_329
          replace hp92_330 : FF (((PN292_316 : Nat) : Int) ≤ 80000) := hp92_330
          replace hp92_331 : FF (64 * ((kc92_319 : Nat) : Int) + 3 * ((PN282_316 : Nat) : Int) ≤ 3 * ((PN292_316 : Nat) : Int)) := hp92_331
          replace hp92_332 : FF (((kn92_320 : Nat) : Int) = 6 * (((PN292_316 : Nat) : Int) - ((PN282_316 : Nat) : Int))) := hp92_332
          have hp92_333 : AP k_upi82_315 k_upi92_315 y_mm_2382_314.toInt t42_1x.root := hp92_333
          have hp92_334 : IP k_upy82_317 k_upy92_317 y_mm_2382_314.toInt (0 : Int32).toInt := hp92_334
          have hp92_335 : IP k_upn82_318 k_upn92_318 y_mm_2382_314.toInt (0 : Int32).toInt := hp92_335
          obtain ⟨c92_339, ec92_339⟩ : ∃ x9 : Nat, x9 = c82_339 + kc92_319 := ⟨_, rfl⟩
          have ec92_339 := FF.mk ec92_339
          have mc92_339 : FF (c92_339 ≤ MC) := FF.mk (Int.ofNat_le.mp (show ((c92_339 : Nat) : Int) ≤ ((MC : Nat) : Int) by have q0 := FF.out hq7; have q1 := FF.out hi17_1022; have q2 := FF.out hi17_1026; have q3 := FF.out hp82_331; have q4 := FF.out ec82_339; have q5 := FF.out hp92_330; have q6 := FF.out hp92_331; have q7 := FF.out ec92_339; omega))
          obtain ⟨k92_340, ek92_340⟩ : ∃ x9 : Nat, x9 = k82_340 + kn92_320 := ⟨_, rfl⟩
          have ek92_340 := FF.mk ek92_340
          have mk92_340 : FF (k92_340 ≤ MS) := FF.mk (Int.ofNat_le.mp (show ((k92_340 : Nat) : Int) ≤ ((MS : Nat) : Int) by have q0 := FF.out hq6; have q1 := FF.out hi17_1022; have q2 := FF.out hi17_1027; have q3 := FF.out hp82_332; have q4 := FF.out ek82_340; have q5 := FF.out hp92_330; have q6 := FF.out hp92_332; have q7 := FF.out ek92_340; omega))
          have hP : va_P D vwCl ([(j17_admm_14, .inl (ct 5, j17_lnmm_14, .inr (.inr (.inr (.inr j17_cmm14))))), (mm, .inr (16, fs2_mm92_310)), (a_mm_2092_311, .inl (ct 5, PN292_316, .inr (.inr (.inr (.inr k_upi92_315))))), (a_mm_2192_312, .inl (ct 1, PN292_316, .inl k_upy92_317)), (a_mm_2292_313, .inl (ct 1, PN292_316, .inl k_upn92_318))] ++ ((po ++ pl_of F49_2 W.shape))) _ := hP
          have hD : va_D A ([(j17_admm_14, .inl (ct 5, j17_lnmm_14, .inr (.inr (.inr (.inr j17_cmm14))))), (mm, .inr (16, fs2_mm92_310)), (a_mm_2092_311, .inl (ct 5, PN292_316, .inr (.inr (.inr (.inr k_upi92_315))))), (a_mm_2192_312, .inl (ct 1, PN292_316, .inl k_upy92_317)), (a_mm_2292_313, .inl (ct 1, PN292_316, .inl k_upn92_318))] ++ ((po ++ pl_of F49_2 W.shape))) := hD
          refine wv_widen (k := c92_339) (n := k92_340) (Nat.le_of_eq (FF.out ec92_339).symm) (Nat.le_of_eq (FF.out ek92_340).symm) (wv_eq (g2 := F0 m 95 ls []) rfl ?_)
          obtain ⟨u95_1m, lu95_1, u95_1⟩ := NUMP.bin pt42_1 (Or.inl ct42_1) eF49_2 (show j17_fmm_15.toInt = j17_fmm_15.toInt by omega) (AP.to hp82_333 (show z30_1.toInt = z30_1.toInt by omega)) (show y_mm_2382_314.toInt = z30_1.toInt + 1 by have q0 := FF.out hp82_327; omega) hp92_333 (show y_mm_2392_314.toInt = z30_1.toInt + 2 by have q0 := FF.out hp82_327; have q1 := FF.out hp92_327; omega)
          have u95_1 : NUM W F49_2 k_upi92_315 y_mm_2392_314.toInt j17_fmm_15.toInt u95_1m j17_ns j17_nc := u95_1
          have hk95_2 : FF (((u95_1m : Nat) : Int) < ((j17_nmu : Nat) : Int)) := FF.mk (Int.ofNat_lt.mpr lu95_1)
          refine lv_goto (tgt := 17) hx hb dX16_number__95 (by decide) ?_
          exact ih17 c92_339 k92_340 j17_admm_14 j17_lnmm_14 j17_cmm14 a_mm_2092_311 PN292_316 k_upi92_315 a_mm_2192_312 k_upy92_317 a_mm_2292_313 k_upn92_318 j17_nc u95_1m j17_ns F49_2 fs2_mm92_310 j17_fmm_15 y_mm_2392_314 H locs ls (show ((c92_339 : Nat) : Int) ≤ ((MC : Nat) : Int) by have q0 := FF.out hq7; have q1 := FF.out hi17_1022; have q2 := FF.out hi17_1026; have q3 := FF.out hp82_331; have q4 := FF.out ec82_339; have q5 := FF.out hp92_330; have q6 := FF.out hp92_331; have q7 := FF.out ec92_339; omega) (show ((k92_340 : Nat) : Int) ≤ ((MS : Nat) : Int) by have q0 := FF.out mk92_340; omega) (show ((j17_lnmm_14 : Nat) : Int) ≤ 80000 by have q0 := FF.out hi17_1022; omega) (show ((PN292_316 : Nat) : Int) ≤ 80000 by have q0 := FF.out hp92_330; omega) (show ((PN292_316 : Nat) : Int) ≤ 80000 by have q0 := FF.out hp92_330; omega) (show ((PN292_316 : Nat) : Int) ≤ 80000 by have q0 := FF.out hp92_330; omega) hs92_336 hf92_337 r17_1009 hf92_338 hp92_322 hp92_323 hp92_324 (rg_w hp92_325 (by decide)) hp92_326 u95_1 (EF.push (n2 := y_mm_2392_314.toInt) (EF.push (n2 := y_mm_2382_314.toInt) (EF.mono hg17_1017 (show z30_1.toInt ≤ j17_fmm_23.toInt by have q0 := (eq_sub ez30_1 r21_3 (show rg (1 : Int32) 1 1 from rg_l (by decide)) (by decide)); have q1 := (show (1 : Int32).toInt = 1 from by decide); omega)) hp82_333 mt42_1y (show y_mm_2382_314.toInt = z30_1.toInt + 1 by have q0 := FF.out hp82_327; omega)) hp92_333 mt42_1x (show y_mm_2392_314.toInt = y_mm_2382_314.toInt + 1 by have q0 := FF.out hp92_327; omega)) hg17_1018 (show j17_fmm_15.toInt ≤ ((j17_lnmm_14 : Nat) : Int) by have q0 := FF.out hi17_1019; omega) (show y_mm_2392_314.toInt ≤ ((PN292_316 : Nat) : Int) by have q0 := FF.out hp92_328; omega) (show ((TN : Nat) : Int) ≤ ((j17_lnmm_14 : Nat) : Int) by have q0 := FF.out hi17_1021; omega) (show ((j17_lnmm_14 : Nat) : Int) ≤ 70000 by have q0 := FF.out hi17_1022; omega) (show ((PN : Nat) : Int) ≤ ((PN292_316 : Nat) : Int) by have q0 := FF.out hi17_1023; have q1 := FF.out hp82_329; have q2 := FF.out hp92_329; omega) (show ((PN292_316 : Nat) : Int) ≤ 80000 by have q0 := FF.out hp92_330; omega) (show ((j17_lnmm_14 : Nat) : Int) = ((TN : Nat) : Int) ∨ ((j17_lnmm_14 : Nat) : Int) ≤ 2 * j17_fmm_15.toInt by have q0 := FF.out hi17_1021; have q1 := FF.out hi17_1025; omega) (show 64 * ((c92_339 : Nat) : Int) + 4 * ((TN : Nat) : Int) + 3 * ((PN : Nat) : Int) ≤ 4 * ((j17_lnmm_14 : Nat) : Int) + 3 * ((PN292_316 : Nat) : Int) by have q0 := FF.out hi17_1026; have q1 := FF.out hp82_331; have q2 := FF.out ec82_339; have q3 := FF.out hp92_331; have q4 := FF.out ec92_339; omega) (show ((k92_340 : Nat) : Int) = 2 * (((j17_lnmm_14 : Nat) : Int) - ((TN : Nat) : Int)) + 6 * (((PN292_316 : Nat) : Int) - ((PN : Nat) : Int)) by have q0 := FF.out hi17_1027; have q1 := FF.out hp82_332; have q2 := FF.out ek82_340; have q3 := FF.out hp92_332; have q4 := FF.out ek92_340; omega) (show ((u95_1m : Nat) : Int) ≤ 38000 by have q0 := FF.out hi17_1028; have q1 := FF.out hk95_2; omega) (show (((u95_1m : Nat) : Int)).toNat < n17 by have q0 := r21_3.1; have q1 := FF.out hk18_1; have q2 := FF.out hk95_2; have q3 := hms17; omega) (lv_sub hl [1] rfl) hP hD hS
        · have ht42_1 := st42_1 _ ct42_1.1
          have mt42_1x := FT.memL ct42_1.2.1 (FSUB.tr ct42_1.2.2.2.2.2.1 st42_1)
          have mt42_1y := FT.memL ct42_1.2.2.1 (FSUB.tr ct42_1.2.2.2.2.2.2.1 st42_1)
          have hi42_1 : vp_in z30_1 j17_lnmm_20 := (in_of (show 0 ≤ z30_1.toInt ∧ z30_1.toInt < ((j17_lnmm_20 : Nat) : Int) by have q0 := r30_2.1; have q1 := (eq_sub ez30_1 r21_3 (show rg (1 : Int32) 1 1 from rg_l (by decide)) (by decide)); have q2 := FF.out hi17_1020; have q3 := (show (1 : Int32).toInt = 1 from by decide); omega))
          refine aq_ld hx hb hK hP 2 5 rfl rfl hi42_1 gt42_1 dX16_number__42 ?_
          refine lv_astore_n (lv' := [(2, .ref t42_1t.root), (0, .ref mm)]) hx hb dX16_number__43 rfl hl (by decide) rfl (fun ls hl => ?_)
          refine lv_aload_n hx hb dX16_number__44 rfl (lv_at hl 0 rfl) ?_
          refine lv_aload_n hx hb dX16_number__45 rfl (lv_at hl 1 rfl) ?_
          refine va_get (D := D) (ci := 16) (v := .int j17_fmm_15) (C := RX16) (T := TX16) (N := 78) hx hb (htX16 hn) (fun _ h => h) hown hK hP 1 rfl rfl 15 (by decide) (hn.get mw_1554 rfl) (fun _ h9 => h9) hfm31_1_15 dX16_number__46 ?_
          have hD0 := hD
          obtain ⟨k49_1, hk49_1⟩ := pl_get (X := [(j17_admm_14, .inl (ct 5, j17_lnmm_14, .inr (.inr (.inr (.inr j17_cmm14))))), (mm, .inr (16, m31_1)), (j17_admm_20, .inl (ct 5, j17_lnmm_20, .inr (.inr (.inr (.inr j17_cmm20))))), (j17_admm_21, .inl (ct 1, j17_lnmm_20, .inl j17_cmm21)), (j17_admm_22, .inl (ct 1, j17_lnmm_20, .inl j17_cmm22))]) (fl_mem (po := po) (F := j17_plF) ht42_1)
          refine va_put (D := D) (ci := 12) (v := .int j17_fmm_15) (ty := .int) (C := RX12) (T := TX12) (N := 7) hx hb (htX12 hn) (fun _ h => h) tyX12 tyX12_ok nmX12 hown hK hP hD hS k49_1 hk49_1 rfl 6 (by decide) (hn.get mw_1986 rfl) (fun _ h9 => h9) rfl (by decide +kernel) rfl rfl (Nat.le_of_ble_eq_true rfl) dX16_number__49 (fun H locs hP hD hS => ?_)
          have hP : va_P D vwCl ((([(j17_admm_14, .inl (ct 5, j17_lnmm_14, .inr (.inr (.inr (.inr j17_cmm14))))), (mm, .inr (16, m31_1)), (j17_admm_20, .inl (ct 5, j17_lnmm_20, .inr (.inr (.inr (.inr j17_cmm20))))), (j17_admm_21, .inl (ct 1, j17_lnmm_20, .inl j17_cmm21)), (j17_admm_22, .inl (ct 1, j17_lnmm_20, .inl j17_cmm22))] ++ ((po ++ pl_of j17_plF W.shape)) : va_W)).set k49_1 (t42_1t.root, (fent 2 (.ref t42_1x.root) (.ref t42_1y.root) .null .null 0) j17_fmm_15)) _ := hP
          have hD : va_D A ((([(j17_admm_14, .inl (ct 5, j17_lnmm_14, .inr (.inr (.inr (.inr j17_cmm14))))), (mm, .inr (16, m31_1)), (j17_admm_20, .inl (ct 5, j17_lnmm_20, .inr (.inr (.inr (.inr j17_cmm20))))), (j17_admm_21, .inl (ct 1, j17_lnmm_20, .inl j17_cmm21)), (j17_admm_22, .inl (ct 1, j17_lnmm_20, .inl j17_cmm22))] ++ ((po ++ pl_of j17_plF W.shape)) : va_W)).set k49_1 (t42_1t.root, (fent 2 (.ref t42_1x.root) (.ref t42_1y.root) .null .null 0) j17_fmm_15)) := hD
          rw [fl_set hD0 ht42_1 hk49_1] at hP hD
          obtain ⟨F49_2, eF49_2⟩ : ∃ z, z = va_up j17_plF t42_1t.root j17_fmm_15 := ⟨_, rfl⟩
          rw [← eF49_2] at hP hD
          have hP : va_P D vwCl ([(j17_admm_14, .inl (ct 5, j17_lnmm_14, .inr (.inr (.inr (.inr j17_cmm14))))), (mm, .inr (16, m31_1)), (j17_admm_20, .inl (ct 5, j17_lnmm_20, .inr (.inr (.inr (.inr j17_cmm20))))), (j17_admm_21, .inl (ct 1, j17_lnmm_20, .inl j17_cmm21)), (j17_admm_22, .inl (ct 1, j17_lnmm_20, .inl j17_cmm22))] ++ ((po ++ pl_of F49_2 W.shape))) _ := hP
          have hD : va_D A ([(j17_admm_14, .inl (ct 5, j17_lnmm_14, .inr (.inr (.inr (.inr j17_cmm14))))), (mm, .inr (16, m31_1)), (j17_admm_20, .inl (ct 5, j17_lnmm_20, .inr (.inr (.inr (.inr j17_cmm20))))), (j17_admm_21, .inl (ct 1, j17_lnmm_20, .inl j17_cmm21)), (j17_admm_22, .inl (ct 1, j17_lnmm_20, .inl j17_cmm22))] ++ ((po ++ pl_of F49_2 W.shape))) := hD
          refine lv_aload_n hx hb dX16_number__52 rfl (lv_at hl 0 rfl) ?_
          obtain ⟨k53_1, hk53_1⟩ := pl_get (X := [(j17_admm_14, .inl (ct 5, j17_lnmm_14, .inr (.inr (.inr (.inr j17_cmm14))))), (mm, .inr (16, m31_1)), (j17_admm_20, .inl (ct 5, j17_lnmm_20, .inr (.inr (.inr (.inr j17_cmm20))))), (j17_admm_21, .inl (ct 1, j17_lnmm_20, .inl j17_cmm21)), (j17_admm_22, .inl (ct 1, j17_lnmm_20, .inl j17_cmm22))]) (fl_mem (po := po) (F := F49_2) ht42_1)
          refine va_get (D := D) (ci := 12) (v := .int 2) (C := RX12) (T := TX12) (N := 7) hx hb (htX12 hn) (fun _ h => h) hown hK hP k53_1 hk53_1 rfl 0 (by decide) (hn.get mw_1975 rfl) (fun _ h9 => h9) rfl dX16_number__53 ?_
          refine lv_if_ne (tgt := 67) hx hb dX16_number__56 (by decide) (fun c56_1 => ?_) (fun c56_1 => absurd c56_1 (by decide))
          refine lv_aload_n hx hb dX16_number__67 rfl (lv_at hl 0 rfl) ?_
          obtain ⟨k68_1, hk68_1⟩ := pl_get (X := [(j17_admm_14, .inl (ct 5, j17_lnmm_14, .inr (.inr (.inr (.inr j17_cmm14))))), (mm, .inr (16, m31_1)), (j17_admm_20, .inl (ct 5, j17_lnmm_20, .inr (.inr (.inr (.inr j17_cmm20))))), (j17_admm_21, .inl (ct 1, j17_lnmm_20, .inl j17_cmm21)), (j17_admm_22, .inl (ct 1, j17_lnmm_20, .inl j17_cmm22))]) (fl_mem (po := po) (F := F49_2) ht42_1)
          refine va_get (D := D) (ci := 12) (v := .int 2) (C := RX12) (T := TX12) (N := 7) hx hb (htX12 hn) (fun _ h => h) hown hK hP k68_1 hk68_1 rfl 0 (by decide) (hn.get mw_1975 rfl) (fun _ h9 => h9) rfl dX16_number__68 ?_
          refine lv_iconst (v := 3) hx hb dX16_number__71 (by decide) ?_
          refine lv_icmp_eq (tgt := 85) hx hb dX16_number__72 (by decide) (fun c72_1 => absurd c72_1 (by decide)) (fun c72_1 => ?_)
          refine lv_aload_n hx hb dX16_number__75 rfl (lv_at hl 1 rfl) ?_
          refine lv_aload_n hx hb dX16_number__76 rfl (lv_at hl 0 rfl) ?_
          obtain ⟨k77_1, hk77_1⟩ := pl_get (X := [(j17_admm_14, .inl (ct 5, j17_lnmm_14, .inr (.inr (.inr (.inr j17_cmm14))))), (mm, .inr (16, m31_1)), (j17_admm_20, .inl (ct 5, j17_lnmm_20, .inr (.inr (.inr (.inr j17_cmm20))))), (j17_admm_21, .inl (ct 1, j17_lnmm_20, .inl j17_cmm21)), (j17_admm_22, .inl (ct 1, j17_lnmm_20, .inl j17_cmm22))]) (fl_mem (po := po) (F := F49_2) ht42_1)
          refine va_get (D := D) (ci := 12) (v := .ref t42_1y.root) (C := RX12) (T := TX12) (N := 7) hx hb (htX12 hn) (fun _ h => h) hown hK hP k77_1 hk77_1 rfl 2 (by decide) (hn.get mw_1979 rfl) (fun _ h9 => h9) rfl dX16_number__77 ?_
          refine lv_iconst (v := 0) hx hb dX16_number__80 (by decide) ?_
          refine lv_iconst (v := 0) hx hb dX16_number__81 (by decide) ?_
          obtain ⟨m82_1, gm82_1⟩ : ∃ m9 : Nat, m9 + j17_accC = MC := ⟨MC - j17_accC, Nat.sub_add_cancel (Int.ofNat_le.mp (FF.out hm17_1001))⟩
          have em82_1 := FF.mk gm82_1
          obtain ⟨m82_2, gm82_2⟩ : ∃ m9 : Nat, m9 + j17_accS = MS := ⟨MS - j17_accS, Nat.sub_add_cancel (Int.ofNat_le.mp (FF.out hm17_1002))⟩
          have em82_2 := FF.mk gm82_2
          refine gt_P (pl := ((po ++ pl_of F49_2 W.shape))) (pl1 := fun _ => ((po ++ pl_of F49_2 W.shape))) (wr := [(j17_admm_14, .inl (ct 5, j17_lnmm_14, .inr (.inr (.inr (.inr j17_cmm14)))))]) [1, 2, 3, 4] [0] (rt_V (As := [.ref t42_1y.root, .int 0, .int 0]) (rest := []) (c_X16_push l hst D ct m82_1 m82_2 ((po ++ pl_of F49_2 W.shape)) mm t42_1y.root _ (0 : Int32) (0 : Int32) m31_1 j17_admm_20 j17_admm_21 j17_admm_22 z30_1 j17_cmm20 j17_lnmm_20 j17_cmm21 j17_cmm22 (FND.mem mt42_1y po F49_2).choose_spec (hsm31_1.1.trans hlen_mm) hfm31_1_20 hfm31_1_21 hfm31_1_22 r30_2 hfm31_1_23 (show ((j17_lnmm_20 : Nat) : Int) ≤ 80000 by have q0 := FF.out hb17_1004; omega) (show 64 ≤ ((j17_lnmm_20 : Nat) : Int) by have q0 := FF.out hq5; have q1 := FF.out hi17_1023; omega) (show z30_1.toInt ≤ ((j17_lnmm_20 : Nat) : Int) by have q0 := (eq_sub ez30_1 r21_3 (show rg (1 : Int32) 1 1 from rg_l (by decide)) (by decide)); have q1 := FF.out hi17_1020; have q2 := (show (1 : Int32).toInt = 1 from by decide); omega) (show 480000 ≤ ((m82_2 : Nat) : Int) + 6 * ((j17_lnmm_20 : Nat) : Int) by have q0 := FF.out hq6; have q1 := FF.out hi17_1022; have q2 := FF.out hi17_1027; have q3 := FF.out em82_2; omega) (show 240192 ≤ 64 * ((m82_1 : Nat) : Int) + 3 * ((j17_lnmm_20 : Nat) : Int) by have q0 := FF.out hq7; have q1 := FF.out hi17_1022; have q2 := FF.out hi17_1026; have q3 := FF.out em82_1; omega) (EF.el (EF.mono hg17_1017 (show z30_1.toInt ≤ j17_fmm_23.toInt by have q0 := (eq_sub ez30_1 r21_3 (show rg (1 : Int32) 1 1 from rg_l (by decide)) (by decide)); have q1 := (show (1 : Int32).toInt = 1 from by decide); omega))) _) (cb_of (n := 3) hn mw_2215 mw_13 mw_2212 mhX16_push ⟨(Nat.le_of_ble_eq_true rfl), (Nat.le_of_ble_eq_true rfl)⟩) hx hb hml hown hn hK hSK hZ hS mw_2214 mw_s204 (ci := 16) (q0 := 0) rfl rfl rfl rfl hl.1 (Nat.le_of_ble_eq_true rfl) dX16_number__82 ⟨(Nat.le_of_eq ((Nat.add_comm _ _).trans gm82_1)), (Nat.le_of_eq ((Nat.add_comm _ _).trans gm82_2))⟩) hP hD hS hA rfl rfl (by decide) (by decide) (by decide) (fun xq82_6 ux82_7 xfs82_8 H locs hpx82_9 hpexfs82_8 hP hD hS => ?_) (fun r82_3 u82_4 H locs hp82_5 hP hD hS => ?_)
          · exact hpx82_9.elim
          obtain ⟨fs2_mm82_310, a_mm_2082_311, a_mm_2182_312, a_mm_2282_313, y_mm_2382_314, k_upi82_315, PN282_316, k_upy82_317, k_upn82_318, kc82_319, kn82_320⟩ := u82_4
          obtain ⟨hp82_321, hp82_322, hp82_323, hp82_324, hp82_325, hp82_326, hp82_327, hp82_328, hp82_329, hp82_330, hp82_331, hp82_332, hp82_333, hp82_334, hp82_335⟩ := hp82_5
          have hs82_336 : SB fs_mm fs2_mm82_310 [14, 15, 20, 21, 22, 23] := SB.trans hsm31_1 hp82_321 (by decide)
          have hf82_337 : fs2_mm82_310[14]? = some (.ref j17_admm_14) := SB.get hp82_321 (by decide) hfm31_1_14
          have hf82_338 : fs2_mm82_310[15]? = some (.int j17_fmm_15) := SB.get hp82_321 (by decide) hfm31_1_15
          have hp82_325 : rg y_mm_2382_314 1 40000 := hp82_325
          replace hp82_327 : FF (y_mm_2382_314.toInt = z30_1.toInt + 1) := hp82_327
          replace hp82_328 : FF (y_mm_2382_314.toInt ≤ ((PN282_316 : Nat) : Int)) := hp82_328
          replace hp82_329 : FF (((j17_lnmm_20 : Nat) : Int) ≤ ((PN282_316 : Nat) : Int)) := hp82_329
          replace hp82_330 : FF (((PN282_316 : Nat) : Int) ≤ 80000) := hp82_330
          replace hp82_331 : FF (64 * ((kc82_319 : Nat) : Int) + 3 * ((j17_lnmm_20 : Nat) : Int) ≤ 3 * ((PN282_316 : Nat) : Int)) := hp82_331
          replace hp82_332 : FF (((kn82_320 : Nat) : Int) = 6 * (((PN282_316 : Nat) : Int) - ((j17_lnmm_20 : Nat) : Int))) := hp82_332
          have hp82_333 : AP j17_cmm20 k_upi82_315 z30_1.toInt t42_1y.root := hp82_333
          have hp82_334 : IP j17_cmm21 k_upy82_317 z30_1.toInt (0 : Int32).toInt := hp82_334
          have hp82_335 : IP j17_cmm22 k_upn82_318 z30_1.toInt (0 : Int32).toInt := hp82_335
          obtain ⟨c82_339, ec82_339⟩ : ∃ x9 : Nat, x9 = j17_accC + kc82_319 := ⟨_, rfl⟩
          have ec82_339 := FF.mk ec82_339
          have mc82_339 : FF (c82_339 ≤ MC) := FF.mk (Int.ofNat_le.mp (show ((c82_339 : Nat) : Int) ≤ ((MC : Nat) : Int) by have q0 := FF.out hq7; have q1 := FF.out hi17_1022; have q2 := FF.out hi17_1026; have q3 := FF.out hp82_330; have q4 := FF.out hp82_331; have q5 := FF.out ec82_339; omega))
          obtain ⟨k82_340, ek82_340⟩ : ∃ x9 : Nat, x9 = j17_accS + kn82_320 := ⟨_, rfl⟩
          have ek82_340 := FF.mk ek82_340
          have mk82_340 : FF (k82_340 ≤ MS) := FF.mk (Int.ofNat_le.mp (show ((k82_340 : Nat) : Int) ≤ ((MS : Nat) : Int) by have q0 := FF.out hq6; have q1 := FF.out hi17_1022; have q2 := FF.out hi17_1027; have q3 := FF.out hp82_330; have q4 := FF.out hp82_332; have q5 := FF.out ek82_340; omega))
          have hP : va_P D vwCl ([(j17_admm_14, .inl (ct 5, j17_lnmm_14, .inr (.inr (.inr (.inr j17_cmm14))))), (mm, .inr (16, fs2_mm82_310)), (a_mm_2082_311, .inl (ct 5, PN282_316, .inr (.inr (.inr (.inr k_upi82_315))))), (a_mm_2182_312, .inl (ct 1, PN282_316, .inl k_upy82_317)), (a_mm_2282_313, .inl (ct 1, PN282_316, .inl k_upn82_318))] ++ ((po ++ pl_of F49_2 W.shape))) _ := hP
          have hD : va_D A ([(j17_admm_14, .inl (ct 5, j17_lnmm_14, .inr (.inr (.inr (.inr j17_cmm14))))), (mm, .inr (16, fs2_mm82_310)), (a_mm_2082_311, .inl (ct 5, PN282_316, .inr (.inr (.inr (.inr k_upi82_315))))), (a_mm_2182_312, .inl (ct 1, PN282_316, .inl k_upy82_317)), (a_mm_2282_313, .inl (ct 1, PN282_316, .inl k_upn82_318))] ++ ((po ++ pl_of F49_2 W.shape))) := hD
          refine wv_widen (k := c82_339) (n := k82_340) (Nat.le_of_eq (FF.out ec82_339).symm) (Nat.le_of_eq (FF.out ek82_340).symm) (wv_eq (g2 := F0 m 85 ls []) rfl ?_)
          refine lv_aload_n hx hb dX16_number__85 rfl (lv_at hl 1 rfl) ?_
          refine lv_aload_n hx hb dX16_number__86 rfl (lv_at hl 0 rfl) ?_
          obtain ⟨k87_1, hk87_1⟩ := pl_get (X := [(j17_admm_14, .inl (ct 5, j17_lnmm_14, .inr (.inr (.inr (.inr j17_cmm14))))), (mm, .inr (16, fs2_mm82_310)), (a_mm_2082_311, .inl (ct 5, PN282_316, .inr (.inr (.inr (.inr k_upi82_315))))), (a_mm_2182_312, .inl (ct 1, PN282_316, .inl k_upy82_317)), (a_mm_2282_313, .inl (ct 1, PN282_316, .inl k_upn82_318))]) (fl_mem (po := po) (F := F49_2) ht42_1)
          refine va_get (D := D) (ci := 12) (v := .ref t42_1x.root) (C := RX12) (T := TX12) (N := 7) hx hb (htX12 hn) (fun _ h => h) hown hK hP k87_1 hk87_1 rfl 1 (by decide) (hn.get mw_1977 rfl) (fun _ h9 => h9) rfl dX16_number__87 ?_
          refine lv_iconst (v := 0) hx hb dX16_number__90 (by decide) ?_
          refine lv_iconst (v := 0) hx hb dX16_number__91 (by decide) ?_
          obtain ⟨m92_1, gm92_1⟩ : ∃ m9 : Nat, m9 + c82_339 = MC := ⟨MC - c82_339, Nat.sub_add_cancel (FF.out mc82_339)⟩
          have em92_1 := FF.mk gm92_1
          obtain ⟨m92_2, gm92_2⟩ : ∃ m9 : Nat, m9 + k82_340 = MS := ⟨MS - k82_340, Nat.sub_add_cancel (FF.out mk82_340)⟩
          have em92_2 := FF.mk gm92_2
          refine gt_P (pl := ((po ++ pl_of F49_2 W.shape))) (pl1 := fun _ => ((po ++ pl_of F49_2 W.shape))) (wr := [(j17_admm_14, .inl (ct 5, j17_lnmm_14, .inr (.inr (.inr (.inr j17_cmm14)))))]) [1, 2, 3, 4] [0] (rt_V (As := [.ref t42_1x.root, .int 0, .int 0]) (rest := []) (c_X16_push l hst D ct m92_1 m92_2 ((po ++ pl_of F49_2 W.shape)) mm t42_1x.root _ (0 : Int32) (0 : Int32) fs2_mm82_310 a_mm_2082_311 a_mm_2182_312 a_mm_2282_313 y_mm_2382_314 k_upi82_315 PN282_316 k_upy82_317 k_upn82_318 (FND.mem mt42_1x po F49_2).choose_spec (hs82_336.1.trans hlen_mm) hp82_322 hp82_323 hp82_324 (rg_of (show 0 ≤ y_mm_2382_314.toInt ∧ y_mm_2382_314.toInt ≤ 39999 by have q0 := hp82_325.1; have q1 := (eq_sub ez30_1 r21_3 (show rg (1 : Int32) 1 1 from rg_l (by decide)) (by decide)); have q2 := FF.out hi17_1028; have q3 := FF.out hk18_1; have q4 := FF.out hp82_327; have q5 := (show (1 : Int32).toInt = 1 from by decide); omega)) hp82_326 (show ((PN282_316 : Nat) : Int) ≤ 80000 by have q0 := FF.out hp82_330; omega) (show 64 ≤ ((PN282_316 : Nat) : Int) by have q0 := FF.out hq5; have q1 := FF.out hi17_1023; have q2 := FF.out hp82_329; omega) (show y_mm_2382_314.toInt ≤ ((PN282_316 : Nat) : Int) by have q0 := FF.out hp82_328; omega) (show 480000 ≤ ((m92_2 : Nat) : Int) + 6 * ((PN282_316 : Nat) : Int) by have q0 := FF.out hq6; have q1 := FF.out hi17_1022; have q2 := FF.out hi17_1027; have q3 := FF.out hp82_332; have q4 := FF.out ek82_340; have q5 := FF.out em92_2; omega) (show 240192 ≤ 64 * ((m92_1 : Nat) : Int) + 3 * ((PN282_316 : Nat) : Int) by have q0 := FF.out hq7; have q1 := FF.out hi17_1022; have q2 := FF.out hi17_1026; have q3 := FF.out hp82_331; have q4 := FF.out ec82_339; have q5 := FF.out em92_1; omega) (EF.el (EF.push (n2 := y_mm_2382_314.toInt) (EF.mono hg17_1017 (show z30_1.toInt ≤ j17_fmm_23.toInt by have q0 := (eq_sub ez30_1 r21_3 (show rg (1 : Int32) 1 1 from rg_l (by decide)) (by decide)); have q1 := (show (1 : Int32).toInt = 1 from by decide); omega)) hp82_333 mt42_1y (show y_mm_2382_314.toInt = z30_1.toInt + 1 by have q0 := FF.out hp82_327; omega))) _) (cb_of (n := 3) hn mw_2215 mw_13 mw_2212 mhX16_push ⟨(Nat.le_of_ble_eq_true rfl), (Nat.le_of_ble_eq_true rfl)⟩) hx hb hml hown hn hK hSK hZ hS mw_2214 mw_s204 (ci := 16) (q0 := 0) rfl rfl rfl rfl hl.1 (Nat.le_of_ble_eq_true rfl) dX16_number__92 ⟨(Nat.le_of_eq ((Nat.add_comm _ _).trans gm92_1)), (Nat.le_of_eq ((Nat.add_comm _ _).trans gm92_2))⟩) hP hD hS hA rfl rfl (by decide) (by decide) (by decide) (fun xq92_6 ux92_7 xfs92_8 H locs hpx92_9 hpexfs92_8 hP hD hS => ?_) (fun r92_3 u92_4 H locs hp92_5 hP hD hS => ?_)
          · exact hpx92_9.elim
          obtain ⟨fs2_mm92_310, a_mm_2092_311, a_mm_2192_312, a_mm_2292_313, y_mm_2392_314, k_upi92_315, PN292_316, k_upy92_317, k_upn92_318, kc92_319, kn92_320⟩ := u92_4
          obtain ⟨hp92_321, hp92_322, hp92_323, hp92_324, hp92_325, hp92_326, hp92_327, hp92_328, hp92_329, hp92_330, hp92_331, hp92_332, hp92_333, hp92_334, hp92_335⟩ := hp92_5
          have hs92_336 : SB fs_mm fs2_mm92_310 [14, 15, 20, 21, 22, 23] := SB.trans hs82_336 hp92_321 (by decide)
          have hf92_337 : fs2_mm92_310[14]? = some (.ref j17_admm_14) := SB.get hp92_321 (by decide) hf82_337
          have hf92_338 : fs2_mm92_310[15]? = some (.int j17_fmm_15) := SB.get hp92_321 (by decide) hf82_338
          have hp92_325 : rg y_mm_2392_314 1 40000 := hp92_325
          replace hp92_327 : FF (y_mm_2392_314.toInt = y_mm_2382_314.toInt + 1) := hp92_327
          replace hp92_328 : FF (y_mm_2392_314.toInt ≤ ((PN292_316 : Nat) : Int)) := hp92_328
          replace hp92_329 : FF (((PN282_316 : Nat) : Int) ≤ ((PN292_316 : Nat) : Int)) := hp92_329
          replace hp92_330 : FF (((PN292_316 : Nat) : Int) ≤ 80000) := hp92_330
          replace hp92_331 : FF (64 * ((kc92_319 : Nat) : Int) + 3 * ((PN282_316 : Nat) : Int) ≤ 3 * ((PN292_316 : Nat) : Int)) := hp92_331
          replace hp92_332 : FF (((kn92_320 : Nat) : Int) = 6 * (((PN292_316 : Nat) : Int) - ((PN282_316 : Nat) : Int))) := hp92_332
          have hp92_333 : AP k_upi82_315 k_upi92_315 y_mm_2382_314.toInt t42_1x.root := hp92_333
          have hp92_334 : IP k_upy82_317 k_upy92_317 y_mm_2382_314.toInt (0 : Int32).toInt := hp92_334
          have hp92_335 : IP k_upn82_318 k_upn92_318 y_mm_2382_314.toInt (0 : Int32).toInt := hp92_335
          obtain ⟨c92_339, ec92_339⟩ : ∃ x9 : Nat, x9 = c82_339 + kc92_319 := ⟨_, rfl⟩
          have ec92_339 := FF.mk ec92_339
          have mc92_339 : FF (c92_339 ≤ MC) := FF.mk (Int.ofNat_le.mp (show ((c92_339 : Nat) : Int) ≤ ((MC : Nat) : Int) by have q0 := FF.out hq7; have q1 := FF.out hi17_1022; have q2 := FF.out hi17_1026; have q3 := FF.out hp82_331; have q4 := FF.out ec82_339; have q5 := FF.out hp92_330; have q6 := FF.out hp92_331; have q7 := FF.out ec92_339; omega))
          obtain ⟨k92_340, ek92_340⟩ : ∃ x9 : Nat, x9 = k82_340 + kn92_320 := ⟨_, rfl⟩
          have ek92_340 := FF.mk ek92_340
          have mk92_340 : FF (k92_340 ≤ MS) := FF.mk (Int.ofNat_le.mp (show ((k92_340 : Nat) : Int) ≤ ((MS : Nat) : Int) by have q0 := FF.out hq6; have q1 := FF.out hi17_1022; have q2 := FF.out hi17_1027; have q3 := FF.out hp82_332; have q4 := FF.out ek82_340; have q5 := FF.out hp92_330; have q6 := FF.out hp92_332; have q7 := FF.out ek92_340; omega))
          have hP : va_P D vwCl ([(j17_admm_14, .inl (ct 5, j17_lnmm_14, .inr (.inr (.inr (.inr j17_cmm14))))), (mm, .inr (16, fs2_mm92_310)), (a_mm_2092_311, .inl (ct 5, PN292_316, .inr (.inr (.inr (.inr k_upi92_315))))), (a_mm_2192_312, .inl (ct 1, PN292_316, .inl k_upy92_317)), (a_mm_2292_313, .inl (ct 1, PN292_316, .inl k_upn92_318))] ++ ((po ++ pl_of F49_2 W.shape))) _ := hP
          have hD : va_D A ([(j17_admm_14, .inl (ct 5, j17_lnmm_14, .inr (.inr (.inr (.inr j17_cmm14))))), (mm, .inr (16, fs2_mm92_310)), (a_mm_2092_311, .inl (ct 5, PN292_316, .inr (.inr (.inr (.inr k_upi92_315))))), (a_mm_2192_312, .inl (ct 1, PN292_316, .inl k_upy92_317)), (a_mm_2292_313, .inl (ct 1, PN292_316, .inl k_upn92_318))] ++ ((po ++ pl_of F49_2 W.shape))) := hD
          refine wv_widen (k := c92_339) (n := k92_340) (Nat.le_of_eq (FF.out ec92_339).symm) (Nat.le_of_eq (FF.out ek92_340).symm) (wv_eq (g2 := F0 m 95 ls []) rfl ?_)
          obtain ⟨u95_1m, lu95_1, u95_1⟩ := NUMP.bin pt42_1 (Or.inr ct42_1) eF49_2 (show j17_fmm_15.toInt = j17_fmm_15.toInt by omega) (AP.to hp82_333 (show z30_1.toInt = z30_1.toInt by omega)) (show y_mm_2382_314.toInt = z30_1.toInt + 1 by have q0 := FF.out hp82_327; omega) hp92_333 (show y_mm_2392_314.toInt = z30_1.toInt + 2 by have q0 := FF.out hp82_327; have q1 := FF.out hp92_327; omega)
          have u95_1 : NUM W F49_2 k_upi92_315 y_mm_2392_314.toInt j17_fmm_15.toInt u95_1m j17_ns j17_nc := u95_1
          have hk95_2 : FF (((u95_1m : Nat) : Int) < ((j17_nmu : Nat) : Int)) := FF.mk (Int.ofNat_lt.mpr lu95_1)
          refine lv_goto (tgt := 17) hx hb dX16_number__95 (by decide) ?_
          exact ih17 c92_339 k92_340 j17_admm_14 j17_lnmm_14 j17_cmm14 a_mm_2092_311 PN292_316 k_upi92_315 a_mm_2192_312 k_upy92_317 a_mm_2292_313 k_upn92_318 j17_nc u95_1m j17_ns F49_2 fs2_mm92_310 j17_fmm_15 y_mm_2392_314 H locs ls (show ((c92_339 : Nat) : Int) ≤ ((MC : Nat) : Int) by have q0 := FF.out hq7; have q1 := FF.out hi17_1022; have q2 := FF.out hi17_1026; have q3 := FF.out hp82_331; have q4 := FF.out ec82_339; have q5 := FF.out hp92_330; have q6 := FF.out hp92_331; have q7 := FF.out ec92_339; omega) (show ((k92_340 : Nat) : Int) ≤ ((MS : Nat) : Int) by have q0 := FF.out mk92_340; omega) (show ((j17_lnmm_14 : Nat) : Int) ≤ 80000 by have q0 := FF.out hi17_1022; omega) (show ((PN292_316 : Nat) : Int) ≤ 80000 by have q0 := FF.out hp92_330; omega) (show ((PN292_316 : Nat) : Int) ≤ 80000 by have q0 := FF.out hp92_330; omega) (show ((PN292_316 : Nat) : Int) ≤ 80000 by have q0 := FF.out hp92_330; omega) hs92_336 hf92_337 r17_1009 hf92_338 hp92_322 hp92_323 hp92_324 (rg_w hp92_325 (by decide)) hp92_326 u95_1 (EF.push (n2 := y_mm_2392_314.toInt) (EF.push (n2 := y_mm_2382_314.toInt) (EF.mono hg17_1017 (show z30_1.toInt ≤ j17_fmm_23.toInt by have q0 := (eq_sub ez30_1 r21_3 (show rg (1 : Int32) 1 1 from rg_l (by decide)) (by decide)); have q1 := (show (1 : Int32).toInt = 1 from by decide); omega)) hp82_333 mt42_1y (show y_mm_2382_314.toInt = z30_1.toInt + 1 by have q0 := FF.out hp82_327; omega)) hp92_333 mt42_1x (show y_mm_2392_314.toInt = y_mm_2382_314.toInt + 1 by have q0 := FF.out hp92_327; omega)) hg17_1018 (show j17_fmm_15.toInt ≤ ((j17_lnmm_14 : Nat) : Int) by have q0 := FF.out hi17_1019; omega) (show y_mm_2392_314.toInt ≤ ((PN292_316 : Nat) : Int) by have q0 := FF.out hp92_328; omega) (show ((TN : Nat) : Int) ≤ ((j17_lnmm_14 : Nat) : Int) by have q0 := FF.out hi17_1021; omega) (show ((j17_lnmm_14 : Nat) : Int) ≤ 70000 by have q0 := FF.out hi17_1022; omega) (show ((PN : Nat) : Int) ≤ ((PN292_316 : Nat) : Int) by have q0 := FF.out hi17_1023; have q1 := FF.out hp82_329; have q2 := FF.out hp92_329; omega) (show ((PN292_316 : Nat) : Int) ≤ 80000 by have q0 := FF.out hp92_330; omega) (show ((j17_lnmm_14 : Nat) : Int) = ((TN : Nat) : Int) ∨ ((j17_lnmm_14 : Nat) : Int) ≤ 2 * j17_fmm_15.toInt by have q0 := FF.out hi17_1021; have q1 := FF.out hi17_1025; omega) (show 64 * ((c92_339 : Nat) : Int) + 4 * ((TN : Nat) : Int) + 3 * ((PN : Nat) : Int) ≤ 4 * ((j17_lnmm_14 : Nat) : Int) + 3 * ((PN292_316 : Nat) : Int) by have q0 := FF.out hi17_1026; have q1 := FF.out hp82_331; have q2 := FF.out ec82_339; have q3 := FF.out hp92_331; have q4 := FF.out ec92_339; omega) (show ((k92_340 : Nat) : Int) = 2 * (((j17_lnmm_14 : Nat) : Int) - ((TN : Nat) : Int)) + 6 * (((PN292_316 : Nat) : Int) - ((PN : Nat) : Int)) by have q0 := FF.out hi17_1027; have q1 := FF.out hp82_332; have q2 := FF.out ek82_340; have q3 := FF.out hp92_332; have q4 := FF.out ek92_340; omega) (show ((u95_1m : Nat) : Int) ≤ 38000 by have q0 := FF.out hi17_1028; have q1 := FF.out hk95_2; omega) (show (((u95_1m : Nat) : Int)).toNat < n17 by have q0 := r21_3.1; have q1 := FF.out hk18_1; have q2 := FF.out hk95_2; have q3 := hms17; omega) (lv_sub hl [1] rfl) hP hD hS
  exact b17 _ c14_339 k14_340 ute TN g_ute a_mm_2014_311 PN214_316 k_upi14_315 a_mm_2114_312 k_upy14_317 a_mm_2214_313 k_upn14_318 0 W.fa.length 0 F fs2_mm14_310 (0 : Int32) y_mm_2314_314 H locs ls (show ((c14_339 : Nat) : Int) ≤ ((MC : Nat) : Int) by have q0 := FF.out hq2; have q1 := FF.out hq7; have q2 := FF.out hp14_330; have q3 := FF.out hp14_331; have q4 := FF.out ec14_339; omega) (show ((k14_340 : Nat) : Int) ≤ ((MS : Nat) : Int) by have q0 := FF.out mk14_340; omega) (show ((TN : Nat) : Int) ≤ 80000 by have q0 := FF.out hq2; omega) (show ((PN214_316 : Nat) : Int) ≤ 80000 by have q0 := FF.out hp14_330; omega) (show ((PN214_316 : Nat) : Int) ≤ 80000 by have q0 := FF.out hp14_330; omega) (show ((PN214_316 : Nat) : Int) ≤ 80000 by have q0 := FF.out hp14_330; omega) hs14_336 hf14_337 (rg_w (show rg (0 : Int32) 0 0 from rg_l (by decide)) (by decide)) hf14_338 hp14_322 hp14_323 hp14_324 (rg_w hp14_325 (by decide)) hp14_326 ((NUM.start ok_W hnd (AP.z hp14_333 (show (0 : Int32).toInt = 0 by have q0 := (show (0 : Int32).toInt = 0 from by decide); omega))).to (show 1 = y_mm_2314_314.toInt by have q0 := hp14_325.1; have q1 := FF.out hp14_327; have q2 := (show (0 : Int32).toInt = 0 from by decide); omega) (show 0 = (0 : Int32).toInt by have q0 := (show (0 : Int32).toInt = 0 from by decide); omega)) (EF.push (n2 := y_mm_2314_314.toInt) (EF.zero (show (0 : Int32).toInt ≤ 0 by have q0 := (show (0 : Int32).toInt = 0 from by decide); omega)) hp14_333 (FT.memL ok_W FSUB.rf) (show y_mm_2314_314.toInt = (0 : Int32).toInt + 1 by have q0 := hp14_325.1; have q1 := FF.out hp14_327; have q2 := (show (0 : Int32).toInt = 0 from by decide); omega)) (TT.zero (show (0 : Int32).toInt = 0 by have q0 := (show (0 : Int32).toInt = 0 from by decide); omega)) (show (0 : Int32).toInt ≤ ((TN : Nat) : Int) by have q0 := FF.out hq3; have q1 := (show (0 : Int32).toInt = 0 from by decide); omega) (show y_mm_2314_314.toInt ≤ ((PN214_316 : Nat) : Int) by have q0 := FF.out hq5; have q1 := FF.out hp14_327; have q2 := FF.out hp14_329; have q3 := (show (0 : Int32).toInt = 0 from by decide); omega) (show ((TN : Nat) : Int) ≤ ((TN : Nat) : Int) by omega) (show ((TN : Nat) : Int) ≤ 70000 by have q0 := FF.out hq2; omega) (show ((PN : Nat) : Int) ≤ ((PN214_316 : Nat) : Int) by have q0 := FF.out hp14_329; omega) (show ((PN214_316 : Nat) : Int) ≤ 80000 by have q0 := FF.out hp14_330; omega) (show ((TN : Nat) : Int) = ((TN : Nat) : Int) ∨ ((TN : Nat) : Int) ≤ 2 * (0 : Int32).toInt by have q0 := (show (0 : Int32).toInt = 0 from by decide); omega) (show 64 * ((c14_339 : Nat) : Int) + 4 * ((TN : Nat) : Int) + 3 * ((PN : Nat) : Int) ≤ 4 * ((TN : Nat) : Int) + 3 * ((PN214_316 : Nat) : Int) by have q0 := FF.out hp14_331; have q1 := FF.out ec14_339; omega) (show ((k14_340 : Nat) : Int) = 2 * (((TN : Nat) : Int) - ((TN : Nat) : Int)) + 6 * (((PN214_316 : Nat) : Int) - ((PN : Nat) : Int)) by have q0 := FF.out hp14_332; have q1 := FF.out ek14_340; omega) (show ((W.fa.length : Nat) : Int) ≤ 38000 by have q0 := FF.out hq0; have q1 := FF.out hfl; omega) (Nat.lt_succ_self _) (lv_sub hl [0] rfl) hP hD hS
set_option maxHeartbeats 2000000 in
theorem c_X16_wire (l : Launch) (hst : l.stackTraces = false) (D : va_G) (ct : Nat → ClassId) (MC : Nat) (MS : Nat) (po : va_W) (W : FT) (F : Nat → Int32) (mm : Nat) (fs_mm : List Value) (x_mm_15 : Int32) (uye : Nat) (uno_ : Nat) (upi : Nat) (upy : Nat) (upn : Nat) (x_mm_23 : Int32) (g_upi : Nat → Option Nat) (PN : Nat) (g_upy : Nat → Int32) (g_upn : Nat → Int32) (g_uye : Nat → Int32) (TL : Nat) (g_uno_ : Nat → Int32) (ok_W : W.ok) (hlen_mm : fs_mm.length = 78) (h_x_mm_15 : rg x_mm_15 0 34000) (hf_mm_15 : fs_mm[15]? = some (.int x_mm_15)) (hf_mm_16 : fs_mm[16]? = some (.ref uye)) (hf_mm_17 : fs_mm[17]? = some (.ref uno_)) (hf_mm_20 : fs_mm[20]? = some (.ref upi)) (hf_mm_21 : fs_mm[21]? = some (.ref upy)) (hf_mm_22 : fs_mm[22]? = some (.ref upn)) (h_x_mm_23 : rg x_mm_23 0 40000) (hf_mm_23 : fs_mm[23]? = some (.int x_mm_23)) (hq0 : ((W.sz : Nat) : Int) ≤ 38000) (hq1 : x_mm_15.toInt = ((W.tests : Nat) : Int)) (hq2 : ((PN : Nat) : Int) ≤ 80000) (hq3 : 64 ≤ ((PN : Nat) : Int)) (hq4 : 510000 ≤ ((MS : Nat) : Int) + 6 * ((PN : Nat) : Int)) (hq5 : 240400 ≤ 64 * ((MC : Nat) : Int) + 3 * ((PN : Nat) : Int)) (hg0 : NB F W 0) : KP (V := Unit) (S := List Value × Nat × Nat × Nat × Nat × Nat × Int32 × (Nat → Option Nat) × Nat × (Nat → Int32) × (Nat → Int32) × (Nat → Int32) × Nat × (Nat → Int32) × Nat × Nat) (SX := Unit) l yX16_wire cX16_wire 5 none 2 47 D ct [.ref mm, .ref W.root] ([(mm, .inr (16, fs_mm)), (upi, .inl (ct 5, PN, .inr (.inr (.inr (.inr g_upi))))), (upy, .inl (ct 1, PN, .inl g_upy)), (upn, .inl (ct 1, PN, .inl g_upn)), (uye, .inl (ct 1, TL, .inl g_uye)), (uno_, .inl (ct 1, TL, .inl g_uno_))] ++ (po ++ pl_of F W.shape)) MC MS (fun _ : Unit => none) (fun (_ : Unit) (u : List Value × Nat × Nat × Nat × Nat × Nat × Int32 × (Nat → Option Nat) × Nat × (Nat → Int32) × (Nat → Int32) × (Nat → Int32) × Nat × (Nat → Int32) × Nat × Nat) => match u with | (fs2_mm, a_mm_16, a_mm_17, a_mm_20, a_mm_21, a_mm_22, y_mm_23, k_upi, PN2, k_upy, k_upn, k_uye, TL2, k_uno_, kc, kn) => SB fs_mm fs2_mm [16, 17, 20, 21, 22, 23] ∧ fs2_mm[16]? = some (.ref a_mm_16) ∧ fs2_mm[17]? = some (.ref a_mm_17) ∧ fs2_mm[20]? = some (.ref a_mm_20) ∧ fs2_mm[21]? = some (.ref a_mm_21) ∧ fs2_mm[22]? = some (.ref a_mm_22) ∧ rg y_mm_23 0 0 ∧ fs2_mm[23]? = some (.int y_mm_23) ∧ (((TL2 : Nat) : Int) = x_mm_15.toInt) ∧ (((PN : Nat) : Int) ≤ ((PN2 : Nat) : Int)) ∧ (((PN2 : Nat) : Int) ≤ 80000) ∧ (64 * ((kc : Nat) : Int) + 3 * ((PN : Nat) : Int) ≤ 3 * ((PN2 : Nat) : Int) + 128) ∧ (((kn : Nat) : Int) = 2 * x_mm_15.toInt + 6 * (((PN2 : Nat) : Int) - ((PN : Nat) : Int))) ∧ (DN k_uye k_uno_ 0 x_mm_15.toInt)) (fun (u : List Value × Nat × Nat × Nat × Nat × Nat × Int32 × (Nat → Option Nat) × Nat × (Nat → Int32) × (Nat → Int32) × (Nat → Int32) × Nat × (Nat → Int32) × Nat × Nat) => (match u with | (fs2_mm, a_mm_16, a_mm_17, a_mm_20, a_mm_21, a_mm_22, y_mm_23, k_upi, PN2, k_upy, k_upn, k_uye, TL2, k_uno_, kc, kn) => [(mm, .inr (16, fs2_mm)), (a_mm_20, .inl (ct 5, PN2, .inr (.inr (.inr (.inr k_upi))))), (a_mm_21, .inl (ct 1, PN2, .inl k_upy)), (a_mm_22, .inl (ct 1, PN2, .inl k_upn)), (a_mm_16, .inl (ct 1, TL2, .inl k_uye)), (a_mm_17, .inl (ct 1, TL2, .inl k_uno_)), (uye, .inl (ct 1, TL, .inl g_uye)), (uno_, .inl (ct 1, TL, .inl g_uno_))]) ++ (po ++ pl_of F W.shape)) (fun (u : List Value × Nat × Nat × Nat × Nat × Nat × Int32 × (Nat → Option Nat) × Nat × (Nat → Int32) × (Nat → Int32) × (Nat → Int32) × Nat × (Nat → Int32) × Nat × Nat) => match u with | (fs2_mm, a_mm_16, a_mm_17, a_mm_20, a_mm_21, a_mm_22, y_mm_23, k_upi, PN2, k_upy, k_upn, k_uye, TL2, k_uno_, kc, kn) => kc) (fun (u : List Value × Nat × Nat × Nat × Nat × Nat × Int32 × (Nat → Option Nat) × Nat × (Nat → Int32) × (Nat → Int32) × (Nat → Int32) × Nat × (Nat → Int32) × Nat × Nat) => match u with | (fs2_mm, a_mm_16, a_mm_17, a_mm_20, a_mm_21, a_mm_22, y_mm_23, k_upi, PN2, k_upy, k_upn, k_uye, TL2, k_uno_, kc, kn) => kn) 15 RX15 peW (fun _ => False) (fun _ => ([] : va_W) ++ ((po ++ pl_of F W.shape))) (fun _ => 0) (fun _ => 0) := by
  refine KP_of (by decide) (Nat.le_of_ble_eq_true rfl) (fun p e s m below meth c A Q C0 htab hA H locs hS hP hD hQ ls hl => ?_)
  obtain ⟨hx, hb, hr, hown, hin, hml, hlocks, hn, hK, hZ, hSK⟩ := C0
  have hl : lv_has ls 5 [(0, .ref mm), (1, .ref W.root)] := hl
  replace hq0 := FF.mk hq0
  replace hq1 := FF.mk hq1
  replace hq2 := FF.mk hq2
  replace hq3 := FF.mk hq3
  replace hq4 := FF.mk hq4
  replace hq5 := FF.mk hq5
  obtain ⟨fsW, hmW⟩ := FND.mem (FT.memL ok_W FSUB.rf) po F
  have hfl := FF.mk (FT.fa_le ok_W).2
  have ht3 := FF.mk (FT.tests3 ok_W)
  have hnd := nodup_fa hD
  refine lv_aload_n hx hb dX16_wire_0 rfl (lv_at hl 0 rfl) ?_
  refine lv_aload_n hx hb dX16_wire_1 rfl (lv_at hl 0 rfl) ?_
  refine va_get (D := D) (ci := 16) (v := .int x_mm_15) (C := RX16) (T := TX16) (N := 78) hx hb (htX16 hn) (fun _ h => h) hown hK hP 0 rfl rfl 15 (by decide) (hn.get mw_1554 rfl) (fun _ h9 => h9) hf_mm_15 dX16_wire_2 ?_
  obtain ⟨n5_2, gn5_2⟩ : ∃ k : Nat, x_mm_15.toNatClampNeg = k := ⟨_, rfl⟩
  have en5_2 := FF.mk (ncn_up gn5_2 (show 0 ≤ x_mm_15.toInt by have q0 := FF.out hq1; have q1 := FF.out ht3; omega))
  obtain ⟨c5_3, ec5_3⟩ : ∃ x9 : Nat, x9 = 0 + 1 := ⟨_, rfl⟩
  have ec5_3 := FF.mk ec5_3
  have mc5_3 : FF (c5_3 ≤ MC) := FF.mk (Int.ofNat_le.mp (show ((c5_3 : Nat) : Int) ≤ ((MC : Nat) : Int) by have q0 := FF.out hq2; have q1 := FF.out hq5; have q2 := FF.out ec5_3; omega))
  obtain ⟨k5_4, ek5_4⟩ : ∃ x9 : Nat, x9 = 0 + n5_2 := ⟨_, rfl⟩
  have ek5_4 := FF.mk ek5_4
  have mk5_4 : FF (k5_4 ≤ MS) := FF.mk (Int.ofNat_le.mp (show ((k5_4 : Nat) : Int) ≤ ((MS : Nat) : Int) by have q0 := FF.out hq0; have q1 := FF.out hq1; have q2 := FF.out hq2; have q3 := FF.out hq4; have q4 := FF.out ht3; have q5 := FF.out en5_2; have q6 := FF.out ek5_4; omega))
  have nbn5_2 : (0 : Int) ≤ ((n5_2 : Nat) : Int) ∧ ((n5_2 : Nat) : Int) ≤ 34000 := ⟨Int.natCast_nonneg _, (show ((n5_2 : Nat) : Int) ≤ 34000 by have q0 := FF.out hq0; have q1 := FF.out hq1; have q2 := FF.out ht3; have q3 := FF.out en5_2; omega)⟩
  refine na_new (atype := .int) (k1 := c5_3) (n1 := k5_4) hx hb hn mw_72 rfl hK hP hD hS hA 1 rfl n5_2 (n5_2, .inl (fun _ => 0)) (fun _ => rfl) (nneg_of (show 0 ≤ x_mm_15.toInt by have q0 := FF.out hq1; have q1 := FF.out ht3; omega)) gn5_2 (show n5_2 * 4 ≤ 536870912 by have h9 := (show ((n5_2 : Nat) : Int) ≤ 134217728 by have q0 := h_x_mm_15.2; have q1 := FF.out en5_2; omega); omega) (Nat.le_of_eq (FF.out ec5_3).symm) (Nat.le_of_eq (FF.out ek5_4).symm) (FF.out mc5_3) (FF.out mk5_4) dX16_wire_5 (fun q5_1 H hP hD hS => ?_)
  have hP := hP.perm pl_last
  have hD := hD.perm pl_last
  have hP : va_P D vwCl ([(mm, .inr (16, fs_mm)), (upi, .inl (ct 5, PN, .inr (.inr (.inr (.inr g_upi))))), (upy, .inl (ct 1, PN, .inl g_upy)), (upn, .inl (ct 1, PN, .inl g_upn)), (uye, .inl (ct 1, TL, .inl g_uye)), (uno_, .inl (ct 1, TL, .inl g_uno_)), (q5_1, .inl (ct 1, n5_2, .inl (fun _ => 0)))] ++ ((po ++ pl_of F W.shape))) _ := hP
  have hD : va_D A ([(mm, .inr (16, fs_mm)), (upi, .inl (ct 5, PN, .inr (.inr (.inr (.inr g_upi))))), (upy, .inl (ct 1, PN, .inl g_upy)), (upn, .inl (ct 1, PN, .inl g_upn)), (uye, .inl (ct 1, TL, .inl g_uye)), (uno_, .inl (ct 1, TL, .inl g_uno_)), (q5_1, .inl (ct 1, n5_2, .inl (fun _ => 0)))] ++ ((po ++ pl_of F W.shape))) := hD
  refine va_put (D := D) (ci := 16) (v := .ref q5_1) (ty := .array .int) (C := RX16) (T := TX16) (N := 78) hx hb (htX16 hn) (fun _ h => h) tyX16 tyX16_ok nmX16 hown hK hP hD hS 0 rfl rfl 16 (by decide) (hn.get mw_1555 rfl) (fun _ h9 => h9) rfl (by decide +kernel) rfl rfl (by rw [hlen_mm]; decide) dX16_wire_7 (fun H locs hP hD hS => ?_)
  have hP : va_P D vwCl ([(mm, .inr (16, (fs_mm.set 16 (.ref q5_1)))), (upi, .inl (ct 5, PN, .inr (.inr (.inr (.inr g_upi))))), (upy, .inl (ct 1, PN, .inl g_upy)), (upn, .inl (ct 1, PN, .inl g_upn)), (uye, .inl (ct 1, TL, .inl g_uye)), (uno_, .inl (ct 1, TL, .inl g_uno_)), (q5_1, .inl (ct 1, n5_2, .inl (fun _ => 0)))] ++ ((po ++ pl_of F W.shape))) _ := hP
  have hD : va_D A ([(mm, .inr (16, (fs_mm.set 16 (.ref q5_1)))), (upi, .inl (ct 5, PN, .inr (.inr (.inr (.inr g_upi))))), (upy, .inl (ct 1, PN, .inl g_upy)), (upn, .inl (ct 1, PN, .inl g_upn)), (uye, .inl (ct 1, TL, .inl g_uye)), (uno_, .inl (ct 1, TL, .inl g_uno_)), (q5_1, .inl (ct 1, n5_2, .inl (fun _ => 0)))] ++ ((po ++ pl_of F W.shape))) := hD
  obtain ⟨m7_1, em7_1⟩ : ∃ z, z = (fs_mm.set 16 (.ref q5_1)) := ⟨_, rfl⟩
  rw [← em7_1] at hP hD
  have hsm7_1 : SB fs_mm m7_1 [16, 17, 20, 21, 22, 23] := by rw [em7_1]; exact SB.set (SB.rf _ _) (by decide)
  have hfm7_1_17 : m7_1[17]? = some (.ref uno_) := by rw [em7_1]; exact fs_ne (by decide) hf_mm_17
  have hfm7_1_20 : m7_1[20]? = some (.ref upi) := by rw [em7_1]; exact fs_ne (by decide) hf_mm_20
  have hfm7_1_21 : m7_1[21]? = some (.ref upy) := by rw [em7_1]; exact fs_ne (by decide) hf_mm_21
  have hfm7_1_22 : m7_1[22]? = some (.ref upn) := by rw [em7_1]; exact fs_ne (by decide) hf_mm_22
  have hfm7_1_23 : m7_1[23]? = some (.int x_mm_23) := by rw [em7_1]; exact fs_ne (by decide) hf_mm_23
  have hfm7_1_16 : m7_1[16]? = some (.ref q5_1) := by rw [em7_1]; exact fs_eq (by rw [hlen_mm]; decide)
  have hP : va_P D vwCl ([(mm, .inr (16, m7_1)), (upi, .inl (ct 5, PN, .inr (.inr (.inr (.inr g_upi))))), (upy, .inl (ct 1, PN, .inl g_upy)), (upn, .inl (ct 1, PN, .inl g_upn)), (uye, .inl (ct 1, TL, .inl g_uye)), (uno_, .inl (ct 1, TL, .inl g_uno_)), (q5_1, .inl (ct 1, n5_2, .inl (fun _ => 0)))] ++ ((po ++ pl_of F W.shape))) _ := hP
  have hD : va_D A ([(mm, .inr (16, m7_1)), (upi, .inl (ct 5, PN, .inr (.inr (.inr (.inr g_upi))))), (upy, .inl (ct 1, PN, .inl g_upy)), (upn, .inl (ct 1, PN, .inl g_upn)), (uye, .inl (ct 1, TL, .inl g_uye)), (uno_, .inl (ct 1, TL, .inl g_uno_)), (q5_1, .inl (ct 1, n5_2, .inl (fun _ => 0)))] ++ ((po ++ pl_of F W.shape))) := hD
  refine lv_aload_n hx hb dX16_wire_10 rfl (lv_at hl 0 rfl) ?_
  refine lv_aload_n hx hb dX16_wire_11 rfl (lv_at hl 0 rfl) ?_
  refine va_get (D := D) (ci := 16) (v := .int x_mm_15) (C := RX16) (T := TX16) (N := 78) hx hb (htX16 hn) (fun _ h => h) hown hK hP 0 rfl rfl 15 (by decide) (hn.get mw_1554 rfl) (fun _ h9 => h9) (SB.get hsm7_1 (by decide) hf_mm_15) dX16_wire_12 ?_
  obtain ⟨n15_2, gn15_2⟩ : ∃ k : Nat, x_mm_15.toNatClampNeg = k := ⟨_, rfl⟩
  have en15_2 := FF.mk (ncn_up gn15_2 (show 0 ≤ x_mm_15.toInt by have q0 := FF.out hq1; have q1 := FF.out ht3; omega))
  obtain ⟨c15_3, ec15_3⟩ : ∃ x9 : Nat, x9 = c5_3 + 1 := ⟨_, rfl⟩
  have ec15_3 := FF.mk ec15_3
  have mc15_3 : FF (c15_3 ≤ MC) := FF.mk (Int.ofNat_le.mp (show ((c15_3 : Nat) : Int) ≤ ((MC : Nat) : Int) by have q0 := FF.out hq2; have q1 := FF.out hq5; have q2 := FF.out ec5_3; have q3 := FF.out ec15_3; omega))
  obtain ⟨k15_4, ek15_4⟩ : ∃ x9 : Nat, x9 = k5_4 + n5_2 := ⟨_, rfl⟩
  have ek15_4 := FF.mk ek15_4
  have mk15_4 : FF (k15_4 ≤ MS) := FF.mk (Int.ofNat_le.mp (show ((k15_4 : Nat) : Int) ≤ ((MS : Nat) : Int) by have q0 := FF.out hq0; have q1 := FF.out hq1; have q2 := FF.out hq2; have q3 := FF.out hq4; have q4 := FF.out ht3; have q5 := FF.out en5_2; have q6 := FF.out ek5_4; have q7 := FF.out ek15_4; omega))
  refine na_new (atype := .int) (k1 := c15_3) (n1 := k15_4) hx hb hn mw_72 rfl hK hP hD hS hA 1 rfl n5_2 (n5_2, .inl (fun _ => 0)) (fun _ => rfl) (nneg_of (show 0 ≤ x_mm_15.toInt by have q0 := FF.out hq1; have q1 := FF.out ht3; omega)) (gn15_2.trans (Int.ofNat_inj.mp (show ((n15_2 : Nat) : Int) = ((n5_2 : Nat) : Int) by have q0 := FF.out en5_2; have q1 := FF.out en15_2; omega))) (show n5_2 * 4 ≤ 536870912 by have h9 := (show ((n5_2 : Nat) : Int) ≤ 134217728 by have q0 := h_x_mm_15.2; have q1 := FF.out en5_2; omega); omega) (Nat.le_of_eq (FF.out ec15_3).symm) (Nat.le_of_eq (FF.out ek15_4).symm) (FF.out mc15_3) (FF.out mk15_4) dX16_wire_15 (fun q15_1 H hP hD hS => ?_)
  have hP := hP.perm pl_last
  have hD := hD.perm pl_last
  have hP : va_P D vwCl ([(mm, .inr (16, m7_1)), (upi, .inl (ct 5, PN, .inr (.inr (.inr (.inr g_upi))))), (upy, .inl (ct 1, PN, .inl g_upy)), (upn, .inl (ct 1, PN, .inl g_upn)), (uye, .inl (ct 1, TL, .inl g_uye)), (uno_, .inl (ct 1, TL, .inl g_uno_)), (q5_1, .inl (ct 1, n5_2, .inl (fun _ => 0))), (q15_1, .inl (ct 1, n5_2, .inl (fun _ => 0)))] ++ ((po ++ pl_of F W.shape))) _ := hP
  have hD : va_D A ([(mm, .inr (16, m7_1)), (upi, .inl (ct 5, PN, .inr (.inr (.inr (.inr g_upi))))), (upy, .inl (ct 1, PN, .inl g_upy)), (upn, .inl (ct 1, PN, .inl g_upn)), (uye, .inl (ct 1, TL, .inl g_uye)), (uno_, .inl (ct 1, TL, .inl g_uno_)), (q5_1, .inl (ct 1, n5_2, .inl (fun _ => 0))), (q15_1, .inl (ct 1, n5_2, .inl (fun _ => 0)))] ++ ((po ++ pl_of F W.shape))) := hD
  refine va_put (D := D) (ci := 16) (v := .ref q15_1) (ty := .array .int) (C := RX16) (T := TX16) (N := 78) hx hb (htX16 hn) (fun _ h => h) tyX16 tyX16_ok nmX16 hown hK hP hD hS 0 rfl rfl 17 (by decide) (hn.get mw_1556 rfl) (fun _ h9 => h9) rfl (by decide +kernel) rfl rfl (by rw [hsm7_1.1, hlen_mm]; decide) dX16_wire_17 (fun H locs hP hD hS => ?_)
  have hP : va_P D vwCl ([(mm, .inr (16, (m7_1.set 17 (.ref q15_1)))), (upi, .inl (ct 5, PN, .inr (.inr (.inr (.inr g_upi))))), (upy, .inl (ct 1, PN, .inl g_upy)), (upn, .inl (ct 1, PN, .inl g_upn)), (uye, .inl (ct 1, TL, .inl g_uye)), (uno_, .inl (ct 1, TL, .inl g_uno_)), (q5_1, .inl (ct 1, n5_2, .inl (fun _ => 0))), (q15_1, .inl (ct 1, n5_2, .inl (fun _ => 0)))] ++ ((po ++ pl_of F W.shape))) _ := hP
  have hD : va_D A ([(mm, .inr (16, (m7_1.set 17 (.ref q15_1)))), (upi, .inl (ct 5, PN, .inr (.inr (.inr (.inr g_upi))))), (upy, .inl (ct 1, PN, .inl g_upy)), (upn, .inl (ct 1, PN, .inl g_upn)), (uye, .inl (ct 1, TL, .inl g_uye)), (uno_, .inl (ct 1, TL, .inl g_uno_)), (q5_1, .inl (ct 1, n5_2, .inl (fun _ => 0))), (q15_1, .inl (ct 1, n5_2, .inl (fun _ => 0)))] ++ ((po ++ pl_of F W.shape))) := hD
  obtain ⟨m17_1, em17_1⟩ : ∃ z, z = (m7_1.set 17 (.ref q15_1)) := ⟨_, rfl⟩
  rw [← em17_1] at hP hD
  have hsm17_1 : SB fs_mm m17_1 [16, 17, 20, 21, 22, 23] := by rw [em17_1]; exact SB.set hsm7_1 (by decide)
  have hfm17_1_20 : m17_1[20]? = some (.ref upi) := by rw [em17_1]; exact fs_ne (by decide) hfm7_1_20
  have hfm17_1_21 : m17_1[21]? = some (.ref upy) := by rw [em17_1]; exact fs_ne (by decide) hfm7_1_21
  have hfm17_1_22 : m17_1[22]? = some (.ref upn) := by rw [em17_1]; exact fs_ne (by decide) hfm7_1_22
  have hfm17_1_23 : m17_1[23]? = some (.int x_mm_23) := by rw [em17_1]; exact fs_ne (by decide) hfm7_1_23
  have hfm17_1_16 : m17_1[16]? = some (.ref q5_1) := by rw [em17_1]; exact fs_ne (by decide) hfm7_1_16
  have hfm17_1_17 : m17_1[17]? = some (.ref q15_1) := by rw [em17_1]; exact fs_eq (by rw [hsm7_1.1, hlen_mm]; decide)
  have hP : va_P D vwCl ([(mm, .inr (16, m17_1)), (upi, .inl (ct 5, PN, .inr (.inr (.inr (.inr g_upi))))), (upy, .inl (ct 1, PN, .inl g_upy)), (upn, .inl (ct 1, PN, .inl g_upn)), (uye, .inl (ct 1, TL, .inl g_uye)), (uno_, .inl (ct 1, TL, .inl g_uno_)), (q5_1, .inl (ct 1, n5_2, .inl (fun _ => 0))), (q15_1, .inl (ct 1, n5_2, .inl (fun _ => 0)))] ++ ((po ++ pl_of F W.shape))) _ := hP
  have hD : va_D A ([(mm, .inr (16, m17_1)), (upi, .inl (ct 5, PN, .inr (.inr (.inr (.inr g_upi))))), (upy, .inl (ct 1, PN, .inl g_upy)), (upn, .inl (ct 1, PN, .inl g_upn)), (uye, .inl (ct 1, TL, .inl g_uye)), (uno_, .inl (ct 1, TL, .inl g_uno_)), (q5_1, .inl (ct 1, n5_2, .inl (fun _ => 0))), (q15_1, .inl (ct 1, n5_2, .inl (fun _ => 0)))] ++ ((po ++ pl_of F W.shape))) := hD
  refine lv_aload_n hx hb dX16_wire_20 rfl (lv_at hl 0 rfl) ?_
  refine lv_iconst (v := 0) hx hb dX16_wire_21 (by decide) ?_
  refine va_put (D := D) (ci := 16) (v := .int 0) (ty := .int) (C := RX16) (T := TX16) (N := 78) hx hb (htX16 hn) (fun _ h => h) tyX16 tyX16_ok nmX16 hown hK hP hD hS 0 rfl rfl 23 (by decide) (hn.get mw_1562 rfl) (fun _ h9 => h9) rfl (by decide +kernel) rfl rfl (by rw [hsm17_1.1, hlen_mm]; decide) dX16_wire_22 (fun H locs hP hD hS => ?_)
  have hP : va_P D vwCl ([(mm, .inr (16, (m17_1.set 23 (.int 0)))), (upi, .inl (ct 5, PN, .inr (.inr (.inr (.inr g_upi))))), (upy, .inl (ct 1, PN, .inl g_upy)), (upn, .inl (ct 1, PN, .inl g_upn)), (uye, .inl (ct 1, TL, .inl g_uye)), (uno_, .inl (ct 1, TL, .inl g_uno_)), (q5_1, .inl (ct 1, n5_2, .inl (fun _ => 0))), (q15_1, .inl (ct 1, n5_2, .inl (fun _ => 0)))] ++ ((po ++ pl_of F W.shape))) _ := hP
  have hD : va_D A ([(mm, .inr (16, (m17_1.set 23 (.int 0)))), (upi, .inl (ct 5, PN, .inr (.inr (.inr (.inr g_upi))))), (upy, .inl (ct 1, PN, .inl g_upy)), (upn, .inl (ct 1, PN, .inl g_upn)), (uye, .inl (ct 1, TL, .inl g_uye)), (uno_, .inl (ct 1, TL, .inl g_uno_)), (q5_1, .inl (ct 1, n5_2, .inl (fun _ => 0))), (q15_1, .inl (ct 1, n5_2, .inl (fun _ => 0)))] ++ ((po ++ pl_of F W.shape))) := hD
  obtain ⟨m22_1, em22_1⟩ : ∃ z, z = (m17_1.set 23 (.int 0)) := ⟨_, rfl⟩
  rw [← em22_1] at hP hD
  have hsm22_1 : SB fs_mm m22_1 [16, 17, 20, 21, 22, 23] := by rw [em22_1]; exact SB.set hsm17_1 (by decide)
  have hfm22_1_20 : m22_1[20]? = some (.ref upi) := by rw [em22_1]; exact fs_ne (by decide) hfm17_1_20
  have hfm22_1_21 : m22_1[21]? = some (.ref upy) := by rw [em22_1]; exact fs_ne (by decide) hfm17_1_21
  have hfm22_1_22 : m22_1[22]? = some (.ref upn) := by rw [em22_1]; exact fs_ne (by decide) hfm17_1_22
  have hfm22_1_16 : m22_1[16]? = some (.ref q5_1) := by rw [em22_1]; exact fs_ne (by decide) hfm17_1_16
  have hfm22_1_17 : m22_1[17]? = some (.ref q15_1) := by rw [em22_1]; exact fs_ne (by decide) hfm17_1_17
  have hfm22_1_23 : m22_1[23]? = some (.int 0) := by rw [em22_1]; exact fs_eq (by rw [hsm17_1.1, hlen_mm]; decide)
  have hP : va_P D vwCl ([(mm, .inr (16, m22_1)), (upi, .inl (ct 5, PN, .inr (.inr (.inr (.inr g_upi))))), (upy, .inl (ct 1, PN, .inl g_upy)), (upn, .inl (ct 1, PN, .inl g_upn)), (uye, .inl (ct 1, TL, .inl g_uye)), (uno_, .inl (ct 1, TL, .inl g_uno_)), (q5_1, .inl (ct 1, n5_2, .inl (fun _ => 0))), (q15_1, .inl (ct 1, n5_2, .inl (fun _ => 0)))] ++ ((po ++ pl_of F W.shape))) _ := hP
  have hD : va_D A ([(mm, .inr (16, m22_1)), (upi, .inl (ct 5, PN, .inr (.inr (.inr (.inr g_upi))))), (upy, .inl (ct 1, PN, .inl g_upy)), (upn, .inl (ct 1, PN, .inl g_upn)), (uye, .inl (ct 1, TL, .inl g_uye)), (uno_, .inl (ct 1, TL, .inl g_uno_)), (q5_1, .inl (ct 1, n5_2, .inl (fun _ => 0))), (q15_1, .inl (ct 1, n5_2, .inl (fun _ => 0)))] ++ ((po ++ pl_of F W.shape))) := hD
  refine lv_aload_n hx hb dX16_wire_25 rfl (lv_at hl 0 rfl) ?_
  refine lv_aload_n hx hb dX16_wire_26 rfl (lv_at hl 1 rfl) ?_
  refine lv_iconst (v := (-1)) hx hb dX16_wire_27 (by decide) ?_
  refine lv_bipush (v := (-2)) hx hb dX16_wire_28 (by decide) ?_
  obtain ⟨m30_1, gm30_1⟩ : ∃ m9 : Nat, m9 + c15_3 = MC := ⟨MC - c15_3, Nat.sub_add_cancel (FF.out mc15_3)⟩
  have em30_1 := FF.mk gm30_1
  obtain ⟨m30_2, gm30_2⟩ : ∃ m9 : Nat, m9 + k15_4 = MS := ⟨MS - k15_4, Nat.sub_add_cancel (FF.out mk15_4)⟩
  have em30_2 := FF.mk gm30_2
  refine gt_P (pl := ((po ++ pl_of F W.shape))) (pl1 := fun _ => ((po ++ pl_of F W.shape))) (wr := [(uye, .inl (ct 1, TL, .inl g_uye)), (uno_, .inl (ct 1, TL, .inl g_uno_)), (q5_1, .inl (ct 1, n5_2, .inl (fun _ => 0))), (q15_1, .inl (ct 1, n5_2, .inl (fun _ => 0)))]) [0, 1, 2, 3] [4, 5, 6, 7] (rt_V (As := [.ref W.root, .int (-1), .int (-2)]) (rest := []) (c_X16_push l hst D ct m30_1 m30_2 ((po ++ pl_of F W.shape)) mm W.root _ ((-1) : Int32) ((-2) : Int32) m22_1 upi upy upn (0 : Int32) g_upi PN g_upy g_upn hmW (hsm22_1.1.trans hlen_mm) hfm22_1_20 hfm22_1_21 hfm22_1_22 (rg_w (show rg (0 : Int32) 0 0 from rg_l (by decide)) (by decide)) hfm22_1_23 (show ((PN : Nat) : Int) ≤ 80000 by have q0 := FF.out hq2; omega) (show 64 ≤ ((PN : Nat) : Int) by have q0 := FF.out hq3; omega) (show (0 : Int32).toInt ≤ ((PN : Nat) : Int) by have q0 := FF.out hq3; have q1 := (show (0 : Int32).toInt = 0 from by decide); omega) (show 480000 ≤ ((m30_2 : Nat) : Int) + 6 * ((PN : Nat) : Int) by have q0 := FF.out hq0; have q1 := FF.out hq1; have q2 := FF.out hq4; have q3 := FF.out ht3; have q4 := FF.out en5_2; have q5 := FF.out ek5_4; have q6 := FF.out ek15_4; have q7 := FF.out em30_2; omega) (show 240192 ≤ 64 * ((m30_1 : Nat) : Int) + 3 * ((PN : Nat) : Int) by have q0 := FF.out hq5; have q1 := FF.out ec5_3; have q2 := FF.out ec15_3; have q3 := FF.out em30_1; omega) (EL.zero (show (0 : Int32).toInt ≤ 0 by have q0 := (show (0 : Int32).toInt = 0 from by decide); omega)) _) (cb_of (n := 3) hn mw_2215 mw_13 mw_2212 mhX16_push ⟨(Nat.le_of_ble_eq_true rfl), (Nat.le_of_ble_eq_true rfl)⟩) hx hb hml hown hn hK hSK hZ hS mw_2214 mw_s204 (ci := 16) (q0 := 0) rfl rfl rfl rfl hl.1 (Nat.le_of_ble_eq_true rfl) dX16_wire_30 ⟨(Nat.le_of_eq ((Nat.add_comm _ _).trans gm30_1)), (Nat.le_of_eq ((Nat.add_comm _ _).trans gm30_2))⟩) hP hD hS hA rfl rfl (by decide) (by decide) (by decide) (fun xq30_6 ux30_7 xfs30_8 H locs hpx30_9 hpexfs30_8 hP hD hS => ?_) (fun r30_3 u30_4 H locs hp30_5 hP hD hS => ?_)
  · exact hpx30_9.elim
  obtain ⟨fs2_mm30_310, a_mm_2030_311, a_mm_2130_312, a_mm_2230_313, y_mm_2330_314, k_upi30_315, PN230_316, k_upy30_317, k_upn30_318, kc30_319, kn30_320⟩ := u30_4
  obtain ⟨hp30_321, hp30_322, hp30_323, hp30_324, hp30_325, hp30_326, hp30_327, hp30_328, hp30_329, hp30_330, hp30_331, hp30_332, hp30_333, hp30_334, hp30_335⟩ := hp30_5
  have hs30_336 : SB fs_mm fs2_mm30_310 [16, 17, 20, 21, 22, 23] := SB.trans hsm22_1 hp30_321 (by decide)
  have hf30_337 : fs2_mm30_310[16]? = some (.ref q5_1) := SB.get hp30_321 (by decide) hfm22_1_16
  have hf30_338 : fs2_mm30_310[17]? = some (.ref q15_1) := SB.get hp30_321 (by decide) hfm22_1_17
  have hp30_325 : rg y_mm_2330_314 1 40000 := hp30_325
  replace hp30_327 : FF (y_mm_2330_314.toInt = (0 : Int32).toInt + 1) := hp30_327
  replace hp30_328 : FF (y_mm_2330_314.toInt ≤ ((PN230_316 : Nat) : Int)) := hp30_328
  replace hp30_329 : FF (((PN : Nat) : Int) ≤ ((PN230_316 : Nat) : Int)) := hp30_329
  replace hp30_330 : FF (((PN230_316 : Nat) : Int) ≤ 80000) := hp30_330
  replace hp30_331 : FF (64 * ((kc30_319 : Nat) : Int) + 3 * ((PN : Nat) : Int) ≤ 3 * ((PN230_316 : Nat) : Int)) := hp30_331
  replace hp30_332 : FF (((kn30_320 : Nat) : Int) = 6 * (((PN230_316 : Nat) : Int) - ((PN : Nat) : Int))) := hp30_332
  have hp30_333 : AP g_upi k_upi30_315 (0 : Int32).toInt W.root := hp30_333
  have hp30_334 : IP g_upy k_upy30_317 (0 : Int32).toInt (-1 : Int32).toInt := hp30_334
  have hp30_335 : IP g_upn k_upn30_318 (0 : Int32).toInt (-2 : Int32).toInt := hp30_335
  obtain ⟨c30_339, ec30_339⟩ : ∃ x9 : Nat, x9 = c15_3 + kc30_319 := ⟨_, rfl⟩
  have ec30_339 := FF.mk ec30_339
  have mc30_339 : FF (c30_339 ≤ MC) := FF.mk (Int.ofNat_le.mp (show ((c30_339 : Nat) : Int) ≤ ((MC : Nat) : Int) by have q0 := FF.out hq5; have q1 := FF.out ec5_3; have q2 := FF.out ec15_3; have q3 := FF.out hp30_330; have q4 := FF.out hp30_331; have q5 := FF.out ec30_339; omega))
  obtain ⟨k30_340, ek30_340⟩ : ∃ x9 : Nat, x9 = k15_4 + kn30_320 := ⟨_, rfl⟩
  have ek30_340 := FF.mk ek30_340
  have mk30_340 : FF (k30_340 ≤ MS) := FF.mk (Int.ofNat_le.mp (show ((k30_340 : Nat) : Int) ≤ ((MS : Nat) : Int) by have q0 := FF.out hq0; have q1 := FF.out hq1; have q2 := FF.out hq4; have q3 := FF.out ht3; have q4 := FF.out en5_2; have q5 := FF.out ek5_4; have q6 := FF.out ek15_4; have q7 := FF.out hp30_330; have q8 := FF.out hp30_332; have q9 := FF.out ek30_340; omega))
  have hP : va_P D vwCl ([(uye, .inl (ct 1, TL, .inl g_uye)), (uno_, .inl (ct 1, TL, .inl g_uno_)), (q5_1, .inl (ct 1, n5_2, .inl (fun _ => 0))), (q15_1, .inl (ct 1, n5_2, .inl (fun _ => 0))), (mm, .inr (16, fs2_mm30_310)), (a_mm_2030_311, .inl (ct 5, PN230_316, .inr (.inr (.inr (.inr k_upi30_315))))), (a_mm_2130_312, .inl (ct 1, PN230_316, .inl k_upy30_317)), (a_mm_2230_313, .inl (ct 1, PN230_316, .inl k_upn30_318))] ++ ((po ++ pl_of F W.shape))) _ := hP
  have hD : va_D A ([(uye, .inl (ct 1, TL, .inl g_uye)), (uno_, .inl (ct 1, TL, .inl g_uno_)), (q5_1, .inl (ct 1, n5_2, .inl (fun _ => 0))), (q15_1, .inl (ct 1, n5_2, .inl (fun _ => 0))), (mm, .inr (16, fs2_mm30_310)), (a_mm_2030_311, .inl (ct 5, PN230_316, .inr (.inr (.inr (.inr k_upi30_315))))), (a_mm_2130_312, .inl (ct 1, PN230_316, .inl k_upy30_317)), (a_mm_2230_313, .inl (ct 1, PN230_316, .inl k_upn30_318))] ++ ((po ++ pl_of F W.shape))) := hD
  refine wv_widen (k := c30_339) (n := k30_340) (Nat.le_of_eq (FF.out ec30_339).symm) (Nat.le_of_eq (FF.out ek30_340).symm) (wv_eq (g2 := F0 m 33 ls []) rfl ?_)
  have b33 : ∀ (n33 : Nat) (j33_accC : Nat) (j33_accS : Nat) (j33_admm_20 : Nat) (j33_lnmm_20 : Nat) (j33_cmm20 : Nat → Option Nat) (j33_admm_21 : Nat) (j33_cmm21 : Nat → Int32) (j33_admm_22 : Nat) (j33_cmm22 : Nat → Int32) (j33_nmu : Nat) (j33_cq5_1 : Nat → Int32) (j33_cq15_1 : Nat → Int32) (j33_amm : List Value) (j33_fmm_23 : Int32) (H : Heap) (locs : List Loc) (ls : Array Slot), (FF (((j33_accC : Nat) : Int) ≤ ((MC : Nat) : Int))) → (FF (((j33_accS : Nat) : Int) ≤ ((MS : Nat) : Int))) → (FF (((j33_lnmm_20 : Nat) : Int) ≤ 80000)) → (FF (((j33_lnmm_20 : Nat) : Int) ≤ 80000)) → (FF (((j33_lnmm_20 : Nat) : Int) ≤ 80000)) → (SB fs_mm j33_amm [16, 17, 20, 21, 22, 23]) → (j33_amm[16]? = some (.ref q5_1)) → (j33_amm[17]? = some (.ref q15_1)) → (j33_amm[20]? = some (.ref j33_admm_20)) → (j33_amm[21]? = some (.ref j33_admm_21)) → (j33_amm[22]? = some (.ref j33_admm_22)) → (rg j33_fmm_23 0 40000) → (j33_amm[23]? = some (.int j33_fmm_23)) → (WIR W F j33_cmm20 j33_cmm21 j33_cmm22 j33_fmm_23.toInt j33_cq5_1 j33_cq15_1 x_mm_15.toInt j33_nmu) → (EF W.shape j33_cmm20 j33_fmm_23.toInt) → (FF (j33_fmm_23.toInt ≤ ((j33_lnmm_20 : Nat) : Int))) → (FF (((PN : Nat) : Int) ≤ ((j33_lnmm_20 : Nat) : Int))) → (FF (((j33_lnmm_20 : Nat) : Int) ≤ 80000)) → (FF (64 * ((j33_accC : Nat) : Int) + 3 * ((PN : Nat) : Int) ≤ 3 * ((j33_lnmm_20 : Nat) : Int) + 128)) → (FF (((j33_accS : Nat) : Int) = 2 * x_mm_15.toInt + 6 * (((j33_lnmm_20 : Nat) : Int) - ((PN : Nat) : Int)))) → (FF (((j33_nmu : Nat) : Int) ≤ 38000)) → (((j33_nmu : Nat) : Int)).toNat < n33 → lv_has ls 5 [(0, .ref mm)] → va_P D vwCl ([(uye, .inl (ct 1, TL, .inl g_uye)), (uno_, .inl (ct 1, TL, .inl g_uno_)), (q5_1, .inl (ct 1, n5_2, .inl j33_cq5_1)), (q15_1, .inl (ct 1, n5_2, .inl j33_cq15_1)), (mm, .inr (16, j33_amm)), (j33_admm_20, .inl (ct 5, j33_lnmm_20, .inr (.inr (.inr (.inr j33_cmm20))))), (j33_admm_21, .inl (ct 1, j33_lnmm_20, .inl j33_cmm21)), (j33_admm_22, .inl (ct 1, j33_lnmm_20, .inl j33_cmm22))] ++ ((po ++ pl_of F W.shape))) H → va_D A ([(uye, .inl (ct 1, TL, .inl g_uye)), (uno_, .inl (ct 1, TL, .inl g_uno_)), (q5_1, .inl (ct 1, n5_2, .inl j33_cq5_1)), (q15_1, .inl (ct 1, n5_2, .inl j33_cq15_1)), (mm, .inr (16, j33_amm)), (j33_admm_20, .inl (ct 5, j33_lnmm_20, .inr (.inr (.inr (.inr j33_cmm20))))), (j33_admm_21, .inl (ct 1, j33_lnmm_20, .inl j33_cmm21)), (j33_admm_22, .inl (ct 1, j33_lnmm_20, .inl j33_cmm22))] ++ ((po ++ pl_of F W.shape))) → va_S A s.heap H locs → WV p l e ({ frames := 2, cells := MC, slots := MS, locals := 47 }) s m [.ref mm, .ref W.root].toArray below meth c H locs j33_accC j33_accS Q (F0 m 33 ls []) := by
    intro n33
    induction n33 with
    | zero => intros; rename_i hms _ _ _ _; exact absurd hms (Nat.not_lt_zero _)
    | succ n33 ih33 =>
      intro j33_accC j33_accS j33_admm_20 j33_lnmm_20 j33_cmm20 j33_admm_21 j33_cmm21 j33_admm_22 j33_cmm22 j33_nmu j33_cq5_1 j33_cq15_1 j33_amm j33_fmm_23 H locs ls hm33_1001 hm33_1002 hb33_1003 hb33_1004 hb33_1005 hs33_1006 hf33_1007 hf33_1008 hf33_1009 hf33_1010 hf33_1011 r33_1012 hf33_1013 hg33_1014 hg33_1015 hi33_1016 hi33_1017 hi33_1018 hi33_1019 hi33_1020 hi33_1021 hms33 hl hP hD hS
      refine lv_aload_n hx hb dX16_wire_33 rfl (lv_at hl 0 rfl) ?_
      have hk34_1 : FF (j33_fmm_23.toInt ≤ ((j33_nmu : Nat) : Int)) := FF.mk hg33_1014.le
      refine va_get (D := D) (ci := 16) (v := .int j33_fmm_23) (C := RX16) (T := TX16) (N := 78) hx hb (htX16 hn) (fun _ h => h) hown hK hP 4 rfl rfl 23 (by decide) (hn.get mw_1562 rfl) (fun _ h9 => h9) hf33_1013 dX16_wire_34 ?_
      refine lv_if_le (tgt := 215) hx hb dX16_wire_37 (by decide) (fun c37_1 => ?_) (fun c37_1 => ?_)
      · have t37_2 := FF.mk (i_le c37_1)
        have r37_3 : rg j33_fmm_23 0 0 := rg_leA t37_2 r33_1012 (show rg (0 : Int32) 0 0 from rg_l (by decide)) (by decide)
        have hD215_1 : DN j33_cq5_1 j33_cq15_1 0 x_mm_15.toInt := WIR.end_ hg33_1014 (show j33_fmm_23.toInt ≤ 0 by have q0 := r37_3.2; omega)
        exact et_v (SX := Unit) hQ hx hb hr hlocks dX16_wire_215 (j33_amm, q5_1, q15_1, j33_admm_20, j33_admm_21, j33_admm_22, j33_fmm_23, j33_cmm20, j33_lnmm_20, j33_cmm21, j33_cmm22, j33_cq5_1, n5_2, j33_cq15_1, j33_accC, j33_accS) ⟨hs33_1006, hf33_1007, hf33_1008, hf33_1009, hf33_1010, hf33_1011, r37_3, hf33_1013, (show ((n5_2 : Nat) : Int) = x_mm_15.toInt by have q0 := FF.out en5_2; omega), (show ((PN : Nat) : Int) ≤ ((j33_lnmm_20 : Nat) : Int) by have q0 := FF.out hi33_1017; omega), (show ((j33_lnmm_20 : Nat) : Int) ≤ 80000 by have q0 := FF.out hb33_1003; omega), (show 64 * ((j33_accC : Nat) : Int) + 3 * ((PN : Nat) : Int) ≤ 3 * ((j33_lnmm_20 : Nat) : Int) + 128 by have q0 := FF.out hi33_1019; omega), (show ((j33_accS : Nat) : Int) = 2 * x_mm_15.toInt + 6 * (((j33_lnmm_20 : Nat) : Int) - ((PN : Nat) : Int)) by have q0 := FF.out hi33_1020; omega), hD215_1⟩ hP hD hS [4, 5, 6, 7, 2, 3, 0, 1] (by decide) rfl (Nat.le_refl _) (Nat.le_refl _) (Int.ofNat_le.mp (FF.out hm33_1001)) (Int.ofNat_le.mp (FF.out hm33_1002))
      · have t37_2 := FF.mk (i_nle c37_1)
        have r37_3 : rg j33_fmm_23 1 40000 := rg_ltB t37_2 (show rg (0 : Int32) 0 0 from rg_l (by decide)) r33_1012 (by decide)
        refine lv_aload_n hx hb dX16_wire_40 rfl (lv_at hl 0 rfl) ?_
        refine lv_dup hx hb dX16_wire_41 rfl ?_
        refine va_get (D := D) (ci := 16) (v := .int j33_fmm_23) (C := RX16) (T := TX16) (N := 78) hx hb (htX16 hn) (fun _ h => h) hown hK hP 4 rfl rfl 23 (by decide) (hn.get mw_1562 rfl) (fun _ h9 => h9) hf33_1013 dX16_wire_42 ?_
        refine lv_iconst (v := 1) hx hb dX16_wire_45 (by decide) ?_
        refine lv_isub hx hb dX16_wire_46 ?_
        refine lv_topi (fun z46_1 ez46_1 => ?_)
        have r46_2 : rg z46_1 0 39999 := rg_sub ez46_1 r37_3 (show rg (1 : Int32) 1 1 from rg_l (by decide)) (by decide)
        refine va_put (D := D) (ci := 16) (v := .int z46_1) (ty := .int) (C := RX16) (T := TX16) (N := 78) hx hb (htX16 hn) (fun _ h => h) tyX16 tyX16_ok nmX16 hown hK hP hD hS 4 rfl rfl 23 (by decide) (hn.get mw_1562 rfl) (fun _ h9 => h9) rfl (by decide +kernel) rfl rfl (by rw [hs33_1006.1, hlen_mm]; decide) dX16_wire_47 (fun H locs hP hD hS => ?_)
        have hP : va_P D vwCl ([(uye, .inl (ct 1, TL, .inl g_uye)), (uno_, .inl (ct 1, TL, .inl g_uno_)), (q5_1, .inl (ct 1, n5_2, .inl j33_cq5_1)), (q15_1, .inl (ct 1, n5_2, .inl j33_cq15_1)), (mm, .inr (16, (j33_amm.set 23 (.int z46_1)))), (j33_admm_20, .inl (ct 5, j33_lnmm_20, .inr (.inr (.inr (.inr j33_cmm20))))), (j33_admm_21, .inl (ct 1, j33_lnmm_20, .inl j33_cmm21)), (j33_admm_22, .inl (ct 1, j33_lnmm_20, .inl j33_cmm22))] ++ ((po ++ pl_of F W.shape))) _ := hP
        have hD : va_D A ([(uye, .inl (ct 1, TL, .inl g_uye)), (uno_, .inl (ct 1, TL, .inl g_uno_)), (q5_1, .inl (ct 1, n5_2, .inl j33_cq5_1)), (q15_1, .inl (ct 1, n5_2, .inl j33_cq15_1)), (mm, .inr (16, (j33_amm.set 23 (.int z46_1)))), (j33_admm_20, .inl (ct 5, j33_lnmm_20, .inr (.inr (.inr (.inr j33_cmm20))))), (j33_admm_21, .inl (ct 1, j33_lnmm_20, .inl j33_cmm21)), (j33_admm_22, .inl (ct 1, j33_lnmm_20, .inl j33_cmm22))] ++ ((po ++ pl_of F W.shape))) := hD
        obtain ⟨m47_1, em47_1⟩ : ∃ z, z = (j33_amm.set 23 (.int z46_1)) := ⟨_, rfl⟩
        rw [← em47_1] at hP hD
        have hsm47_1 : SB fs_mm m47_1 [16, 17, 20, 21, 22, 23] := by rw [em47_1]; exact SB.set hs33_1006 (by decide)
        have hfm47_1_16 : m47_1[16]? = some (.ref q5_1) := by rw [em47_1]; exact fs_ne (by decide) hf33_1007
        have hfm47_1_17 : m47_1[17]? = some (.ref q15_1) := by rw [em47_1]; exact fs_ne (by decide) hf33_1008
        have hfm47_1_20 : m47_1[20]? = some (.ref j33_admm_20) := by rw [em47_1]; exact fs_ne (by decide) hf33_1009
        have hfm47_1_21 : m47_1[21]? = some (.ref j33_admm_21) := by rw [em47_1]; exact fs_ne (by decide) hf33_1010
        have hfm47_1_22 : m47_1[22]? = some (.ref j33_admm_22) := by rw [em47_1]; exact fs_ne (by decide) hf33_1011
        have hfm47_1_23 : m47_1[23]? = some (.int z46_1) := by rw [em47_1]; exact fs_eq (by rw [hs33_1006.1, hlen_mm]; decide)
        have hP : va_P D vwCl ([(uye, .inl (ct 1, TL, .inl g_uye)), (uno_, .inl (ct 1, TL, .inl g_uno_)), (q5_1, .inl (ct 1, n5_2, .inl j33_cq5_1)), (q15_1, .inl (ct 1, n5_2, .inl j33_cq15_1)), (mm, .inr (16, m47_1)), (j33_admm_20, .inl (ct 5, j33_lnmm_20, .inr (.inr (.inr (.inr j33_cmm20))))), (j33_admm_21, .inl (ct 1, j33_lnmm_20, .inl j33_cmm21)), (j33_admm_22, .inl (ct 1, j33_lnmm_20, .inl j33_cmm22))] ++ ((po ++ pl_of F W.shape))) _ := hP
        have hD : va_D A ([(uye, .inl (ct 1, TL, .inl g_uye)), (uno_, .inl (ct 1, TL, .inl g_uno_)), (q5_1, .inl (ct 1, n5_2, .inl j33_cq5_1)), (q15_1, .inl (ct 1, n5_2, .inl j33_cq15_1)), (mm, .inr (16, m47_1)), (j33_admm_20, .inl (ct 5, j33_lnmm_20, .inr (.inr (.inr (.inr j33_cmm20))))), (j33_admm_21, .inl (ct 1, j33_lnmm_20, .inl j33_cmm21)), (j33_admm_22, .inl (ct 1, j33_lnmm_20, .inl j33_cmm22))] ++ ((po ++ pl_of F W.shape))) := hD
        refine lv_aload_n hx hb dX16_wire_50 rfl (lv_at hl 0 rfl) ?_
        refine va_get (D := D) (ci := 16) (v := .ref j33_admm_20) (C := RX16) (T := TX16) (N := 78) hx hb (htX16 hn) (fun _ h => h) hown hK hP 4 rfl rfl 20 (by decide) (hn.get mw_1559 rfl) (fun _ h9 => h9) hfm47_1_20 dX16_wire_51 ?_
        refine lv_aload_n hx hb dX16_wire_54 rfl (lv_at hl 0 rfl) ?_
        refine va_get (D := D) (ci := 16) (v := .int z46_1) (C := RX16) (T := TX16) (N := 78) hx hb (htX16 hn) (fun _ h => h) hown hK hP 4 rfl rfl 23 (by decide) (hn.get mw_1562 rfl) (fun _ h9 => h9) hfm47_1_23 dX16_wire_55 ?_
        obtain ⟨t58_1t, t58_1k, t58_1e, gt58_1, pt58_1⟩ := WIR.pop (i := z46_1) hg33_1014 (show z46_1.toInt + 1 = j33_fmm_23.toInt by have q0 := (eq_sub ez46_1 r37_3 (show rg (1 : Int32) 1 1 from rg_l (by decide)) (by decide)); have q1 := (show (1 : Int32).toInt = 1 from by decide); omega) (show 0 < j33_fmm_23.toInt by have q0 := r37_3.1; omega)
        obtain ⟨ot58_1, st58_1, nbt58_1, k0t58_1, kNt58_1⟩ := pt58_1.facts
        obtain ⟨ft58_1, cst58_1⟩ := nbt58_1.cases_
        have hk58_2 : FF ((F t58_1t.root).toInt = t58_1k ∧ 0 ≤ t58_1k ∧ t58_1k < x_mm_15.toInt) := FF.mk ⟨ft58_1, k0t58_1, kNt58_1⟩
        rcases cst58_1 with ⟨t58_1l, t58_1r, t58_1s, ct58_1⟩ | ⟨t58_1x, ct58_1, xt58_1⟩ | ⟨t58_1x, t58_1y, ct58_1, xt58_1, yt58_1⟩ | ⟨t58_1x, t58_1y, ct58_1, xt58_1, yt58_1⟩
        · have ht58_1 := st58_1 _ ct58_1.1
          have hi58_1 : vp_in z46_1 j33_lnmm_20 := (in_of (show 0 ≤ z46_1.toInt ∧ z46_1.toInt < ((j33_lnmm_20 : Nat) : Int) by have q0 := (eq_sub ez46_1 r37_3 (show rg (1 : Int32) 1 1 from rg_l (by decide)) (by decide)); have q1 := FF.out hi33_1016; have q2 := FF.out t37_2; have q3 := (show (0 : Int32).toInt = 0 from by decide); have q4 := (show (1 : Int32).toInt = 1 from by decide); omega))
          refine aq_ld hx hb hK hP 5 5 rfl rfl hi58_1 gt58_1 dX16_wire_58 ?_
          refine lv_astore_n (lv' := [(2, .ref t58_1t.root), (0, .ref mm)]) hx hb dX16_wire_59 rfl hl (by decide) rfl (fun ls hl => ?_)
          refine lv_aload_n hx hb dX16_wire_60 rfl (lv_at hl 1 rfl) ?_
          refine va_get (D := D) (ci := 16) (v := .ref j33_admm_21) (C := RX16) (T := TX16) (N := 78) hx hb (htX16 hn) (fun _ h => h) hown hK hP 4 rfl rfl 21 (by decide) (hn.get mw_1560 rfl) (fun _ h9 => h9) hfm47_1_21 dX16_wire_61 ?_
          refine lv_aload_n hx hb dX16_wire_64 rfl (lv_at hl 1 rfl) ?_
          refine va_get (D := D) (ci := 16) (v := .int z46_1) (C := RX16) (T := TX16) (N := 78) hx hb (htX16 hn) (fun _ h => h) hown hK hP 4 rfl rfl 23 (by decide) (hn.get mw_1562 rfl) (fun _ h9 => h9) hfm47_1_23 dX16_wire_65 ?_
          have hi68_1 : vp_in z46_1 j33_lnmm_20 := (in_of (show 0 ≤ z46_1.toInt ∧ z46_1.toInt < ((j33_lnmm_20 : Nat) : Int) by have q0 := (eq_sub ez46_1 r37_3 (show rg (1 : Int32) 1 1 from rg_l (by decide)) (by decide)); have q1 := FF.out hi33_1016; have q2 := FF.out t37_2; have q3 := (show (0 : Int32).toInt = 0 from by decide); have q4 := (show (1 : Int32).toInt = 1 from by decide); omega))
          refine va_iald hx hb hK hP 6 1 rfl rfl hi68_1 dX16_wire_68 ?_
          refine lv_topi (fun z68_2 ez68_2 => ?_)
          refine lv_istore_n (lv' := [(3, .int z68_2), (2, .ref t58_1t.root), (0, .ref mm)]) hx hb dX16_wire_69 rfl hl (by decide) rfl (fun ls hl => ?_)
          refine lv_aload_n hx hb dX16_wire_70 rfl (lv_at hl 2 rfl) ?_
          refine va_get (D := D) (ci := 16) (v := .ref j33_admm_22) (C := RX16) (T := TX16) (N := 78) hx hb (htX16 hn) (fun _ h => h) hown hK hP 4 rfl rfl 22 (by decide) (hn.get mw_1561 rfl) (fun _ h9 => h9) hfm47_1_22 dX16_wire_71 ?_
          refine lv_aload_n hx hb dX16_wire_74 rfl (lv_at hl 2 rfl) ?_
          refine va_get (D := D) (ci := 16) (v := .int z46_1) (C := RX16) (T := TX16) (N := 78) hx hb (htX16 hn) (fun _ h => h) hown hK hP 4 rfl rfl 23 (by decide) (hn.get mw_1562 rfl) (fun _ h9 => h9) hfm47_1_23 dX16_wire_75 ?_
          have hi78_1 : vp_in z46_1 j33_lnmm_20 := (in_of (show 0 ≤ z46_1.toInt ∧ z46_1.toInt < ((j33_lnmm_20 : Nat) : Int) by have q0 := (eq_sub ez46_1 r37_3 (show rg (1 : Int32) 1 1 from rg_l (by decide)) (by decide)); have q1 := FF.out hi33_1016; have q2 := FF.out t37_2; have q3 := (show (0 : Int32).toInt = 0 from by decide); have q4 := (show (1 : Int32).toInt = 1 from by decide); omega))
          refine va_iald hx hb hK hP 7 1 rfl rfl hi78_1 dX16_wire_78 ?_
          refine lv_topi (fun z78_2 ez78_2 => ?_)
          refine lv_istore (lv' := [(4, .int z78_2), (3, .int z68_2), (2, .ref t58_1t.root), (0, .ref mm)]) hx hb dX16_wire_79 hl (by decide) rfl (fun ls hl => ?_)
          refine lv_aload_n hx hb dX16_wire_81 rfl (lv_at hl 2 rfl) ?_
          obtain ⟨k82_1, hk82_1⟩ := pl_get (X := [(uye, .inl (ct 1, TL, .inl g_uye)), (uno_, .inl (ct 1, TL, .inl g_uno_)), (q5_1, .inl (ct 1, n5_2, .inl j33_cq5_1)), (q15_1, .inl (ct 1, n5_2, .inl j33_cq15_1)), (mm, .inr (16, m47_1)), (j33_admm_20, .inl (ct 5, j33_lnmm_20, .inr (.inr (.inr (.inr j33_cmm20))))), (j33_admm_21, .inl (ct 1, j33_lnmm_20, .inl j33_cmm21)), (j33_admm_22, .inl (ct 1, j33_lnmm_20, .inl j33_cmm22))]) (fl_mem (po := po) (F := F) ht58_1)
          refine va_get (D := D) (ci := 12) (v := .int 0) (C := RX12) (T := TX12) (N := 7) hx hb (htX12 hn) (fun _ h => h) hown hK hP k82_1 hk82_1 rfl 0 (by decide) (hn.get mw_1975 rfl) (fun _ h9 => h9) rfl dX16_wire_82 ?_
          refine lv_tableIn (off := 31) (tgt := 116) hx hb dX16_wire_85 (by decide) (by decide) (by decide) (by decide) ?_
          refine lv_aload_n hx hb dX16_wire_116 rfl (lv_at hl 3 rfl) ?_
          refine va_get (D := D) (ci := 16) (v := .ref q5_1) (C := RX16) (T := TX16) (N := 78) hx hb (htX16 hn) (fun _ h => h) hown hK hP 4 rfl rfl 16 (by decide) (hn.get mw_1555 rfl) (fun _ h9 => h9) hfm47_1_16 dX16_wire_117 ?_
          refine lv_aload_n hx hb dX16_wire_120 rfl (lv_at hl 2 rfl) ?_
          obtain ⟨k121_1, hk121_1⟩ := pl_get (X := [(uye, .inl (ct 1, TL, .inl g_uye)), (uno_, .inl (ct 1, TL, .inl g_uno_)), (q5_1, .inl (ct 1, n5_2, .inl j33_cq5_1)), (q15_1, .inl (ct 1, n5_2, .inl j33_cq15_1)), (mm, .inr (16, m47_1)), (j33_admm_20, .inl (ct 5, j33_lnmm_20, .inr (.inr (.inr (.inr j33_cmm20))))), (j33_admm_21, .inl (ct 1, j33_lnmm_20, .inl j33_cmm21)), (j33_admm_22, .inl (ct 1, j33_lnmm_20, .inl j33_cmm22))]) (fl_mem (po := po) (F := F) ht58_1)
          refine va_get (D := D) (ci := 12) (v := .int (F t58_1t.root)) (C := RX12) (T := TX12) (N := 7) hx hb (htX12 hn) (fun _ h => h) hown hK hP k121_1 hk121_1 rfl 6 (by decide) (hn.get mw_1986 rfl) (fun _ h9 => h9) rfl dX16_wire_121 ?_
          refine lv_topi (fun z121_2 ez121_2 => ?_)
          refine lv_iload_n hx hb dX16_wire_124 rfl (lv_at hl 1 rfl) ?_
          have hi125_1 : vp_in z121_2 n5_2 := (in_of (show 0 ≤ z121_2.toInt ∧ z121_2.toInt < ((n5_2 : Nat) : Int) by have q0 := (congrArg Int32.toInt ez121_2); have q1 := FF.out en5_2; have q2 := FF.out hk58_2; omega))
          refine va_iast hx hb hK hP hD hS 2 1 rfl rfl hi125_1 dX16_wire_125 (fun H locs hP hD hS => ?_)
          have hP : va_P D vwCl ([(uye, .inl (ct 1, TL, .inl g_uye)), (uno_, .inl (ct 1, TL, .inl g_uno_)), (q5_1, .inl (ct 1, n5_2, .inl (upd j33_cq5_1 z121_2.toNatClampNeg z68_2))), (q15_1, .inl (ct 1, n5_2, .inl j33_cq15_1)), (mm, .inr (16, m47_1)), (j33_admm_20, .inl (ct 5, j33_lnmm_20, .inr (.inr (.inr (.inr j33_cmm20))))), (j33_admm_21, .inl (ct 1, j33_lnmm_20, .inl j33_cmm21)), (j33_admm_22, .inl (ct 1, j33_lnmm_20, .inl j33_cmm22))] ++ ((po ++ pl_of F W.shape))) _ := hP
          have hD : va_D A ([(uye, .inl (ct 1, TL, .inl g_uye)), (uno_, .inl (ct 1, TL, .inl g_uno_)), (q5_1, .inl (ct 1, n5_2, .inl (upd j33_cq5_1 z121_2.toNatClampNeg z68_2))), (q15_1, .inl (ct 1, n5_2, .inl j33_cq15_1)), (mm, .inr (16, m47_1)), (j33_admm_20, .inl (ct 5, j33_lnmm_20, .inr (.inr (.inr (.inr j33_cmm20))))), (j33_admm_21, .inl (ct 1, j33_lnmm_20, .inl j33_cmm21)), (j33_admm_22, .inl (ct 1, j33_lnmm_20, .inl j33_cmm22))] ++ ((po ++ pl_of F W.shape))) := hD
          obtain ⟨f125_2, ef125_2⟩ : ∃ z, z = (upd j33_cq5_1 z121_2.toNatClampNeg z68_2) := ⟨_, rfl⟩
          rw [← ef125_2] at hP hD
          refine lv_aload_n hx hb dX16_wire_126 rfl (lv_at hl 3 rfl) ?_
          refine va_get (D := D) (ci := 16) (v := .ref q15_1) (C := RX16) (T := TX16) (N := 78) hx hb (htX16 hn) (fun _ h => h) hown hK hP 4 rfl rfl 17 (by decide) (hn.get mw_1556 rfl) (fun _ h9 => h9) hfm47_1_17 dX16_wire_127 ?_
          refine lv_aload_n hx hb dX16_wire_130 rfl (lv_at hl 2 rfl) ?_
          obtain ⟨k131_1, hk131_1⟩ := pl_get (X := [(uye, .inl (ct 1, TL, .inl g_uye)), (uno_, .inl (ct 1, TL, .inl g_uno_)), (q5_1, .inl (ct 1, n5_2, .inl f125_2)), (q15_1, .inl (ct 1, n5_2, .inl j33_cq15_1)), (mm, .inr (16, m47_1)), (j33_admm_20, .inl (ct 5, j33_lnmm_20, .inr (.inr (.inr (.inr j33_cmm20))))), (j33_admm_21, .inl (ct 1, j33_lnmm_20, .inl j33_cmm21)), (j33_admm_22, .inl (ct 1, j33_lnmm_20, .inl j33_cmm22))]) (fl_mem (po := po) (F := F) ht58_1)
          refine va_get (D := D) (ci := 12) (v := .int (F t58_1t.root)) (C := RX12) (T := TX12) (N := 7) hx hb (htX12 hn) (fun _ h => h) hown hK hP k131_1 hk131_1 rfl 6 (by decide) (hn.get mw_1986 rfl) (fun _ h9 => h9) rfl dX16_wire_131 ?_
          refine lv_topi (fun z131_2 ez131_2 => ?_)
          refine lv_iload hx hb dX16_wire_134 (lv_at hl 0 rfl) ?_
          have hi136_1 : vp_in z131_2 n5_2 := (in_of (show 0 ≤ z131_2.toInt ∧ z131_2.toInt < ((n5_2 : Nat) : Int) by have q0 := (congrArg Int32.toInt ez131_2); have q1 := FF.out en5_2; have q2 := FF.out hk58_2; omega))
          refine va_iast hx hb hK hP hD hS 3 1 rfl rfl hi136_1 dX16_wire_136 (fun H locs hP hD hS => ?_)
          have hP : va_P D vwCl ([(uye, .inl (ct 1, TL, .inl g_uye)), (uno_, .inl (ct 1, TL, .inl g_uno_)), (q5_1, .inl (ct 1, n5_2, .inl f125_2)), (q15_1, .inl (ct 1, n5_2, .inl (upd j33_cq15_1 z131_2.toNatClampNeg z78_2))), (mm, .inr (16, m47_1)), (j33_admm_20, .inl (ct 5, j33_lnmm_20, .inr (.inr (.inr (.inr j33_cmm20))))), (j33_admm_21, .inl (ct 1, j33_lnmm_20, .inl j33_cmm21)), (j33_admm_22, .inl (ct 1, j33_lnmm_20, .inl j33_cmm22))] ++ ((po ++ pl_of F W.shape))) _ := hP
          have hD : va_D A ([(uye, .inl (ct 1, TL, .inl g_uye)), (uno_, .inl (ct 1, TL, .inl g_uno_)), (q5_1, .inl (ct 1, n5_2, .inl f125_2)), (q15_1, .inl (ct 1, n5_2, .inl (upd j33_cq15_1 z131_2.toNatClampNeg z78_2))), (mm, .inr (16, m47_1)), (j33_admm_20, .inl (ct 5, j33_lnmm_20, .inr (.inr (.inr (.inr j33_cmm20))))), (j33_admm_21, .inl (ct 1, j33_lnmm_20, .inl j33_cmm21)), (j33_admm_22, .inl (ct 1, j33_lnmm_20, .inl j33_cmm22))] ++ ((po ++ pl_of F W.shape))) := hD
          obtain ⟨f136_2, ef136_2⟩ : ∃ z, z = (upd j33_cq15_1 z131_2.toNatClampNeg z78_2) := ⟨_, rfl⟩
          rw [← ef136_2] at hP hD
          refine lv_goto (tgt := 212) hx hb dX16_wire_137 (by decide) ?_
          have hz212_2 : z121_2 = z131_2 := Int32.toInt_inj.mp (show z121_2.toInt = z131_2.toInt by have q0 := (congrArg Int32.toInt ez131_2); have q1 := (congrArg Int32.toInt ez121_2); omega)
          have ez212_3 : f136_2 = upd j33_cq15_1 z121_2.toNatClampNeg z78_2 := by rw [hz212_2]; exact ef136_2
          obtain ⟨u212_1m, lu212_1, u212_1⟩ := WIP.test pt58_1 ct58_1 ef125_2 ez212_3 (show z121_2.toInt = t58_1k by have q0 := (congrArg Int32.toInt ez121_2); have q1 := FF.out hk58_2; omega) (show z68_2.toInt = (j33_cmm21 z46_1.toNatClampNeg).toInt by have q0 := (congrArg Int32.toInt ez68_2); omega) (show z78_2.toInt = (j33_cmm22 z46_1.toNatClampNeg).toInt by have q0 := (congrArg Int32.toInt ez78_2); omega)
          have u212_1 : WIR W F j33_cmm20 j33_cmm21 j33_cmm22 z46_1.toInt f125_2 f136_2 x_mm_15.toInt u212_1m := u212_1
          have hk212_4 : FF (((u212_1m : Nat) : Int) < ((j33_nmu : Nat) : Int)) := FF.mk (Int.ofNat_lt.mpr lu212_1)
          refine lv_goto (tgt := 33) hx hb dX16_wire_212 (by decide) ?_
          exact ih33 j33_accC j33_accS j33_admm_20 j33_lnmm_20 j33_cmm20 j33_admm_21 j33_cmm21 j33_admm_22 j33_cmm22 u212_1m f125_2 f136_2 m47_1 z46_1 H locs ls (show ((j33_accC : Nat) : Int) ≤ ((MC : Nat) : Int) by have q0 := FF.out hq5; have q1 := FF.out hb33_1003; have q2 := FF.out hi33_1019; omega) (show ((j33_accS : Nat) : Int) ≤ ((MS : Nat) : Int) by have q0 := FF.out hq0; have q1 := FF.out hq1; have q2 := FF.out hq4; have q3 := FF.out ht3; have q4 := FF.out hb33_1003; have q5 := FF.out hi33_1020; omega) (show ((j33_lnmm_20 : Nat) : Int) ≤ 80000 by have q0 := FF.out hi33_1018; omega) (show ((j33_lnmm_20 : Nat) : Int) ≤ 80000 by have q0 := FF.out hi33_1018; omega) (show ((j33_lnmm_20 : Nat) : Int) ≤ 80000 by have q0 := FF.out hi33_1018; omega) hsm47_1 hfm47_1_16 hfm47_1_17 hfm47_1_20 hfm47_1_21 hfm47_1_22 (rg_w r46_2 (by decide)) hfm47_1_23 u212_1 (EF.mono hg33_1015 (show z46_1.toInt ≤ j33_fmm_23.toInt by have q0 := (eq_sub ez46_1 r37_3 (show rg (1 : Int32) 1 1 from rg_l (by decide)) (by decide)); have q1 := (show (1 : Int32).toInt = 1 from by decide); omega)) (show z46_1.toInt ≤ ((j33_lnmm_20 : Nat) : Int) by have q0 := (eq_sub ez46_1 r37_3 (show rg (1 : Int32) 1 1 from rg_l (by decide)) (by decide)); have q1 := FF.out hi33_1016; have q2 := (show (1 : Int32).toInt = 1 from by decide); omega) (show ((PN : Nat) : Int) ≤ ((j33_lnmm_20 : Nat) : Int) by have q0 := FF.out hi33_1017; omega) (show ((j33_lnmm_20 : Nat) : Int) ≤ 80000 by have q0 := FF.out hi33_1018; omega) (show 64 * ((j33_accC : Nat) : Int) + 3 * ((PN : Nat) : Int) ≤ 3 * ((j33_lnmm_20 : Nat) : Int) + 128 by have q0 := FF.out hi33_1019; omega) (show ((j33_accS : Nat) : Int) = 2 * x_mm_15.toInt + 6 * (((j33_lnmm_20 : Nat) : Int) - ((PN : Nat) : Int)) by have q0 := FF.out hi33_1020; omega) (show ((u212_1m : Nat) : Int) ≤ 38000 by have q0 := FF.out hi33_1021; have q1 := FF.out hk212_4; omega) (show (((u212_1m : Nat) : Int)).toNat < n33 by have q0 := FF.out hk212_4; have q1 := hms33; omega) (lv_sub hl [3] rfl) hP hD hS
        · have ht58_1 := st58_1 _ ct58_1.1
          have mt58_1x := FT.memL ct58_1.2.1 (FSUB.tr ct58_1.2.2.2.2.1 st58_1)
          have hi58_1 : vp_in z46_1 j33_lnmm_20 := (in_of (show 0 ≤ z46_1.toInt ∧ z46_1.toInt < ((j33_lnmm_20 : Nat) : Int) by have q0 := (eq_sub ez46_1 r37_3 (show rg (1 : Int32) 1 1 from rg_l (by decide)) (by decide)); have q1 := FF.out hi33_1016; have q2 := FF.out t37_2; have q3 := (show (0 : Int32).toInt = 0 from by decide); have q4 := (show (1 : Int32).toInt = 1 from by decide); omega))
          refine aq_ld hx hb hK hP 5 5 rfl rfl hi58_1 gt58_1 dX16_wire_58 ?_
          refine lv_astore_n (lv' := [(2, .ref t58_1t.root), (0, .ref mm)]) hx hb dX16_wire_59 rfl hl (by decide) rfl (fun ls hl => ?_)
          refine lv_aload_n hx hb dX16_wire_60 rfl (lv_at hl 1 rfl) ?_
          refine va_get (D := D) (ci := 16) (v := .ref j33_admm_21) (C := RX16) (T := TX16) (N := 78) hx hb (htX16 hn) (fun _ h => h) hown hK hP 4 rfl rfl 21 (by decide) (hn.get mw_1560 rfl) (fun _ h9 => h9) hfm47_1_21 dX16_wire_61 ?_
          refine lv_aload_n hx hb dX16_wire_64 rfl (lv_at hl 1 rfl) ?_
          refine va_get (D := D) (ci := 16) (v := .int z46_1) (C := RX16) (T := TX16) (N := 78) hx hb (htX16 hn) (fun _ h => h) hown hK hP 4 rfl rfl 23 (by decide) (hn.get mw_1562 rfl) (fun _ h9 => h9) hfm47_1_23 dX16_wire_65 ?_
          have hi68_1 : vp_in z46_1 j33_lnmm_20 := (in_of (show 0 ≤ z46_1.toInt ∧ z46_1.toInt < ((j33_lnmm_20 : Nat) : Int) by have q0 := (eq_sub ez46_1 r37_3 (show rg (1 : Int32) 1 1 from rg_l (by decide)) (by decide)); have q1 := FF.out hi33_1016; have q2 := FF.out t37_2; have q3 := (show (0 : Int32).toInt = 0 from by decide); have q4 := (show (1 : Int32).toInt = 1 from by decide); omega))
          refine va_iald hx hb hK hP 6 1 rfl rfl hi68_1 dX16_wire_68 ?_
          refine lv_topi (fun z68_2 ez68_2 => ?_)
          refine lv_istore_n (lv' := [(3, .int z68_2), (2, .ref t58_1t.root), (0, .ref mm)]) hx hb dX16_wire_69 rfl hl (by decide) rfl (fun ls hl => ?_)
          refine lv_aload_n hx hb dX16_wire_70 rfl (lv_at hl 2 rfl) ?_
          refine va_get (D := D) (ci := 16) (v := .ref j33_admm_22) (C := RX16) (T := TX16) (N := 78) hx hb (htX16 hn) (fun _ h => h) hown hK hP 4 rfl rfl 22 (by decide) (hn.get mw_1561 rfl) (fun _ h9 => h9) hfm47_1_22 dX16_wire_71 ?_
          refine lv_aload_n hx hb dX16_wire_74 rfl (lv_at hl 2 rfl) ?_
          refine va_get (D := D) (ci := 16) (v := .int z46_1) (C := RX16) (T := TX16) (N := 78) hx hb (htX16 hn) (fun _ h => h) hown hK hP 4 rfl rfl 23 (by decide) (hn.get mw_1562 rfl) (fun _ h9 => h9) hfm47_1_23 dX16_wire_75 ?_
          have hi78_1 : vp_in z46_1 j33_lnmm_20 := (in_of (show 0 ≤ z46_1.toInt ∧ z46_1.toInt < ((j33_lnmm_20 : Nat) : Int) by have q0 := (eq_sub ez46_1 r37_3 (show rg (1 : Int32) 1 1 from rg_l (by decide)) (by decide)); have q1 := FF.out hi33_1016; have q2 := FF.out t37_2; have q3 := (show (0 : Int32).toInt = 0 from by decide); have q4 := (show (1 : Int32).toInt = 1 from by decide); omega))
          refine va_iald hx hb hK hP 7 1 rfl rfl hi78_1 dX16_wire_78 ?_
          refine lv_topi (fun z78_2 ez78_2 => ?_)
          refine lv_istore (lv' := [(4, .int z78_2), (3, .int z68_2), (2, .ref t58_1t.root), (0, .ref mm)]) hx hb dX16_wire_79 hl (by decide) rfl (fun ls hl => ?_)
          refine lv_aload_n hx hb dX16_wire_81 rfl (lv_at hl 2 rfl) ?_
          obtain ⟨k82_1, hk82_1⟩ := pl_get (X := [(uye, .inl (ct 1, TL, .inl g_uye)), (uno_, .inl (ct 1, TL, .inl g_uno_)), (q5_1, .inl (ct 1, n5_2, .inl j33_cq5_1)), (q15_1, .inl (ct 1, n5_2, .inl j33_cq15_1)), (mm, .inr (16, m47_1)), (j33_admm_20, .inl (ct 5, j33_lnmm_20, .inr (.inr (.inr (.inr j33_cmm20))))), (j33_admm_21, .inl (ct 1, j33_lnmm_20, .inl j33_cmm21)), (j33_admm_22, .inl (ct 1, j33_lnmm_20, .inl j33_cmm22))]) (fl_mem (po := po) (F := F) ht58_1)
          refine va_get (D := D) (ci := 12) (v := .int 3) (C := RX12) (T := TX12) (N := 7) hx hb (htX12 hn) (fun _ h => h) hown hK hP k82_1 hk82_1 rfl 0 (by decide) (hn.get mw_1975 rfl) (fun _ h9 => h9) rfl dX16_wire_82 ?_
          refine lv_tableIn (off := 55) (tgt := 140) hx hb dX16_wire_85 (by decide) (by decide) (by decide) (by decide) ?_
          refine lv_aload_n hx hb dX16_wire_140 rfl (lv_at hl 3 rfl) ?_
          refine lv_aload_n hx hb dX16_wire_141 rfl (lv_at hl 2 rfl) ?_
          obtain ⟨k142_1, hk142_1⟩ := pl_get (X := [(uye, .inl (ct 1, TL, .inl g_uye)), (uno_, .inl (ct 1, TL, .inl g_uno_)), (q5_1, .inl (ct 1, n5_2, .inl j33_cq5_1)), (q15_1, .inl (ct 1, n5_2, .inl j33_cq15_1)), (mm, .inr (16, m47_1)), (j33_admm_20, .inl (ct 5, j33_lnmm_20, .inr (.inr (.inr (.inr j33_cmm20))))), (j33_admm_21, .inl (ct 1, j33_lnmm_20, .inl j33_cmm21)), (j33_admm_22, .inl (ct 1, j33_lnmm_20, .inl j33_cmm22))]) (fl_mem (po := po) (F := F) ht58_1)
          refine va_get (D := D) (ci := 12) (v := .ref t58_1x.root) (C := RX12) (T := TX12) (N := 7) hx hb (htX12 hn) (fun _ h => h) hown hK hP k142_1 hk142_1 rfl 1 (by decide) (hn.get mw_1977 rfl) (fun _ h9 => h9) rfl dX16_wire_142 ?_
          refine lv_iload hx hb dX16_wire_145 (lv_at hl 0 rfl) ?_
          refine lv_iload_n hx hb dX16_wire_147 rfl (lv_at hl 1 rfl) ?_
          obtain ⟨m148_1, gm148_1⟩ : ∃ m9 : Nat, m9 + j33_accC = MC := ⟨MC - j33_accC, Nat.sub_add_cancel (Int.ofNat_le.mp (FF.out hm33_1001))⟩
          have em148_1 := FF.mk gm148_1
          obtain ⟨m148_2, gm148_2⟩ : ∃ m9 : Nat, m9 + j33_accS = MS := ⟨MS - j33_accS, Nat.sub_add_cancel (Int.ofNat_le.mp (FF.out hm33_1002))⟩
          have em148_2 := FF.mk gm148_2
          refine gt_P (pl := ((po ++ pl_of F W.shape))) (pl1 := fun _ => ((po ++ pl_of F W.shape))) (wr := [(uye, .inl (ct 1, TL, .inl g_uye)), (uno_, .inl (ct 1, TL, .inl g_uno_)), (q5_1, .inl (ct 1, n5_2, .inl j33_cq5_1)), (q15_1, .inl (ct 1, n5_2, .inl j33_cq15_1))]) [4, 5, 6, 7] [0, 1, 2, 3] (rt_V (As := [.ref t58_1x.root, .int z78_2, .int z68_2]) (rest := []) (c_X16_push l hst D ct m148_1 m148_2 ((po ++ pl_of F W.shape)) mm t58_1x.root _ z78_2 z68_2 m47_1 j33_admm_20 j33_admm_21 j33_admm_22 z46_1 j33_cmm20 j33_lnmm_20 j33_cmm21 j33_cmm22 (FND.mem mt58_1x po F).choose_spec (hsm47_1.1.trans hlen_mm) hfm47_1_20 hfm47_1_21 hfm47_1_22 r46_2 hfm47_1_23 (show ((j33_lnmm_20 : Nat) : Int) ≤ 80000 by have q0 := FF.out hi33_1018; omega) (show 64 ≤ ((j33_lnmm_20 : Nat) : Int) by have q0 := FF.out hq3; have q1 := FF.out hi33_1017; omega) (show z46_1.toInt ≤ ((j33_lnmm_20 : Nat) : Int) by have q0 := (eq_sub ez46_1 r37_3 (show rg (1 : Int32) 1 1 from rg_l (by decide)) (by decide)); have q1 := FF.out hi33_1016; have q2 := (show (1 : Int32).toInt = 1 from by decide); omega) (show 480000 ≤ ((m148_2 : Nat) : Int) + 6 * ((j33_lnmm_20 : Nat) : Int) by have q0 := FF.out hq0; have q1 := FF.out hq1; have q2 := FF.out hq4; have q3 := FF.out ht3; have q4 := FF.out hi33_1020; have q5 := FF.out em148_2; omega) (show 240192 ≤ 64 * ((m148_1 : Nat) : Int) + 3 * ((j33_lnmm_20 : Nat) : Int) by have q0 := FF.out hq5; have q1 := FF.out hi33_1019; have q2 := FF.out em148_1; omega) (EF.el (EF.mono hg33_1015 (show z46_1.toInt ≤ j33_fmm_23.toInt by have q0 := (eq_sub ez46_1 r37_3 (show rg (1 : Int32) 1 1 from rg_l (by decide)) (by decide)); have q1 := (show (1 : Int32).toInt = 1 from by decide); omega))) _) (cb_of (n := 3) hn mw_2215 mw_13 mw_2212 mhX16_push ⟨(Nat.le_of_ble_eq_true rfl), (Nat.le_of_ble_eq_true rfl)⟩) hx hb hml hown hn hK hSK hZ hS mw_2214 mw_s204 (ci := 16) (q0 := 0) rfl rfl rfl rfl hl.1 (Nat.le_of_ble_eq_true rfl) dX16_wire_148 ⟨(Nat.le_of_eq ((Nat.add_comm _ _).trans gm148_1)), (Nat.le_of_eq ((Nat.add_comm _ _).trans gm148_2))⟩) hP hD hS hA rfl rfl (by decide) (by decide) (by decide) (fun xq148_6 ux148_7 xfs148_8 H locs hpx148_9 hpexfs148_8 hP hD hS => ?_) (fun r148_3 u148_4 H locs hp148_5 hP hD hS => ?_)
          · exact hpx148_9.elim
          obtain ⟨fs2_mm148_310, a_mm_20148_311, a_mm_21148_312, a_mm_22148_313, y_mm_23148_314, k_upi148_315, PN2148_316, k_upy148_317, k_upn148_318, kc148_319, kn148_320⟩ := u148_4
          obtain ⟨hp148_321, hp148_322, hp148_323, hp148_324, hp148_325, hp148_326, hp148_327, hp148_328, hp148_329, hp148_330, hp148_331, hp148_332, hp148_333, hp148_334, hp148_335⟩ := hp148_5
          have hs148_336 : SB fs_mm fs2_mm148_310 [16, 17, 20, 21, 22, 23] := SB.trans hsm47_1 hp148_321 (by decide)
          have hf148_337 : fs2_mm148_310[16]? = some (.ref q5_1) := SB.get hp148_321 (by decide) hfm47_1_16
          have hf148_338 : fs2_mm148_310[17]? = some (.ref q15_1) := SB.get hp148_321 (by decide) hfm47_1_17
          have hp148_325 : rg y_mm_23148_314 1 40000 := hp148_325
          replace hp148_327 : FF (y_mm_23148_314.toInt = z46_1.toInt + 1) := hp148_327
          replace hp148_328 : FF (y_mm_23148_314.toInt ≤ ((PN2148_316 : Nat) : Int)) := hp148_328
          replace hp148_329 : FF (((j33_lnmm_20 : Nat) : Int) ≤ ((PN2148_316 : Nat) : Int)) := hp148_329
          replace hp148_330 : FF (((PN2148_316 : Nat) : Int) ≤ 80000) := hp148_330
          replace hp148_331 : FF (64 * ((kc148_319 : Nat) : Int) + 3 * ((j33_lnmm_20 : Nat) : Int) ≤ 3 * ((PN2148_316 : Nat) : Int)) := hp148_331
          replace hp148_332 : FF (((kn148_320 : Nat) : Int) = 6 * (((PN2148_316 : Nat) : Int) - ((j33_lnmm_20 : Nat) : Int))) := hp148_332
          have hp148_333 : AP j33_cmm20 k_upi148_315 z46_1.toInt t58_1x.root := hp148_333
          have hp148_334 : IP j33_cmm21 k_upy148_317 z46_1.toInt z78_2.toInt := hp148_334
          have hp148_335 : IP j33_cmm22 k_upn148_318 z46_1.toInt z68_2.toInt := hp148_335
          obtain ⟨c148_339, ec148_339⟩ : ∃ x9 : Nat, x9 = j33_accC + kc148_319 := ⟨_, rfl⟩
          have ec148_339 := FF.mk ec148_339
          have mc148_339 : FF (c148_339 ≤ MC) := FF.mk (Int.ofNat_le.mp (show ((c148_339 : Nat) : Int) ≤ ((MC : Nat) : Int) by have q0 := FF.out hq5; have q1 := FF.out hi33_1019; have q2 := FF.out hp148_330; have q3 := FF.out hp148_331; have q4 := FF.out ec148_339; omega))
          obtain ⟨k148_340, ek148_340⟩ : ∃ x9 : Nat, x9 = j33_accS + kn148_320 := ⟨_, rfl⟩
          have ek148_340 := FF.mk ek148_340
          have mk148_340 : FF (k148_340 ≤ MS) := FF.mk (Int.ofNat_le.mp (show ((k148_340 : Nat) : Int) ≤ ((MS : Nat) : Int) by have q0 := FF.out hq0; have q1 := FF.out hq1; have q2 := FF.out hq4; have q3 := FF.out ht3; have q4 := FF.out hi33_1020; have q5 := FF.out hp148_330; have q6 := FF.out hp148_332; have q7 := FF.out ek148_340; omega))
          have hP : va_P D vwCl ([(uye, .inl (ct 1, TL, .inl g_uye)), (uno_, .inl (ct 1, TL, .inl g_uno_)), (q5_1, .inl (ct 1, n5_2, .inl j33_cq5_1)), (q15_1, .inl (ct 1, n5_2, .inl j33_cq15_1)), (mm, .inr (16, fs2_mm148_310)), (a_mm_20148_311, .inl (ct 5, PN2148_316, .inr (.inr (.inr (.inr k_upi148_315))))), (a_mm_21148_312, .inl (ct 1, PN2148_316, .inl k_upy148_317)), (a_mm_22148_313, .inl (ct 1, PN2148_316, .inl k_upn148_318))] ++ ((po ++ pl_of F W.shape))) _ := hP
          have hD : va_D A ([(uye, .inl (ct 1, TL, .inl g_uye)), (uno_, .inl (ct 1, TL, .inl g_uno_)), (q5_1, .inl (ct 1, n5_2, .inl j33_cq5_1)), (q15_1, .inl (ct 1, n5_2, .inl j33_cq15_1)), (mm, .inr (16, fs2_mm148_310)), (a_mm_20148_311, .inl (ct 5, PN2148_316, .inr (.inr (.inr (.inr k_upi148_315))))), (a_mm_21148_312, .inl (ct 1, PN2148_316, .inl k_upy148_317)), (a_mm_22148_313, .inl (ct 1, PN2148_316, .inl k_upn148_318))] ++ ((po ++ pl_of F W.shape))) := hD
          refine wv_widen (k := c148_339) (n := k148_340) (Nat.le_of_eq (FF.out ec148_339).symm) (Nat.le_of_eq (FF.out ek148_340).symm) (wv_eq (g2 := F0 m 151 ls []) rfl ?_)
          refine lv_goto (tgt := 212) hx hb dX16_wire_151 (by decide) ?_
          obtain ⟨u212_1m, lu212_1, u212_1⟩ := WIP.inv pt58_1 ct58_1 xt58_1 (AP.to hp148_333 (show z46_1.toInt = z46_1.toInt by omega)) (IP.to hp148_334 (show z46_1.toInt = z46_1.toInt by omega)) (IP.to hp148_335 (show z46_1.toInt = z46_1.toInt by omega)) (show z78_2.toInt = (j33_cmm22 z46_1.toNatClampNeg).toInt by have q0 := (congrArg Int32.toInt ez78_2); omega) (show z68_2.toInt = (j33_cmm21 z46_1.toNatClampNeg).toInt by have q0 := (congrArg Int32.toInt ez68_2); omega) (show y_mm_23148_314.toInt = z46_1.toInt + 1 by have q0 := FF.out hp148_327; omega)
          have u212_1 : WIR W F k_upi148_315 k_upy148_317 k_upn148_318 y_mm_23148_314.toInt j33_cq5_1 j33_cq15_1 x_mm_15.toInt u212_1m := u212_1
          have hk212_2 : FF (((u212_1m : Nat) : Int) < ((j33_nmu : Nat) : Int)) := FF.mk (Int.ofNat_lt.mpr lu212_1)
          refine lv_goto (tgt := 33) hx hb dX16_wire_212 (by decide) ?_
          exact ih33 c148_339 k148_340 a_mm_20148_311 PN2148_316 k_upi148_315 a_mm_21148_312 k_upy148_317 a_mm_22148_313 k_upn148_318 u212_1m j33_cq5_1 j33_cq15_1 fs2_mm148_310 y_mm_23148_314 H locs ls (show ((c148_339 : Nat) : Int) ≤ ((MC : Nat) : Int) by have q0 := FF.out hq5; have q1 := FF.out hi33_1019; have q2 := FF.out hp148_330; have q3 := FF.out hp148_331; have q4 := FF.out ec148_339; omega) (show ((k148_340 : Nat) : Int) ≤ ((MS : Nat) : Int) by have q0 := FF.out hq0; have q1 := FF.out hq1; have q2 := FF.out hq4; have q3 := FF.out ht3; have q4 := FF.out hi33_1020; have q5 := FF.out hp148_330; have q6 := FF.out hp148_332; have q7 := FF.out ek148_340; omega) (show ((PN2148_316 : Nat) : Int) ≤ 80000 by have q0 := FF.out hp148_330; omega) (show ((PN2148_316 : Nat) : Int) ≤ 80000 by have q0 := FF.out hp148_330; omega) (show ((PN2148_316 : Nat) : Int) ≤ 80000 by have q0 := FF.out hp148_330; omega) hs148_336 hf148_337 hf148_338 hp148_322 hp148_323 hp148_324 (rg_w hp148_325 (by decide)) hp148_326 u212_1 (EF.push (n2 := y_mm_23148_314.toInt) (EF.mono hg33_1015 (show z46_1.toInt ≤ j33_fmm_23.toInt by have q0 := (eq_sub ez46_1 r37_3 (show rg (1 : Int32) 1 1 from rg_l (by decide)) (by decide)); have q1 := (show (1 : Int32).toInt = 1 from by decide); omega)) hp148_333 mt58_1x (show y_mm_23148_314.toInt = z46_1.toInt + 1 by have q0 := FF.out hp148_327; omega)) (show y_mm_23148_314.toInt ≤ ((PN2148_316 : Nat) : Int) by have q0 := FF.out hp148_328; omega) (show ((PN : Nat) : Int) ≤ ((PN2148_316 : Nat) : Int) by have q0 := FF.out hi33_1017; have q1 := FF.out hp148_332; omega) (show ((PN2148_316 : Nat) : Int) ≤ 80000 by have q0 := FF.out hp148_330; omega) (show 64 * ((c148_339 : Nat) : Int) + 3 * ((PN : Nat) : Int) ≤ 3 * ((PN2148_316 : Nat) : Int) + 128 by have q0 := FF.out hi33_1019; have q1 := FF.out hp148_331; have q2 := FF.out ec148_339; omega) (show ((k148_340 : Nat) : Int) = 2 * x_mm_15.toInt + 6 * (((PN2148_316 : Nat) : Int) - ((PN : Nat) : Int)) by have q0 := FF.out hi33_1020; have q1 := FF.out hp148_332; have q2 := FF.out ek148_340; omega) (show ((u212_1m : Nat) : Int) ≤ 38000 by have q0 := FF.out hi33_1021; have q1 := FF.out hk212_2; omega) (show (((u212_1m : Nat) : Int)).toNat < n33 by have q0 := FF.out hk212_2; have q1 := hms33; omega) (lv_sub hl [3] rfl) hP hD hS
        · have ht58_1 := st58_1 _ ct58_1.1
          have mt58_1x := FT.memL ct58_1.2.1 (FSUB.tr ct58_1.2.2.2.2.2.1 st58_1)
          have mt58_1y := FT.memL ct58_1.2.2.1 (FSUB.tr ct58_1.2.2.2.2.2.2.1 st58_1)
          obtain ⟨kt58_1y, at58_1y, bt58_1y, lt58_1y, rt58_1y, gt58_1y, ht58_1y⟩ := mt58_1y
          have hi58_1 : vp_in z46_1 j33_lnmm_20 := (in_of (show 0 ≤ z46_1.toInt ∧ z46_1.toInt < ((j33_lnmm_20 : Nat) : Int) by have q0 := (eq_sub ez46_1 r37_3 (show rg (1 : Int32) 1 1 from rg_l (by decide)) (by decide)); have q1 := FF.out hi33_1016; have q2 := FF.out t37_2; have q3 := (show (0 : Int32).toInt = 0 from by decide); have q4 := (show (1 : Int32).toInt = 1 from by decide); omega))
          refine aq_ld hx hb hK hP 5 5 rfl rfl hi58_1 gt58_1 dX16_wire_58 ?_
          refine lv_astore_n (lv' := [(2, .ref t58_1t.root), (0, .ref mm)]) hx hb dX16_wire_59 rfl hl (by decide) rfl (fun ls hl => ?_)
          refine lv_aload_n hx hb dX16_wire_60 rfl (lv_at hl 1 rfl) ?_
          refine va_get (D := D) (ci := 16) (v := .ref j33_admm_21) (C := RX16) (T := TX16) (N := 78) hx hb (htX16 hn) (fun _ h => h) hown hK hP 4 rfl rfl 21 (by decide) (hn.get mw_1560 rfl) (fun _ h9 => h9) hfm47_1_21 dX16_wire_61 ?_
          refine lv_aload_n hx hb dX16_wire_64 rfl (lv_at hl 1 rfl) ?_
          refine va_get (D := D) (ci := 16) (v := .int z46_1) (C := RX16) (T := TX16) (N := 78) hx hb (htX16 hn) (fun _ h => h) hown hK hP 4 rfl rfl 23 (by decide) (hn.get mw_1562 rfl) (fun _ h9 => h9) hfm47_1_23 dX16_wire_65 ?_
          have hi68_1 : vp_in z46_1 j33_lnmm_20 := (in_of (show 0 ≤ z46_1.toInt ∧ z46_1.toInt < ((j33_lnmm_20 : Nat) : Int) by have q0 := (eq_sub ez46_1 r37_3 (show rg (1 : Int32) 1 1 from rg_l (by decide)) (by decide)); have q1 := FF.out hi33_1016; have q2 := FF.out t37_2; have q3 := (show (0 : Int32).toInt = 0 from by decide); have q4 := (show (1 : Int32).toInt = 1 from by decide); omega))
          refine va_iald hx hb hK hP 6 1 rfl rfl hi68_1 dX16_wire_68 ?_
          refine lv_topi (fun z68_2 ez68_2 => ?_)
          refine lv_istore_n (lv' := [(3, .int z68_2), (2, .ref t58_1t.root), (0, .ref mm)]) hx hb dX16_wire_69 rfl hl (by decide) rfl (fun ls hl => ?_)
          refine lv_aload_n hx hb dX16_wire_70 rfl (lv_at hl 2 rfl) ?_
          refine va_get (D := D) (ci := 16) (v := .ref j33_admm_22) (C := RX16) (T := TX16) (N := 78) hx hb (htX16 hn) (fun _ h => h) hown hK hP 4 rfl rfl 22 (by decide) (hn.get mw_1561 rfl) (fun _ h9 => h9) hfm47_1_22 dX16_wire_71 ?_
          refine lv_aload_n hx hb dX16_wire_74 rfl (lv_at hl 2 rfl) ?_
          refine va_get (D := D) (ci := 16) (v := .int z46_1) (C := RX16) (T := TX16) (N := 78) hx hb (htX16 hn) (fun _ h => h) hown hK hP 4 rfl rfl 23 (by decide) (hn.get mw_1562 rfl) (fun _ h9 => h9) hfm47_1_23 dX16_wire_75 ?_
          have hi78_1 : vp_in z46_1 j33_lnmm_20 := (in_of (show 0 ≤ z46_1.toInt ∧ z46_1.toInt < ((j33_lnmm_20 : Nat) : Int) by have q0 := (eq_sub ez46_1 r37_3 (show rg (1 : Int32) 1 1 from rg_l (by decide)) (by decide)); have q1 := FF.out hi33_1016; have q2 := FF.out t37_2; have q3 := (show (0 : Int32).toInt = 0 from by decide); have q4 := (show (1 : Int32).toInt = 1 from by decide); omega))
          refine va_iald hx hb hK hP 7 1 rfl rfl hi78_1 dX16_wire_78 ?_
          refine lv_topi (fun z78_2 ez78_2 => ?_)
          refine lv_istore (lv' := [(4, .int z78_2), (3, .int z68_2), (2, .ref t58_1t.root), (0, .ref mm)]) hx hb dX16_wire_79 hl (by decide) rfl (fun ls hl => ?_)
          refine lv_aload_n hx hb dX16_wire_81 rfl (lv_at hl 2 rfl) ?_
          obtain ⟨k82_1, hk82_1⟩ := pl_get (X := [(uye, .inl (ct 1, TL, .inl g_uye)), (uno_, .inl (ct 1, TL, .inl g_uno_)), (q5_1, .inl (ct 1, n5_2, .inl j33_cq5_1)), (q15_1, .inl (ct 1, n5_2, .inl j33_cq15_1)), (mm, .inr (16, m47_1)), (j33_admm_20, .inl (ct 5, j33_lnmm_20, .inr (.inr (.inr (.inr j33_cmm20))))), (j33_admm_21, .inl (ct 1, j33_lnmm_20, .inl j33_cmm21)), (j33_admm_22, .inl (ct 1, j33_lnmm_20, .inl j33_cmm22))]) (fl_mem (po := po) (F := F) ht58_1)
          refine va_get (D := D) (ci := 12) (v := .int 1) (C := RX12) (T := TX12) (N := 7) hx hb (htX12 hn) (fun _ h => h) hown hK hP k82_1 hk82_1 rfl 0 (by decide) (hn.get mw_1975 rfl) (fun _ h9 => h9) rfl dX16_wire_82 ?_
          refine lv_tableIn (off := 69) (tgt := 154) hx hb dX16_wire_85 (by decide) (by decide) (by decide) (by decide) ?_
          refine lv_aload_n hx hb dX16_wire_154 rfl (lv_at hl 3 rfl) ?_
          refine lv_aload_n hx hb dX16_wire_155 rfl (lv_at hl 2 rfl) ?_
          obtain ⟨k156_1, hk156_1⟩ := pl_get (X := [(uye, .inl (ct 1, TL, .inl g_uye)), (uno_, .inl (ct 1, TL, .inl g_uno_)), (q5_1, .inl (ct 1, n5_2, .inl j33_cq5_1)), (q15_1, .inl (ct 1, n5_2, .inl j33_cq15_1)), (mm, .inr (16, m47_1)), (j33_admm_20, .inl (ct 5, j33_lnmm_20, .inr (.inr (.inr (.inr j33_cmm20))))), (j33_admm_21, .inl (ct 1, j33_lnmm_20, .inl j33_cmm21)), (j33_admm_22, .inl (ct 1, j33_lnmm_20, .inl j33_cmm22))]) (fl_mem (po := po) (F := F) ht58_1)
          refine va_get (D := D) (ci := 12) (v := .ref t58_1x.root) (C := RX12) (T := TX12) (N := 7) hx hb (htX12 hn) (fun _ h => h) hown hK hP k156_1 hk156_1 rfl 1 (by decide) (hn.get mw_1977 rfl) (fun _ h9 => h9) rfl dX16_wire_156 ?_
          refine lv_aload_n hx hb dX16_wire_159 rfl (lv_at hl 2 rfl) ?_
          obtain ⟨k160_1, hk160_1⟩ := pl_get (X := [(uye, .inl (ct 1, TL, .inl g_uye)), (uno_, .inl (ct 1, TL, .inl g_uno_)), (q5_1, .inl (ct 1, n5_2, .inl j33_cq5_1)), (q15_1, .inl (ct 1, n5_2, .inl j33_cq15_1)), (mm, .inr (16, m47_1)), (j33_admm_20, .inl (ct 5, j33_lnmm_20, .inr (.inr (.inr (.inr j33_cmm20))))), (j33_admm_21, .inl (ct 1, j33_lnmm_20, .inl j33_cmm21)), (j33_admm_22, .inl (ct 1, j33_lnmm_20, .inl j33_cmm22))]) (fl_mem (po := po) (F := F) ht58_1)
          refine va_get (D := D) (ci := 12) (v := .ref t58_1y.root) (C := RX12) (T := TX12) (N := 7) hx hb (htX12 hn) (fun _ h => h) hown hK hP k160_1 hk160_1 rfl 2 (by decide) (hn.get mw_1979 rfl) (fun _ h9 => h9) rfl dX16_wire_160 ?_
          obtain ⟨k163_1, hk163_1⟩ := pl_get (X := [(uye, .inl (ct 1, TL, .inl g_uye)), (uno_, .inl (ct 1, TL, .inl g_uno_)), (q5_1, .inl (ct 1, n5_2, .inl j33_cq5_1)), (q15_1, .inl (ct 1, n5_2, .inl j33_cq15_1)), (mm, .inr (16, m47_1)), (j33_admm_20, .inl (ct 5, j33_lnmm_20, .inr (.inr (.inr (.inr j33_cmm20))))), (j33_admm_21, .inl (ct 1, j33_lnmm_20, .inl j33_cmm21)), (j33_admm_22, .inl (ct 1, j33_lnmm_20, .inl j33_cmm22))]) (fl_mem (po := po) (F := F) ht58_1y)
          refine va_get (D := D) (ci := 12) (v := .int (F t58_1y.root)) (C := RX12) (T := TX12) (N := 7) hx hb (htX12 hn) (fun _ h => h) hown hK hP k163_1 hk163_1 rfl 6 (by decide) (hn.get mw_1986 rfl) (fun _ h9 => h9) rfl dX16_wire_163 ?_
          refine lv_topi (fun z163_2 ez163_2 => ?_)
          refine lv_iload hx hb dX16_wire_166 (lv_at hl 0 rfl) ?_
          obtain ⟨m168_1, gm168_1⟩ : ∃ m9 : Nat, m9 + j33_accC = MC := ⟨MC - j33_accC, Nat.sub_add_cancel (Int.ofNat_le.mp (FF.out hm33_1001))⟩
          have em168_1 := FF.mk gm168_1
          obtain ⟨m168_2, gm168_2⟩ : ∃ m9 : Nat, m9 + j33_accS = MS := ⟨MS - j33_accS, Nat.sub_add_cancel (Int.ofNat_le.mp (FF.out hm33_1002))⟩
          have em168_2 := FF.mk gm168_2
          refine gt_P (pl := ((po ++ pl_of F W.shape))) (pl1 := fun _ => ((po ++ pl_of F W.shape))) (wr := [(uye, .inl (ct 1, TL, .inl g_uye)), (uno_, .inl (ct 1, TL, .inl g_uno_)), (q5_1, .inl (ct 1, n5_2, .inl j33_cq5_1)), (q15_1, .inl (ct 1, n5_2, .inl j33_cq15_1))]) [4, 5, 6, 7] [0, 1, 2, 3] (rt_V (As := [.ref t58_1x.root, .int z163_2, .int z78_2]) (rest := []) (c_X16_push l hst D ct m168_1 m168_2 ((po ++ pl_of F W.shape)) mm t58_1x.root _ z163_2 z78_2 m47_1 j33_admm_20 j33_admm_21 j33_admm_22 z46_1 j33_cmm20 j33_lnmm_20 j33_cmm21 j33_cmm22 (FND.mem mt58_1x po F).choose_spec (hsm47_1.1.trans hlen_mm) hfm47_1_20 hfm47_1_21 hfm47_1_22 r46_2 hfm47_1_23 (show ((j33_lnmm_20 : Nat) : Int) ≤ 80000 by have q0 := FF.out hi33_1018; omega) (show 64 ≤ ((j33_lnmm_20 : Nat) : Int) by have q0 := FF.out hq3; have q1 := FF.out hi33_1017; omega) (show z46_1.toInt ≤ ((j33_lnmm_20 : Nat) : Int) by have q0 := (eq_sub ez46_1 r37_3 (show rg (1 : Int32) 1 1 from rg_l (by decide)) (by decide)); have q1 := FF.out hi33_1016; have q2 := (show (1 : Int32).toInt = 1 from by decide); omega) (show 480000 ≤ ((m168_2 : Nat) : Int) + 6 * ((j33_lnmm_20 : Nat) : Int) by have q0 := FF.out hq0; have q1 := FF.out hq1; have q2 := FF.out hq4; have q3 := FF.out ht3; have q4 := FF.out hi33_1020; have q5 := FF.out em168_2; omega) (show 240192 ≤ 64 * ((m168_1 : Nat) : Int) + 3 * ((j33_lnmm_20 : Nat) : Int) by have q0 := FF.out hq5; have q1 := FF.out hi33_1019; have q2 := FF.out em168_1; omega) (EF.el (EF.mono hg33_1015 (show z46_1.toInt ≤ j33_fmm_23.toInt by have q0 := (eq_sub ez46_1 r37_3 (show rg (1 : Int32) 1 1 from rg_l (by decide)) (by decide)); have q1 := (show (1 : Int32).toInt = 1 from by decide); omega))) _) (cb_of (n := 3) hn mw_2215 mw_13 mw_2212 mhX16_push ⟨(Nat.le_of_ble_eq_true rfl), (Nat.le_of_ble_eq_true rfl)⟩) hx hb hml hown hn hK hSK hZ hS mw_2214 mw_s204 (ci := 16) (q0 := 0) rfl rfl rfl rfl hl.1 (Nat.le_of_ble_eq_true rfl) dX16_wire_168 ⟨(Nat.le_of_eq ((Nat.add_comm _ _).trans gm168_1)), (Nat.le_of_eq ((Nat.add_comm _ _).trans gm168_2))⟩) hP hD hS hA rfl rfl (by decide) (by decide) (by decide) (fun xq168_6 ux168_7 xfs168_8 H locs hpx168_9 hpexfs168_8 hP hD hS => ?_) (fun r168_3 u168_4 H locs hp168_5 hP hD hS => ?_)
          · exact hpx168_9.elim
          obtain ⟨fs2_mm168_310, a_mm_20168_311, a_mm_21168_312, a_mm_22168_313, y_mm_23168_314, k_upi168_315, PN2168_316, k_upy168_317, k_upn168_318, kc168_319, kn168_320⟩ := u168_4
          obtain ⟨hp168_321, hp168_322, hp168_323, hp168_324, hp168_325, hp168_326, hp168_327, hp168_328, hp168_329, hp168_330, hp168_331, hp168_332, hp168_333, hp168_334, hp168_335⟩ := hp168_5
          have hs168_336 : SB fs_mm fs2_mm168_310 [16, 17, 20, 21, 22, 23] := SB.trans hsm47_1 hp168_321 (by decide)
          have hf168_337 : fs2_mm168_310[16]? = some (.ref q5_1) := SB.get hp168_321 (by decide) hfm47_1_16
          have hf168_338 : fs2_mm168_310[17]? = some (.ref q15_1) := SB.get hp168_321 (by decide) hfm47_1_17
          have hp168_325 : rg y_mm_23168_314 1 40000 := hp168_325
          replace hp168_327 : FF (y_mm_23168_314.toInt = z46_1.toInt + 1) := hp168_327
          replace hp168_328 : FF (y_mm_23168_314.toInt ≤ ((PN2168_316 : Nat) : Int)) := hp168_328
          replace hp168_329 : FF (((j33_lnmm_20 : Nat) : Int) ≤ ((PN2168_316 : Nat) : Int)) := hp168_329
          replace hp168_330 : FF (((PN2168_316 : Nat) : Int) ≤ 80000) := hp168_330
          replace hp168_331 : FF (64 * ((kc168_319 : Nat) : Int) + 3 * ((j33_lnmm_20 : Nat) : Int) ≤ 3 * ((PN2168_316 : Nat) : Int)) := hp168_331
          replace hp168_332 : FF (((kn168_320 : Nat) : Int) = 6 * (((PN2168_316 : Nat) : Int) - ((j33_lnmm_20 : Nat) : Int))) := hp168_332
          have hp168_333 : AP j33_cmm20 k_upi168_315 z46_1.toInt t58_1x.root := hp168_333
          have hp168_334 : IP j33_cmm21 k_upy168_317 z46_1.toInt z163_2.toInt := hp168_334
          have hp168_335 : IP j33_cmm22 k_upn168_318 z46_1.toInt z78_2.toInt := hp168_335
          obtain ⟨c168_339, ec168_339⟩ : ∃ x9 : Nat, x9 = j33_accC + kc168_319 := ⟨_, rfl⟩
          have ec168_339 := FF.mk ec168_339
          have mc168_339 : FF (c168_339 ≤ MC) := FF.mk (Int.ofNat_le.mp (show ((c168_339 : Nat) : Int) ≤ ((MC : Nat) : Int) by have q0 := FF.out hq5; have q1 := FF.out hi33_1019; have q2 := FF.out hp168_330; have q3 := FF.out hp168_331; have q4 := FF.out ec168_339; omega))
          obtain ⟨k168_340, ek168_340⟩ : ∃ x9 : Nat, x9 = j33_accS + kn168_320 := ⟨_, rfl⟩
          have ek168_340 := FF.mk ek168_340
          have mk168_340 : FF (k168_340 ≤ MS) := FF.mk (Int.ofNat_le.mp (show ((k168_340 : Nat) : Int) ≤ ((MS : Nat) : Int) by have q0 := FF.out hq0; have q1 := FF.out hq1; have q2 := FF.out hq4; have q3 := FF.out ht3; have q4 := FF.out hi33_1020; have q5 := FF.out hp168_330; have q6 := FF.out hp168_332; have q7 := FF.out ek168_340; omega))
          have hP : va_P D vwCl ([(uye, .inl (ct 1, TL, .inl g_uye)), (uno_, .inl (ct 1, TL, .inl g_uno_)), (q5_1, .inl (ct 1, n5_2, .inl j33_cq5_1)), (q15_1, .inl (ct 1, n5_2, .inl j33_cq15_1)), (mm, .inr (16, fs2_mm168_310)), (a_mm_20168_311, .inl (ct 5, PN2168_316, .inr (.inr (.inr (.inr k_upi168_315))))), (a_mm_21168_312, .inl (ct 1, PN2168_316, .inl k_upy168_317)), (a_mm_22168_313, .inl (ct 1, PN2168_316, .inl k_upn168_318))] ++ ((po ++ pl_of F W.shape))) _ := hP
          have hD : va_D A ([(uye, .inl (ct 1, TL, .inl g_uye)), (uno_, .inl (ct 1, TL, .inl g_uno_)), (q5_1, .inl (ct 1, n5_2, .inl j33_cq5_1)), (q15_1, .inl (ct 1, n5_2, .inl j33_cq15_1)), (mm, .inr (16, fs2_mm168_310)), (a_mm_20168_311, .inl (ct 5, PN2168_316, .inr (.inr (.inr (.inr k_upi168_315))))), (a_mm_21168_312, .inl (ct 1, PN2168_316, .inl k_upy168_317)), (a_mm_22168_313, .inl (ct 1, PN2168_316, .inl k_upn168_318))] ++ ((po ++ pl_of F W.shape))) := hD
          refine wv_widen (k := c168_339) (n := k168_340) (Nat.le_of_eq (FF.out ec168_339).symm) (Nat.le_of_eq (FF.out ek168_340).symm) (wv_eq (g2 := F0 m 171 ls []) rfl ?_)
          refine lv_aload_n hx hb dX16_wire_171 rfl (lv_at hl 3 rfl) ?_
          refine lv_aload_n hx hb dX16_wire_172 rfl (lv_at hl 2 rfl) ?_
          obtain ⟨k173_1, hk173_1⟩ := pl_get (X := [(uye, .inl (ct 1, TL, .inl g_uye)), (uno_, .inl (ct 1, TL, .inl g_uno_)), (q5_1, .inl (ct 1, n5_2, .inl j33_cq5_1)), (q15_1, .inl (ct 1, n5_2, .inl j33_cq15_1)), (mm, .inr (16, fs2_mm168_310)), (a_mm_20168_311, .inl (ct 5, PN2168_316, .inr (.inr (.inr (.inr k_upi168_315))))), (a_mm_21168_312, .inl (ct 1, PN2168_316, .inl k_upy168_317)), (a_mm_22168_313, .inl (ct 1, PN2168_316, .inl k_upn168_318))]) (fl_mem (po := po) (F := F) ht58_1)
          refine va_get (D := D) (ci := 12) (v := .ref t58_1y.root) (C := RX12) (T := TX12) (N := 7) hx hb (htX12 hn) (fun _ h => h) hown hK hP k173_1 hk173_1 rfl 2 (by decide) (hn.get mw_1979 rfl) (fun _ h9 => h9) rfl dX16_wire_173 ?_
          refine lv_iload_n hx hb dX16_wire_176 rfl (lv_at hl 1 rfl) ?_
          refine lv_iload hx hb dX16_wire_177 (lv_at hl 0 rfl) ?_
          obtain ⟨m179_1, gm179_1⟩ : ∃ m9 : Nat, m9 + c168_339 = MC := ⟨MC - c168_339, Nat.sub_add_cancel (FF.out mc168_339)⟩
          have em179_1 := FF.mk gm179_1
          obtain ⟨m179_2, gm179_2⟩ : ∃ m9 : Nat, m9 + k168_340 = MS := ⟨MS - k168_340, Nat.sub_add_cancel (FF.out mk168_340)⟩
          have em179_2 := FF.mk gm179_2
          refine gt_P (pl := ((po ++ pl_of F W.shape))) (pl1 := fun _ => ((po ++ pl_of F W.shape))) (wr := [(uye, .inl (ct 1, TL, .inl g_uye)), (uno_, .inl (ct 1, TL, .inl g_uno_)), (q5_1, .inl (ct 1, n5_2, .inl j33_cq5_1)), (q15_1, .inl (ct 1, n5_2, .inl j33_cq15_1))]) [4, 5, 6, 7] [0, 1, 2, 3] (rt_V (As := [.ref t58_1y.root, .int z68_2, .int z78_2]) (rest := []) (c_X16_push l hst D ct m179_1 m179_2 ((po ++ pl_of F W.shape)) mm t58_1y.root _ z68_2 z78_2 fs2_mm168_310 a_mm_20168_311 a_mm_21168_312 a_mm_22168_313 y_mm_23168_314 k_upi168_315 PN2168_316 k_upy168_317 k_upn168_318 (fl_mem (po := po) (F := F) ht58_1y) (hs168_336.1.trans hlen_mm) hp168_322 hp168_323 hp168_324 (rg_of (show 0 ≤ y_mm_23168_314.toInt ∧ y_mm_23168_314.toInt ≤ 39999 by have q0 := (eq_sub ez46_1 r37_3 (show rg (1 : Int32) 1 1 from rg_l (by decide)) (by decide)); have q1 := FF.out hi33_1021; have q2 := FF.out hk34_1; have q3 := FF.out t37_2; have q4 := FF.out hp168_327; have q5 := (show (0 : Int32).toInt = 0 from by decide); have q6 := (show (1 : Int32).toInt = 1 from by decide); omega)) hp168_326 (show ((PN2168_316 : Nat) : Int) ≤ 80000 by have q0 := FF.out hp168_330; omega) (show 64 ≤ ((PN2168_316 : Nat) : Int) by have q0 := FF.out hq3; have q1 := FF.out hi33_1017; have q2 := FF.out hp168_329; omega) (show y_mm_23168_314.toInt ≤ ((PN2168_316 : Nat) : Int) by have q0 := FF.out hp168_328; omega) (show 480000 ≤ ((m179_2 : Nat) : Int) + 6 * ((PN2168_316 : Nat) : Int) by have q0 := FF.out hq0; have q1 := FF.out hq1; have q2 := FF.out hq4; have q3 := FF.out ht3; have q4 := FF.out hi33_1020; have q5 := FF.out hp168_332; have q6 := FF.out ek168_340; have q7 := FF.out em179_2; omega) (show 240192 ≤ 64 * ((m179_1 : Nat) : Int) + 3 * ((PN2168_316 : Nat) : Int) by have q0 := FF.out hq5; have q1 := FF.out hi33_1019; have q2 := FF.out hp168_331; have q3 := FF.out ec168_339; have q4 := FF.out em179_1; omega) (EF.el (EF.push (n2 := y_mm_23168_314.toInt) (EF.mono hg33_1015 (show z46_1.toInt ≤ j33_fmm_23.toInt by have q0 := (eq_sub ez46_1 r37_3 (show rg (1 : Int32) 1 1 from rg_l (by decide)) (by decide)); have q1 := (show (1 : Int32).toInt = 1 from by decide); omega)) hp168_333 mt58_1x (show y_mm_23168_314.toInt = z46_1.toInt + 1 by have q0 := FF.out hp168_327; omega))) _) (cb_of (n := 3) hn mw_2215 mw_13 mw_2212 mhX16_push ⟨(Nat.le_of_ble_eq_true rfl), (Nat.le_of_ble_eq_true rfl)⟩) hx hb hml hown hn hK hSK hZ hS mw_2214 mw_s204 (ci := 16) (q0 := 0) rfl rfl rfl rfl hl.1 (Nat.le_of_ble_eq_true rfl) dX16_wire_179 ⟨(Nat.le_of_eq ((Nat.add_comm _ _).trans gm179_1)), (Nat.le_of_eq ((Nat.add_comm _ _).trans gm179_2))⟩) hP hD hS hA rfl rfl (by decide) (by decide) (by decide) (fun xq179_6 ux179_7 xfs179_8 H locs hpx179_9 hpexfs179_8 hP hD hS => ?_) (fun r179_3 u179_4 H locs hp179_5 hP hD hS => ?_)
          · exact hpx179_9.elim
          obtain ⟨fs2_mm179_310, a_mm_20179_311, a_mm_21179_312, a_mm_22179_313, y_mm_23179_314, k_upi179_315, PN2179_316, k_upy179_317, k_upn179_318, kc179_319, kn179_320⟩ := u179_4
          obtain ⟨hp179_321, hp179_322, hp179_323, hp179_324, hp179_325, hp179_326, hp179_327, hp179_328, hp179_329, hp179_330, hp179_331, hp179_332, hp179_333, hp179_334, hp179_335⟩ := hp179_5
          have hs179_336 : SB fs_mm fs2_mm179_310 [16, 17, 20, 21, 22, 23] := SB.trans hs168_336 hp179_321 (by decide)
          have hf179_337 : fs2_mm179_310[16]? = some (.ref q5_1) := SB.get hp179_321 (by decide) hf168_337
          have hf179_338 : fs2_mm179_310[17]? = some (.ref q15_1) := SB.get hp179_321 (by decide) hf168_338
          have hp179_325 : rg y_mm_23179_314 1 40000 := hp179_325
          replace hp179_327 : FF (y_mm_23179_314.toInt = y_mm_23168_314.toInt + 1) := hp179_327
          replace hp179_328 : FF (y_mm_23179_314.toInt ≤ ((PN2179_316 : Nat) : Int)) := hp179_328
          replace hp179_329 : FF (((PN2168_316 : Nat) : Int) ≤ ((PN2179_316 : Nat) : Int)) := hp179_329
          replace hp179_330 : FF (((PN2179_316 : Nat) : Int) ≤ 80000) := hp179_330
          replace hp179_331 : FF (64 * ((kc179_319 : Nat) : Int) + 3 * ((PN2168_316 : Nat) : Int) ≤ 3 * ((PN2179_316 : Nat) : Int)) := hp179_331
          replace hp179_332 : FF (((kn179_320 : Nat) : Int) = 6 * (((PN2179_316 : Nat) : Int) - ((PN2168_316 : Nat) : Int))) := hp179_332
          have hp179_333 : AP k_upi168_315 k_upi179_315 y_mm_23168_314.toInt t58_1y.root := hp179_333
          have hp179_334 : IP k_upy168_317 k_upy179_317 y_mm_23168_314.toInt z68_2.toInt := hp179_334
          have hp179_335 : IP k_upn168_318 k_upn179_318 y_mm_23168_314.toInt z78_2.toInt := hp179_335
          obtain ⟨c179_339, ec179_339⟩ : ∃ x9 : Nat, x9 = c168_339 + kc179_319 := ⟨_, rfl⟩
          have ec179_339 := FF.mk ec179_339
          have mc179_339 : FF (c179_339 ≤ MC) := FF.mk (Int.ofNat_le.mp (show ((c179_339 : Nat) : Int) ≤ ((MC : Nat) : Int) by have q0 := FF.out hq5; have q1 := FF.out hi33_1019; have q2 := FF.out hp168_331; have q3 := FF.out ec168_339; have q4 := FF.out hp179_330; have q5 := FF.out hp179_331; have q6 := FF.out ec179_339; omega))
          obtain ⟨k179_340, ek179_340⟩ : ∃ x9 : Nat, x9 = k168_340 + kn179_320 := ⟨_, rfl⟩
          have ek179_340 := FF.mk ek179_340
          have mk179_340 : FF (k179_340 ≤ MS) := FF.mk (Int.ofNat_le.mp (show ((k179_340 : Nat) : Int) ≤ ((MS : Nat) : Int) by have q0 := FF.out hq0; have q1 := FF.out hq1; have q2 := FF.out hq4; have q3 := FF.out ht3; have q4 := FF.out hi33_1020; have q5 := FF.out hp168_332; have q6 := FF.out ek168_340; have q7 := FF.out hp179_330; have q8 := FF.out hp179_332; have q9 := FF.out ek179_340; omega))
          have hP : va_P D vwCl ([(uye, .inl (ct 1, TL, .inl g_uye)), (uno_, .inl (ct 1, TL, .inl g_uno_)), (q5_1, .inl (ct 1, n5_2, .inl j33_cq5_1)), (q15_1, .inl (ct 1, n5_2, .inl j33_cq15_1)), (mm, .inr (16, fs2_mm179_310)), (a_mm_20179_311, .inl (ct 5, PN2179_316, .inr (.inr (.inr (.inr k_upi179_315))))), (a_mm_21179_312, .inl (ct 1, PN2179_316, .inl k_upy179_317)), (a_mm_22179_313, .inl (ct 1, PN2179_316, .inl k_upn179_318))] ++ ((po ++ pl_of F W.shape))) _ := hP
          have hD : va_D A ([(uye, .inl (ct 1, TL, .inl g_uye)), (uno_, .inl (ct 1, TL, .inl g_uno_)), (q5_1, .inl (ct 1, n5_2, .inl j33_cq5_1)), (q15_1, .inl (ct 1, n5_2, .inl j33_cq15_1)), (mm, .inr (16, fs2_mm179_310)), (a_mm_20179_311, .inl (ct 5, PN2179_316, .inr (.inr (.inr (.inr k_upi179_315))))), (a_mm_21179_312, .inl (ct 1, PN2179_316, .inl k_upy179_317)), (a_mm_22179_313, .inl (ct 1, PN2179_316, .inl k_upn179_318))] ++ ((po ++ pl_of F W.shape))) := hD
          refine wv_widen (k := c179_339) (n := k179_340) (Nat.le_of_eq (FF.out ec179_339).symm) (Nat.le_of_eq (FF.out ek179_340).symm) (wv_eq (g2 := F0 m 182 ls []) rfl ?_)
          refine lv_goto (tgt := 212) hx hb dX16_wire_182 (by decide) ?_
          obtain ⟨u212_1m, lu212_1, u212_1⟩ := WIP.bin pt58_1 (Or.inl ct58_1) xt58_1 yt58_1 (AP.to hp168_333 (show z46_1.toInt = z46_1.toInt by omega)) (IP.to hp168_334 (show z46_1.toInt = z46_1.toInt by omega)) (IP.to hp168_335 (show z46_1.toInt = z46_1.toInt by omega)) (show y_mm_23168_314.toInt = z46_1.toInt + 1 by have q0 := FF.out hp168_327; omega) hp179_333 (IP.to hp179_334 (show y_mm_23168_314.toInt = y_mm_23168_314.toInt by omega)) (IP.to hp179_335 (show y_mm_23168_314.toInt = y_mm_23168_314.toInt by omega)) (show y_mm_23179_314.toInt = z46_1.toInt + 2 by have q0 := FF.out hp168_327; have q1 := FF.out hp179_327; omega) (show z68_2.toInt = (j33_cmm21 z46_1.toNatClampNeg).toInt by have q0 := (congrArg Int32.toInt ez68_2); omega) (show z78_2.toInt = (j33_cmm22 z46_1.toNatClampNeg).toInt by have q0 := (congrArg Int32.toInt ez78_2); omega) (Or.inr (show z163_2.toInt = (F t58_1y.root).toInt by have q0 := (congrArg Int32.toInt ez163_2); omega)) (Or.inl (show z78_2.toInt = (j33_cmm22 z46_1.toNatClampNeg).toInt by have q0 := (congrArg Int32.toInt ez78_2); omega))
          have u212_1 : WIR W F k_upi179_315 k_upy179_317 k_upn179_318 y_mm_23179_314.toInt j33_cq5_1 j33_cq15_1 x_mm_15.toInt u212_1m := u212_1
          have hk212_2 : FF (((u212_1m : Nat) : Int) < ((j33_nmu : Nat) : Int)) := FF.mk (Int.ofNat_lt.mpr lu212_1)
          refine lv_goto (tgt := 33) hx hb dX16_wire_212 (by decide) ?_
          exact ih33 c179_339 k179_340 a_mm_20179_311 PN2179_316 k_upi179_315 a_mm_21179_312 k_upy179_317 a_mm_22179_313 k_upn179_318 u212_1m j33_cq5_1 j33_cq15_1 fs2_mm179_310 y_mm_23179_314 H locs ls (show ((c179_339 : Nat) : Int) ≤ ((MC : Nat) : Int) by have q0 := FF.out hq5; have q1 := FF.out hi33_1019; have q2 := FF.out hp168_331; have q3 := FF.out ec168_339; have q4 := FF.out hp179_330; have q5 := FF.out hp179_331; have q6 := FF.out ec179_339; omega) (show ((k179_340 : Nat) : Int) ≤ ((MS : Nat) : Int) by have q0 := FF.out hq0; have q1 := FF.out hq1; have q2 := FF.out hq4; have q3 := FF.out ht3; have q4 := FF.out hi33_1020; have q5 := FF.out hp168_332; have q6 := FF.out ek168_340; have q7 := FF.out hp179_330; have q8 := FF.out hp179_332; have q9 := FF.out ek179_340; omega) (show ((PN2179_316 : Nat) : Int) ≤ 80000 by have q0 := FF.out hp179_330; omega) (show ((PN2179_316 : Nat) : Int) ≤ 80000 by have q0 := FF.out hp179_330; omega) (show ((PN2179_316 : Nat) : Int) ≤ 80000 by have q0 := FF.out hp179_330; omega) hs179_336 hf179_337 hf179_338 hp179_322 hp179_323 hp179_324 (rg_w hp179_325 (by decide)) hp179_326 u212_1 (EF.push (n2 := y_mm_23179_314.toInt) (EF.push (n2 := y_mm_23168_314.toInt) (EF.mono hg33_1015 (show z46_1.toInt ≤ j33_fmm_23.toInt by have q0 := (eq_sub ez46_1 r37_3 (show rg (1 : Int32) 1 1 from rg_l (by decide)) (by decide)); have q1 := (show (1 : Int32).toInt = 1 from by decide); omega)) hp168_333 mt58_1x (show y_mm_23168_314.toInt = z46_1.toInt + 1 by have q0 := FF.out hp168_327; omega)) hp179_333 ⟨_, _, _, _, _, _, ht58_1y⟩ (show y_mm_23179_314.toInt = y_mm_23168_314.toInt + 1 by have q0 := FF.out hp179_327; omega)) (show y_mm_23179_314.toInt ≤ ((PN2179_316 : Nat) : Int) by have q0 := FF.out hp179_328; omega) (show ((PN : Nat) : Int) ≤ ((PN2179_316 : Nat) : Int) by have q0 := FF.out hi33_1017; have q1 := FF.out hp168_332; have q2 := FF.out hp179_332; omega) (show ((PN2179_316 : Nat) : Int) ≤ 80000 by have q0 := FF.out hp179_330; omega) (show 64 * ((c179_339 : Nat) : Int) + 3 * ((PN : Nat) : Int) ≤ 3 * ((PN2179_316 : Nat) : Int) + 128 by have q0 := FF.out hi33_1019; have q1 := FF.out hp168_331; have q2 := FF.out ec168_339; have q3 := FF.out hp179_331; have q4 := FF.out ec179_339; omega) (show ((k179_340 : Nat) : Int) = 2 * x_mm_15.toInt + 6 * (((PN2179_316 : Nat) : Int) - ((PN : Nat) : Int)) by have q0 := FF.out hi33_1020; have q1 := FF.out hp168_332; have q2 := FF.out ek168_340; have q3 := FF.out hp179_332; have q4 := FF.out ek179_340; omega) (show ((u212_1m : Nat) : Int) ≤ 38000 by have q0 := FF.out hi33_1021; have q1 := FF.out hk212_2; omega) (show (((u212_1m : Nat) : Int)).toNat < n33 by have q0 := FF.out hk212_2; have q1 := hms33; omega) (lv_sub hl [3] rfl) hP hD hS
        · have ht58_1 := st58_1 _ ct58_1.1
          have mt58_1x := FT.memL ct58_1.2.1 (FSUB.tr ct58_1.2.2.2.2.2.1 st58_1)
          have mt58_1y := FT.memL ct58_1.2.2.1 (FSUB.tr ct58_1.2.2.2.2.2.2.1 st58_1)
          obtain ⟨kt58_1y, at58_1y, bt58_1y, lt58_1y, rt58_1y, gt58_1y, ht58_1y⟩ := mt58_1y
          have hi58_1 : vp_in z46_1 j33_lnmm_20 := (in_of (show 0 ≤ z46_1.toInt ∧ z46_1.toInt < ((j33_lnmm_20 : Nat) : Int) by have q0 := (eq_sub ez46_1 r37_3 (show rg (1 : Int32) 1 1 from rg_l (by decide)) (by decide)); have q1 := FF.out hi33_1016; have q2 := FF.out t37_2; have q3 := (show (0 : Int32).toInt = 0 from by decide); have q4 := (show (1 : Int32).toInt = 1 from by decide); omega))
          refine aq_ld hx hb hK hP 5 5 rfl rfl hi58_1 gt58_1 dX16_wire_58 ?_
          refine lv_astore_n (lv' := [(2, .ref t58_1t.root), (0, .ref mm)]) hx hb dX16_wire_59 rfl hl (by decide) rfl (fun ls hl => ?_)
          refine lv_aload_n hx hb dX16_wire_60 rfl (lv_at hl 1 rfl) ?_
          refine va_get (D := D) (ci := 16) (v := .ref j33_admm_21) (C := RX16) (T := TX16) (N := 78) hx hb (htX16 hn) (fun _ h => h) hown hK hP 4 rfl rfl 21 (by decide) (hn.get mw_1560 rfl) (fun _ h9 => h9) hfm47_1_21 dX16_wire_61 ?_
          refine lv_aload_n hx hb dX16_wire_64 rfl (lv_at hl 1 rfl) ?_
          refine va_get (D := D) (ci := 16) (v := .int z46_1) (C := RX16) (T := TX16) (N := 78) hx hb (htX16 hn) (fun _ h => h) hown hK hP 4 rfl rfl 23 (by decide) (hn.get mw_1562 rfl) (fun _ h9 => h9) hfm47_1_23 dX16_wire_65 ?_
          have hi68_1 : vp_in z46_1 j33_lnmm_20 := (in_of (show 0 ≤ z46_1.toInt ∧ z46_1.toInt < ((j33_lnmm_20 : Nat) : Int) by have q0 := (eq_sub ez46_1 r37_3 (show rg (1 : Int32) 1 1 from rg_l (by decide)) (by decide)); have q1 := FF.out hi33_1016; have q2 := FF.out t37_2; have q3 := (show (0 : Int32).toInt = 0 from by decide); have q4 := (show (1 : Int32).toInt = 1 from by decide); omega))
          refine va_iald hx hb hK hP 6 1 rfl rfl hi68_1 dX16_wire_68 ?_
          refine lv_topi (fun z68_2 ez68_2 => ?_)
          refine lv_istore_n (lv' := [(3, .int z68_2), (2, .ref t58_1t.root), (0, .ref mm)]) hx hb dX16_wire_69 rfl hl (by decide) rfl (fun ls hl => ?_)
          refine lv_aload_n hx hb dX16_wire_70 rfl (lv_at hl 2 rfl) ?_
          refine va_get (D := D) (ci := 16) (v := .ref j33_admm_22) (C := RX16) (T := TX16) (N := 78) hx hb (htX16 hn) (fun _ h => h) hown hK hP 4 rfl rfl 22 (by decide) (hn.get mw_1561 rfl) (fun _ h9 => h9) hfm47_1_22 dX16_wire_71 ?_
          refine lv_aload_n hx hb dX16_wire_74 rfl (lv_at hl 2 rfl) ?_
          refine va_get (D := D) (ci := 16) (v := .int z46_1) (C := RX16) (T := TX16) (N := 78) hx hb (htX16 hn) (fun _ h => h) hown hK hP 4 rfl rfl 23 (by decide) (hn.get mw_1562 rfl) (fun _ h9 => h9) hfm47_1_23 dX16_wire_75 ?_
          have hi78_1 : vp_in z46_1 j33_lnmm_20 := (in_of (show 0 ≤ z46_1.toInt ∧ z46_1.toInt < ((j33_lnmm_20 : Nat) : Int) by have q0 := (eq_sub ez46_1 r37_3 (show rg (1 : Int32) 1 1 from rg_l (by decide)) (by decide)); have q1 := FF.out hi33_1016; have q2 := FF.out t37_2; have q3 := (show (0 : Int32).toInt = 0 from by decide); have q4 := (show (1 : Int32).toInt = 1 from by decide); omega))
          refine va_iald hx hb hK hP 7 1 rfl rfl hi78_1 dX16_wire_78 ?_
          refine lv_topi (fun z78_2 ez78_2 => ?_)
          refine lv_istore (lv' := [(4, .int z78_2), (3, .int z68_2), (2, .ref t58_1t.root), (0, .ref mm)]) hx hb dX16_wire_79 hl (by decide) rfl (fun ls hl => ?_)
          refine lv_aload_n hx hb dX16_wire_81 rfl (lv_at hl 2 rfl) ?_
          obtain ⟨k82_1, hk82_1⟩ := pl_get (X := [(uye, .inl (ct 1, TL, .inl g_uye)), (uno_, .inl (ct 1, TL, .inl g_uno_)), (q5_1, .inl (ct 1, n5_2, .inl j33_cq5_1)), (q15_1, .inl (ct 1, n5_2, .inl j33_cq15_1)), (mm, .inr (16, m47_1)), (j33_admm_20, .inl (ct 5, j33_lnmm_20, .inr (.inr (.inr (.inr j33_cmm20))))), (j33_admm_21, .inl (ct 1, j33_lnmm_20, .inl j33_cmm21)), (j33_admm_22, .inl (ct 1, j33_lnmm_20, .inl j33_cmm22))]) (fl_mem (po := po) (F := F) ht58_1)
          refine va_get (D := D) (ci := 12) (v := .int 2) (C := RX12) (T := TX12) (N := 7) hx hb (htX12 hn) (fun _ h => h) hown hK hP k82_1 hk82_1 rfl 0 (by decide) (hn.get mw_1975 rfl) (fun _ h9 => h9) rfl dX16_wire_82 ?_
          refine lv_tableIn (off := 100) (tgt := 185) hx hb dX16_wire_85 (by decide) (by decide) (by decide) (by decide) ?_
          refine lv_aload_n hx hb dX16_wire_185 rfl (lv_at hl 3 rfl) ?_
          refine lv_aload_n hx hb dX16_wire_186 rfl (lv_at hl 2 rfl) ?_
          obtain ⟨k187_1, hk187_1⟩ := pl_get (X := [(uye, .inl (ct 1, TL, .inl g_uye)), (uno_, .inl (ct 1, TL, .inl g_uno_)), (q5_1, .inl (ct 1, n5_2, .inl j33_cq5_1)), (q15_1, .inl (ct 1, n5_2, .inl j33_cq15_1)), (mm, .inr (16, m47_1)), (j33_admm_20, .inl (ct 5, j33_lnmm_20, .inr (.inr (.inr (.inr j33_cmm20))))), (j33_admm_21, .inl (ct 1, j33_lnmm_20, .inl j33_cmm21)), (j33_admm_22, .inl (ct 1, j33_lnmm_20, .inl j33_cmm22))]) (fl_mem (po := po) (F := F) ht58_1)
          refine va_get (D := D) (ci := 12) (v := .ref t58_1x.root) (C := RX12) (T := TX12) (N := 7) hx hb (htX12 hn) (fun _ h => h) hown hK hP k187_1 hk187_1 rfl 1 (by decide) (hn.get mw_1977 rfl) (fun _ h9 => h9) rfl dX16_wire_187 ?_
          refine lv_iload_n hx hb dX16_wire_190 rfl (lv_at hl 1 rfl) ?_
          refine lv_aload_n hx hb dX16_wire_191 rfl (lv_at hl 2 rfl) ?_
          obtain ⟨k192_1, hk192_1⟩ := pl_get (X := [(uye, .inl (ct 1, TL, .inl g_uye)), (uno_, .inl (ct 1, TL, .inl g_uno_)), (q5_1, .inl (ct 1, n5_2, .inl j33_cq5_1)), (q15_1, .inl (ct 1, n5_2, .inl j33_cq15_1)), (mm, .inr (16, m47_1)), (j33_admm_20, .inl (ct 5, j33_lnmm_20, .inr (.inr (.inr (.inr j33_cmm20))))), (j33_admm_21, .inl (ct 1, j33_lnmm_20, .inl j33_cmm21)), (j33_admm_22, .inl (ct 1, j33_lnmm_20, .inl j33_cmm22))]) (fl_mem (po := po) (F := F) ht58_1)
          refine va_get (D := D) (ci := 12) (v := .ref t58_1y.root) (C := RX12) (T := TX12) (N := 7) hx hb (htX12 hn) (fun _ h => h) hown hK hP k192_1 hk192_1 rfl 2 (by decide) (hn.get mw_1979 rfl) (fun _ h9 => h9) rfl dX16_wire_192 ?_
          obtain ⟨k195_1, hk195_1⟩ := pl_get (X := [(uye, .inl (ct 1, TL, .inl g_uye)), (uno_, .inl (ct 1, TL, .inl g_uno_)), (q5_1, .inl (ct 1, n5_2, .inl j33_cq5_1)), (q15_1, .inl (ct 1, n5_2, .inl j33_cq15_1)), (mm, .inr (16, m47_1)), (j33_admm_20, .inl (ct 5, j33_lnmm_20, .inr (.inr (.inr (.inr j33_cmm20))))), (j33_admm_21, .inl (ct 1, j33_lnmm_20, .inl j33_cmm21)), (j33_admm_22, .inl (ct 1, j33_lnmm_20, .inl j33_cmm22))]) (fl_mem (po := po) (F := F) ht58_1y)
          refine va_get (D := D) (ci := 12) (v := .int (F t58_1y.root)) (C := RX12) (T := TX12) (N := 7) hx hb (htX12 hn) (fun _ h => h) hown hK hP k195_1 hk195_1 rfl 6 (by decide) (hn.get mw_1986 rfl) (fun _ h9 => h9) rfl dX16_wire_195 ?_
          refine lv_topi (fun z195_2 ez195_2 => ?_)
          obtain ⟨m198_1, gm198_1⟩ : ∃ m9 : Nat, m9 + j33_accC = MC := ⟨MC - j33_accC, Nat.sub_add_cancel (Int.ofNat_le.mp (FF.out hm33_1001))⟩
          have em198_1 := FF.mk gm198_1
          obtain ⟨m198_2, gm198_2⟩ : ∃ m9 : Nat, m9 + j33_accS = MS := ⟨MS - j33_accS, Nat.sub_add_cancel (Int.ofNat_le.mp (FF.out hm33_1002))⟩
          have em198_2 := FF.mk gm198_2
          refine gt_P (pl := ((po ++ pl_of F W.shape))) (pl1 := fun _ => ((po ++ pl_of F W.shape))) (wr := [(uye, .inl (ct 1, TL, .inl g_uye)), (uno_, .inl (ct 1, TL, .inl g_uno_)), (q5_1, .inl (ct 1, n5_2, .inl j33_cq5_1)), (q15_1, .inl (ct 1, n5_2, .inl j33_cq15_1))]) [4, 5, 6, 7] [0, 1, 2, 3] (rt_V (As := [.ref t58_1x.root, .int z68_2, .int z195_2]) (rest := []) (c_X16_push l hst D ct m198_1 m198_2 ((po ++ pl_of F W.shape)) mm t58_1x.root _ z68_2 z195_2 m47_1 j33_admm_20 j33_admm_21 j33_admm_22 z46_1 j33_cmm20 j33_lnmm_20 j33_cmm21 j33_cmm22 (FND.mem mt58_1x po F).choose_spec (hsm47_1.1.trans hlen_mm) hfm47_1_20 hfm47_1_21 hfm47_1_22 r46_2 hfm47_1_23 (show ((j33_lnmm_20 : Nat) : Int) ≤ 80000 by have q0 := FF.out hi33_1018; omega) (show 64 ≤ ((j33_lnmm_20 : Nat) : Int) by have q0 := FF.out hq3; have q1 := FF.out hi33_1017; omega) (show z46_1.toInt ≤ ((j33_lnmm_20 : Nat) : Int) by have q0 := (eq_sub ez46_1 r37_3 (show rg (1 : Int32) 1 1 from rg_l (by decide)) (by decide)); have q1 := FF.out hi33_1016; have q2 := (show (1 : Int32).toInt = 1 from by decide); omega) (show 480000 ≤ ((m198_2 : Nat) : Int) + 6 * ((j33_lnmm_20 : Nat) : Int) by have q0 := FF.out hq0; have q1 := FF.out hq1; have q2 := FF.out hq4; have q3 := FF.out ht3; have q4 := FF.out hi33_1020; have q5 := FF.out em198_2; omega) (show 240192 ≤ 64 * ((m198_1 : Nat) : Int) + 3 * ((j33_lnmm_20 : Nat) : Int) by have q0 := FF.out hq5; have q1 := FF.out hi33_1019; have q2 := FF.out em198_1; omega) (EF.el (EF.mono hg33_1015 (show z46_1.toInt ≤ j33_fmm_23.toInt by have q0 := (eq_sub ez46_1 r37_3 (show rg (1 : Int32) 1 1 from rg_l (by decide)) (by decide)); have q1 := (show (1 : Int32).toInt = 1 from by decide); omega))) _) (cb_of (n := 3) hn mw_2215 mw_13 mw_2212 mhX16_push ⟨(Nat.le_of_ble_eq_true rfl), (Nat.le_of_ble_eq_true rfl)⟩) hx hb hml hown hn hK hSK hZ hS mw_2214 mw_s204 (ci := 16) (q0 := 0) rfl rfl rfl rfl hl.1 (Nat.le_of_ble_eq_true rfl) dX16_wire_198 ⟨(Nat.le_of_eq ((Nat.add_comm _ _).trans gm198_1)), (Nat.le_of_eq ((Nat.add_comm _ _).trans gm198_2))⟩) hP hD hS hA rfl rfl (by decide) (by decide) (by decide) (fun xq198_6 ux198_7 xfs198_8 H locs hpx198_9 hpexfs198_8 hP hD hS => ?_) (fun r198_3 u198_4 H locs hp198_5 hP hD hS => ?_)
          · exact hpx198_9.elim
          obtain ⟨fs2_mm198_310, a_mm_20198_311, a_mm_21198_312, a_mm_22198_313, y_mm_23198_314, k_upi198_315, PN2198_316, k_upy198_317, k_upn198_318, kc198_319, kn198_320⟩ := u198_4
          obtain ⟨hp198_321, hp198_322, hp198_323, hp198_324, hp198_325, hp198_326, hp198_327, hp198_328, hp198_329, hp198_330, hp198_331, hp198_332, hp198_333, hp198_334, hp198_335⟩ := hp198_5
          have hs198_336 : SB fs_mm fs2_mm198_310 [16, 17, 20, 21, 22, 23] := SB.trans hsm47_1 hp198_321 (by decide)
          have hf198_337 : fs2_mm198_310[16]? = some (.ref q5_1) := SB.get hp198_321 (by decide) hfm47_1_16
          have hf198_338 : fs2_mm198_310[17]? = some (.ref q15_1) := SB.get hp198_321 (by decide) hfm47_1_17
          have hp198_325 : rg y_mm_23198_314 1 40000 := hp198_325
          replace hp198_327 : FF (y_mm_23198_314.toInt = z46_1.toInt + 1) := hp198_327
          replace hp198_328 : FF (y_mm_23198_314.toInt ≤ ((PN2198_316 : Nat) : Int)) := hp198_328
          replace hp198_329 : FF (((j33_lnmm_20 : Nat) : Int) ≤ ((PN2198_316 : Nat) : Int)) := hp198_329
          replace hp198_330 : FF (((PN2198_316 : Nat) : Int) ≤ 80000) := hp198_330
          replace hp198_331 : FF (64 * ((kc198_319 : Nat) : Int) + 3 * ((j33_lnmm_20 : Nat) : Int) ≤ 3 * ((PN2198_316 : Nat) : Int)) := hp198_331
          replace hp198_332 : FF (((kn198_320 : Nat) : Int) = 6 * (((PN2198_316 : Nat) : Int) - ((j33_lnmm_20 : Nat) : Int))) := hp198_332
          have hp198_333 : AP j33_cmm20 k_upi198_315 z46_1.toInt t58_1x.root := hp198_333
          have hp198_334 : IP j33_cmm21 k_upy198_317 z46_1.toInt z68_2.toInt := hp198_334
          have hp198_335 : IP j33_cmm22 k_upn198_318 z46_1.toInt z195_2.toInt := hp198_335
          obtain ⟨c198_339, ec198_339⟩ : ∃ x9 : Nat, x9 = j33_accC + kc198_319 := ⟨_, rfl⟩
          have ec198_339 := FF.mk ec198_339
          have mc198_339 : FF (c198_339 ≤ MC) := FF.mk (Int.ofNat_le.mp (show ((c198_339 : Nat) : Int) ≤ ((MC : Nat) : Int) by have q0 := FF.out hq5; have q1 := FF.out hi33_1019; have q2 := FF.out hp198_330; have q3 := FF.out hp198_331; have q4 := FF.out ec198_339; omega))
          obtain ⟨k198_340, ek198_340⟩ : ∃ x9 : Nat, x9 = j33_accS + kn198_320 := ⟨_, rfl⟩
          have ek198_340 := FF.mk ek198_340
          have mk198_340 : FF (k198_340 ≤ MS) := FF.mk (Int.ofNat_le.mp (show ((k198_340 : Nat) : Int) ≤ ((MS : Nat) : Int) by have q0 := FF.out hq0; have q1 := FF.out hq1; have q2 := FF.out hq4; have q3 := FF.out ht3; have q4 := FF.out hi33_1020; have q5 := FF.out hp198_330; have q6 := FF.out hp198_332; have q7 := FF.out ek198_340; omega))
          have hP : va_P D vwCl ([(uye, .inl (ct 1, TL, .inl g_uye)), (uno_, .inl (ct 1, TL, .inl g_uno_)), (q5_1, .inl (ct 1, n5_2, .inl j33_cq5_1)), (q15_1, .inl (ct 1, n5_2, .inl j33_cq15_1)), (mm, .inr (16, fs2_mm198_310)), (a_mm_20198_311, .inl (ct 5, PN2198_316, .inr (.inr (.inr (.inr k_upi198_315))))), (a_mm_21198_312, .inl (ct 1, PN2198_316, .inl k_upy198_317)), (a_mm_22198_313, .inl (ct 1, PN2198_316, .inl k_upn198_318))] ++ ((po ++ pl_of F W.shape))) _ := hP
          have hD : va_D A ([(uye, .inl (ct 1, TL, .inl g_uye)), (uno_, .inl (ct 1, TL, .inl g_uno_)), (q5_1, .inl (ct 1, n5_2, .inl j33_cq5_1)), (q15_1, .inl (ct 1, n5_2, .inl j33_cq15_1)), (mm, .inr (16, fs2_mm198_310)), (a_mm_20198_311, .inl (ct 5, PN2198_316, .inr (.inr (.inr (.inr k_upi198_315))))), (a_mm_21198_312, .inl (ct 1, PN2198_316, .inl k_upy198_317)), (a_mm_22198_313, .inl (ct 1, PN2198_316, .inl k_upn198_318))] ++ ((po ++ pl_of F W.shape))) := hD
          refine wv_widen (k := c198_339) (n := k198_340) (Nat.le_of_eq (FF.out ec198_339).symm) (Nat.le_of_eq (FF.out ek198_340).symm) (wv_eq (g2 := F0 m 201 ls []) rfl ?_)
          refine lv_aload_n hx hb dX16_wire_201 rfl (lv_at hl 3 rfl) ?_
          refine lv_aload_n hx hb dX16_wire_202 rfl (lv_at hl 2 rfl) ?_
          obtain ⟨k203_1, hk203_1⟩ := pl_get (X := [(uye, .inl (ct 1, TL, .inl g_uye)), (uno_, .inl (ct 1, TL, .inl g_uno_)), (q5_1, .inl (ct 1, n5_2, .inl j33_cq5_1)), (q15_1, .inl (ct 1, n5_2, .inl j33_cq15_1)), (mm, .inr (16, fs2_mm198_310)), (a_mm_20198_311, .inl (ct 5, PN2198_316, .inr (.inr (.inr (.inr k_upi198_315))))), (a_mm_21198_312, .inl (ct 1, PN2198_316, .inl k_upy198_317)), (a_mm_22198_313, .inl (ct 1, PN2198_316, .inl k_upn198_318))]) (fl_mem (po := po) (F := F) ht58_1)
          refine va_get (D := D) (ci := 12) (v := .ref t58_1y.root) (C := RX12) (T := TX12) (N := 7) hx hb (htX12 hn) (fun _ h => h) hown hK hP k203_1 hk203_1 rfl 2 (by decide) (hn.get mw_1979 rfl) (fun _ h9 => h9) rfl dX16_wire_203 ?_
          refine lv_iload_n hx hb dX16_wire_206 rfl (lv_at hl 1 rfl) ?_
          refine lv_iload hx hb dX16_wire_207 (lv_at hl 0 rfl) ?_
          obtain ⟨m209_1, gm209_1⟩ : ∃ m9 : Nat, m9 + c198_339 = MC := ⟨MC - c198_339, Nat.sub_add_cancel (FF.out mc198_339)⟩
          have em209_1 := FF.mk gm209_1
          obtain ⟨m209_2, gm209_2⟩ : ∃ m9 : Nat, m9 + k198_340 = MS := ⟨MS - k198_340, Nat.sub_add_cancel (FF.out mk198_340)⟩
          have em209_2 := FF.mk gm209_2
          refine gt_P (pl := ((po ++ pl_of F W.shape))) (pl1 := fun _ => ((po ++ pl_of F W.shape))) (wr := [(uye, .inl (ct 1, TL, .inl g_uye)), (uno_, .inl (ct 1, TL, .inl g_uno_)), (q5_1, .inl (ct 1, n5_2, .inl j33_cq5_1)), (q15_1, .inl (ct 1, n5_2, .inl j33_cq15_1))]) [4, 5, 6, 7] [0, 1, 2, 3] (rt_V (As := [.ref t58_1y.root, .int z68_2, .int z78_2]) (rest := []) (c_X16_push l hst D ct m209_1 m209_2 ((po ++ pl_of F W.shape)) mm t58_1y.root _ z68_2 z78_2 fs2_mm198_310 a_mm_20198_311 a_mm_21198_312 a_mm_22198_313 y_mm_23198_314 k_upi198_315 PN2198_316 k_upy198_317 k_upn198_318 (fl_mem (po := po) (F := F) ht58_1y) (hs198_336.1.trans hlen_mm) hp198_322 hp198_323 hp198_324 (rg_of (show 0 ≤ y_mm_23198_314.toInt ∧ y_mm_23198_314.toInt ≤ 39999 by have q0 := (eq_sub ez46_1 r37_3 (show rg (1 : Int32) 1 1 from rg_l (by decide)) (by decide)); have q1 := FF.out hi33_1021; have q2 := FF.out hk34_1; have q3 := FF.out t37_2; have q4 := FF.out hp198_327; have q5 := (show (0 : Int32).toInt = 0 from by decide); have q6 := (show (1 : Int32).toInt = 1 from by decide); omega)) hp198_326 (show ((PN2198_316 : Nat) : Int) ≤ 80000 by have q0 := FF.out hp198_330; omega) (show 64 ≤ ((PN2198_316 : Nat) : Int) by have q0 := FF.out hq3; have q1 := FF.out hi33_1017; have q2 := FF.out hp198_329; omega) (show y_mm_23198_314.toInt ≤ ((PN2198_316 : Nat) : Int) by have q0 := FF.out hp198_328; omega) (show 480000 ≤ ((m209_2 : Nat) : Int) + 6 * ((PN2198_316 : Nat) : Int) by have q0 := FF.out hq0; have q1 := FF.out hq1; have q2 := FF.out hq4; have q3 := FF.out ht3; have q4 := FF.out hi33_1020; have q5 := FF.out hp198_332; have q6 := FF.out ek198_340; have q7 := FF.out em209_2; omega) (show 240192 ≤ 64 * ((m209_1 : Nat) : Int) + 3 * ((PN2198_316 : Nat) : Int) by have q0 := FF.out hq5; have q1 := FF.out hi33_1019; have q2 := FF.out hp198_331; have q3 := FF.out ec198_339; have q4 := FF.out em209_1; omega) (EF.el (EF.push (n2 := y_mm_23198_314.toInt) (EF.mono hg33_1015 (show z46_1.toInt ≤ j33_fmm_23.toInt by have q0 := (eq_sub ez46_1 r37_3 (show rg (1 : Int32) 1 1 from rg_l (by decide)) (by decide)); have q1 := (show (1 : Int32).toInt = 1 from by decide); omega)) hp198_333 mt58_1x (show y_mm_23198_314.toInt = z46_1.toInt + 1 by have q0 := FF.out hp198_327; omega))) _) (cb_of (n := 3) hn mw_2215 mw_13 mw_2212 mhX16_push ⟨(Nat.le_of_ble_eq_true rfl), (Nat.le_of_ble_eq_true rfl)⟩) hx hb hml hown hn hK hSK hZ hS mw_2214 mw_s204 (ci := 16) (q0 := 0) rfl rfl rfl rfl hl.1 (Nat.le_of_ble_eq_true rfl) dX16_wire_209 ⟨(Nat.le_of_eq ((Nat.add_comm _ _).trans gm209_1)), (Nat.le_of_eq ((Nat.add_comm _ _).trans gm209_2))⟩) hP hD hS hA rfl rfl (by decide) (by decide) (by decide) (fun xq209_6 ux209_7 xfs209_8 H locs hpx209_9 hpexfs209_8 hP hD hS => ?_) (fun r209_3 u209_4 H locs hp209_5 hP hD hS => ?_)
          · exact hpx209_9.elim
          obtain ⟨fs2_mm209_310, a_mm_20209_311, a_mm_21209_312, a_mm_22209_313, y_mm_23209_314, k_upi209_315, PN2209_316, k_upy209_317, k_upn209_318, kc209_319, kn209_320⟩ := u209_4
          obtain ⟨hp209_321, hp209_322, hp209_323, hp209_324, hp209_325, hp209_326, hp209_327, hp209_328, hp209_329, hp209_330, hp209_331, hp209_332, hp209_333, hp209_334, hp209_335⟩ := hp209_5
          have hs209_336 : SB fs_mm fs2_mm209_310 [16, 17, 20, 21, 22, 23] := SB.trans hs198_336 hp209_321 (by decide)
          have hf209_337 : fs2_mm209_310[16]? = some (.ref q5_1) := SB.get hp209_321 (by decide) hf198_337
          have hf209_338 : fs2_mm209_310[17]? = some (.ref q15_1) := SB.get hp209_321 (by decide) hf198_338
          have hp209_325 : rg y_mm_23209_314 1 40000 := hp209_325
          replace hp209_327 : FF (y_mm_23209_314.toInt = y_mm_23198_314.toInt + 1) := hp209_327
          replace hp209_328 : FF (y_mm_23209_314.toInt ≤ ((PN2209_316 : Nat) : Int)) := hp209_328
          replace hp209_329 : FF (((PN2198_316 : Nat) : Int) ≤ ((PN2209_316 : Nat) : Int)) := hp209_329
          replace hp209_330 : FF (((PN2209_316 : Nat) : Int) ≤ 80000) := hp209_330
          replace hp209_331 : FF (64 * ((kc209_319 : Nat) : Int) + 3 * ((PN2198_316 : Nat) : Int) ≤ 3 * ((PN2209_316 : Nat) : Int)) := hp209_331
          replace hp209_332 : FF (((kn209_320 : Nat) : Int) = 6 * (((PN2209_316 : Nat) : Int) - ((PN2198_316 : Nat) : Int))) := hp209_332
          have hp209_333 : AP k_upi198_315 k_upi209_315 y_mm_23198_314.toInt t58_1y.root := hp209_333
          have hp209_334 : IP k_upy198_317 k_upy209_317 y_mm_23198_314.toInt z68_2.toInt := hp209_334
          have hp209_335 : IP k_upn198_318 k_upn209_318 y_mm_23198_314.toInt z78_2.toInt := hp209_335
          obtain ⟨c209_339, ec209_339⟩ : ∃ x9 : Nat, x9 = c198_339 + kc209_319 := ⟨_, rfl⟩
          have ec209_339 := FF.mk ec209_339
          have mc209_339 : FF (c209_339 ≤ MC) := FF.mk (Int.ofNat_le.mp (show ((c209_339 : Nat) : Int) ≤ ((MC : Nat) : Int) by have q0 := FF.out hq5; have q1 := FF.out hi33_1019; have q2 := FF.out hp198_331; have q3 := FF.out ec198_339; have q4 := FF.out hp209_330; have q5 := FF.out hp209_331; have q6 := FF.out ec209_339; omega))
          obtain ⟨k209_340, ek209_340⟩ : ∃ x9 : Nat, x9 = k198_340 + kn209_320 := ⟨_, rfl⟩
          have ek209_340 := FF.mk ek209_340
          have mk209_340 : FF (k209_340 ≤ MS) := FF.mk (Int.ofNat_le.mp (show ((k209_340 : Nat) : Int) ≤ ((MS : Nat) : Int) by have q0 := FF.out hq0; have q1 := FF.out hq1; have q2 := FF.out hq4; have q3 := FF.out ht3; have q4 := FF.out hi33_1020; have q5 := FF.out hp198_332; have q6 := FF.out ek198_340; have q7 := FF.out hp209_330; have q8 := FF.out hp209_332; have q9 := FF.out ek209_340; omega))
          have hP : va_P D vwCl ([(uye, .inl (ct 1, TL, .inl g_uye)), (uno_, .inl (ct 1, TL, .inl g_uno_)), (q5_1, .inl (ct 1, n5_2, .inl j33_cq5_1)), (q15_1, .inl (ct 1, n5_2, .inl j33_cq15_1)), (mm, .inr (16, fs2_mm209_310)), (a_mm_20209_311, .inl (ct 5, PN2209_316, .inr (.inr (.inr (.inr k_upi209_315))))), (a_mm_21209_312, .inl (ct 1, PN2209_316, .inl k_upy209_317)), (a_mm_22209_313, .inl (ct 1, PN2209_316, .inl k_upn209_318))] ++ ((po ++ pl_of F W.shape))) _ := hP
          have hD : va_D A ([(uye, .inl (ct 1, TL, .inl g_uye)), (uno_, .inl (ct 1, TL, .inl g_uno_)), (q5_1, .inl (ct 1, n5_2, .inl j33_cq5_1)), (q15_1, .inl (ct 1, n5_2, .inl j33_cq15_1)), (mm, .inr (16, fs2_mm209_310)), (a_mm_20209_311, .inl (ct 5, PN2209_316, .inr (.inr (.inr (.inr k_upi209_315))))), (a_mm_21209_312, .inl (ct 1, PN2209_316, .inl k_upy209_317)), (a_mm_22209_313, .inl (ct 1, PN2209_316, .inl k_upn209_318))] ++ ((po ++ pl_of F W.shape))) := hD
          refine wv_widen (k := c209_339) (n := k209_340) (Nat.le_of_eq (FF.out ec209_339).symm) (Nat.le_of_eq (FF.out ek209_340).symm) (wv_eq (g2 := F0 m 212 ls []) rfl ?_)
          obtain ⟨u212_1m, lu212_1, u212_1⟩ := WIP.bin pt58_1 (Or.inr ct58_1) xt58_1 yt58_1 (AP.to hp198_333 (show z46_1.toInt = z46_1.toInt by omega)) (IP.to hp198_334 (show z46_1.toInt = z46_1.toInt by omega)) (IP.to hp198_335 (show z46_1.toInt = z46_1.toInt by omega)) (show y_mm_23198_314.toInt = z46_1.toInt + 1 by have q0 := FF.out hp198_327; omega) hp209_333 (IP.to hp209_334 (show y_mm_23198_314.toInt = y_mm_23198_314.toInt by omega)) (IP.to hp209_335 (show y_mm_23198_314.toInt = y_mm_23198_314.toInt by omega)) (show y_mm_23209_314.toInt = z46_1.toInt + 2 by have q0 := FF.out hp198_327; have q1 := FF.out hp209_327; omega) (show z68_2.toInt = (j33_cmm21 z46_1.toNatClampNeg).toInt by have q0 := (congrArg Int32.toInt ez68_2); omega) (show z78_2.toInt = (j33_cmm22 z46_1.toNatClampNeg).toInt by have q0 := (congrArg Int32.toInt ez78_2); omega) (Or.inl (show z68_2.toInt = (j33_cmm21 z46_1.toNatClampNeg).toInt by have q0 := (congrArg Int32.toInt ez68_2); omega)) (Or.inr (show z195_2.toInt = (F t58_1y.root).toInt by have q0 := (congrArg Int32.toInt ez195_2); omega))
          have u212_1 : WIR W F k_upi209_315 k_upy209_317 k_upn209_318 y_mm_23209_314.toInt j33_cq5_1 j33_cq15_1 x_mm_15.toInt u212_1m := u212_1
          have hk212_2 : FF (((u212_1m : Nat) : Int) < ((j33_nmu : Nat) : Int)) := FF.mk (Int.ofNat_lt.mpr lu212_1)
          refine lv_goto (tgt := 33) hx hb dX16_wire_212 (by decide) ?_
          exact ih33 c209_339 k209_340 a_mm_20209_311 PN2209_316 k_upi209_315 a_mm_21209_312 k_upy209_317 a_mm_22209_313 k_upn209_318 u212_1m j33_cq5_1 j33_cq15_1 fs2_mm209_310 y_mm_23209_314 H locs ls (show ((c209_339 : Nat) : Int) ≤ ((MC : Nat) : Int) by have q0 := FF.out hq5; have q1 := FF.out hi33_1019; have q2 := FF.out hp198_331; have q3 := FF.out ec198_339; have q4 := FF.out hp209_330; have q5 := FF.out hp209_331; have q6 := FF.out ec209_339; omega) (show ((k209_340 : Nat) : Int) ≤ ((MS : Nat) : Int) by have q0 := FF.out hq0; have q1 := FF.out hq1; have q2 := FF.out hq4; have q3 := FF.out ht3; have q4 := FF.out hi33_1020; have q5 := FF.out hp198_332; have q6 := FF.out ek198_340; have q7 := FF.out hp209_330; have q8 := FF.out hp209_332; have q9 := FF.out ek209_340; omega) (show ((PN2209_316 : Nat) : Int) ≤ 80000 by have q0 := FF.out hp209_330; omega) (show ((PN2209_316 : Nat) : Int) ≤ 80000 by have q0 := FF.out hp209_330; omega) (show ((PN2209_316 : Nat) : Int) ≤ 80000 by have q0 := FF.out hp209_330; omega) hs209_336 hf209_337 hf209_338 hp209_322 hp209_323 hp209_324 (rg_w hp209_325 (by decide)) hp209_326 u212_1 (EF.push (n2 := y_mm_23209_314.toInt) (EF.push (n2 := y_mm_23198_314.toInt) (EF.mono hg33_1015 (show z46_1.toInt ≤ j33_fmm_23.toInt by have q0 := (eq_sub ez46_1 r37_3 (show rg (1 : Int32) 1 1 from rg_l (by decide)) (by decide)); have q1 := (show (1 : Int32).toInt = 1 from by decide); omega)) hp198_333 mt58_1x (show y_mm_23198_314.toInt = z46_1.toInt + 1 by have q0 := FF.out hp198_327; omega)) hp209_333 ⟨_, _, _, _, _, _, ht58_1y⟩ (show y_mm_23209_314.toInt = y_mm_23198_314.toInt + 1 by have q0 := FF.out hp209_327; omega)) (show y_mm_23209_314.toInt ≤ ((PN2209_316 : Nat) : Int) by have q0 := FF.out hp209_328; omega) (show ((PN : Nat) : Int) ≤ ((PN2209_316 : Nat) : Int) by have q0 := FF.out hi33_1017; have q1 := FF.out hp198_332; have q2 := FF.out hp209_332; omega) (show ((PN2209_316 : Nat) : Int) ≤ 80000 by have q0 := FF.out hp209_330; omega) (show 64 * ((c209_339 : Nat) : Int) + 3 * ((PN : Nat) : Int) ≤ 3 * ((PN2209_316 : Nat) : Int) + 128 by have q0 := FF.out hi33_1019; have q1 := FF.out hp198_331; have q2 := FF.out ec198_339; have q3 := FF.out hp209_331; have q4 := FF.out ec209_339; omega) (show ((k209_340 : Nat) : Int) = 2 * x_mm_15.toInt + 6 * (((PN2209_316 : Nat) : Int) - ((PN : Nat) : Int)) by have q0 := FF.out hi33_1020; have q1 := FF.out hp198_332; have q2 := FF.out ek198_340; have q3 := FF.out hp209_332; have q4 := FF.out ek209_340; omega) (show ((u212_1m : Nat) : Int) ≤ 38000 by have q0 := FF.out hi33_1021; have q1 := FF.out hk212_2; omega) (show (((u212_1m : Nat) : Int)).toNat < n33 by have q0 := FF.out hk212_2; have q1 := hms33; omega) (lv_sub hl [3] rfl) hP hD hS
  exact b33 _ c30_339 k30_340 a_mm_2030_311 PN230_316 k_upi30_315 a_mm_2130_312 k_upy30_317 a_mm_2230_313 k_upn30_318 W.fa.length (fun _ => 0) (fun _ => 0) fs2_mm30_310 y_mm_2330_314 H locs ls (show ((c30_339 : Nat) : Int) ≤ ((MC : Nat) : Int) by have q0 := FF.out hq5; have q1 := FF.out ec5_3; have q2 := FF.out ec15_3; have q3 := FF.out hp30_330; have q4 := FF.out hp30_331; have q5 := FF.out ec30_339; omega) (show ((k30_340 : Nat) : Int) ≤ ((MS : Nat) : Int) by have q0 := FF.out hq0; have q1 := FF.out hq1; have q2 := FF.out hq4; have q3 := FF.out ht3; have q4 := FF.out en5_2; have q5 := FF.out ek5_4; have q6 := FF.out ek15_4; have q7 := FF.out hp30_330; have q8 := FF.out hp30_332; have q9 := FF.out ek30_340; omega) (show ((PN230_316 : Nat) : Int) ≤ 80000 by have q0 := FF.out hp30_330; omega) (show ((PN230_316 : Nat) : Int) ≤ 80000 by have q0 := FF.out hp30_330; omega) (show ((PN230_316 : Nat) : Int) ≤ 80000 by have q0 := FF.out hp30_330; omega) hs30_336 hf30_337 hf30_338 hp30_322 hp30_323 hp30_324 (rg_w hp30_325 (by decide)) hp30_326 ((WIR.start ok_W hg0 (show x_mm_15.toInt = ((W.tests : Nat) : Int) by have q0 := FF.out hq1; omega) (AP.z hp30_333 (show (0 : Int32).toInt = 0 by have q0 := (show (0 : Int32).toInt = 0 from by decide); omega)) (IP.z hp30_334 (show (0 : Int32).toInt = 0 by have q0 := (show (0 : Int32).toInt = 0 from by decide); omega) (by decide)) (IP.z hp30_335 (show (0 : Int32).toInt = 0 by have q0 := (show (0 : Int32).toInt = 0 from by decide); omega) (by decide))).to (show 1 = y_mm_2330_314.toInt by have q0 := hp30_325.1; have q1 := FF.out hp30_327; have q2 := (show (0 : Int32).toInt = 0 from by decide); omega)) (EF.push (n2 := y_mm_2330_314.toInt) (EF.zero (show (0 : Int32).toInt ≤ 0 by have q0 := (show (0 : Int32).toInt = 0 from by decide); omega)) hp30_333 (FT.memL ok_W FSUB.rf) (show y_mm_2330_314.toInt = (0 : Int32).toInt + 1 by have q0 := hp30_325.1; have q1 := FF.out hp30_327; have q2 := (show (0 : Int32).toInt = 0 from by decide); omega)) (show y_mm_2330_314.toInt ≤ ((PN230_316 : Nat) : Int) by have q0 := FF.out hq3; have q1 := FF.out hp30_327; have q2 := FF.out hp30_329; have q3 := (show (0 : Int32).toInt = 0 from by decide); omega) (show ((PN : Nat) : Int) ≤ ((PN230_316 : Nat) : Int) by have q0 := FF.out hp30_329; omega) (show ((PN230_316 : Nat) : Int) ≤ 80000 by have q0 := FF.out hp30_330; omega) (show 64 * ((c30_339 : Nat) : Int) + 3 * ((PN : Nat) : Int) ≤ 3 * ((PN230_316 : Nat) : Int) + 128 by have q0 := FF.out ec5_3; have q1 := FF.out ec15_3; have q2 := FF.out hp30_331; have q3 := FF.out ec30_339; omega) (show ((k30_340 : Nat) : Int) = 2 * x_mm_15.toInt + 6 * (((PN230_316 : Nat) : Int) - ((PN : Nat) : Int)) by have q0 := FF.out en5_2; have q1 := FF.out ek5_4; have q2 := FF.out ek15_4; have q3 := FF.out hp30_332; have q4 := FF.out ek30_340; omega) (show ((W.fa.length : Nat) : Int) ≤ 38000 by have q0 := FF.out hq0; have q1 := FF.out hfl; omega) (Nat.lt_succ_self _) (lv_sub hl [0] rfl) hP hD hS
