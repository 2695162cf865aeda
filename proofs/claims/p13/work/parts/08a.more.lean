theorem rg_isv {x v : Int32} {a : Int} (h : rg x a a) (hv : v.toInt = a) : x = v := Int32.toInt_inj.mp ((rg_is h).trans hv.symm)
theorem rl_isv {x v : Int64} {a : Int} (h : rl x a a) (hv : v.toInt = a) : x = v := Int64.toInt_inj.mp (Eq.trans (Int.le_antisymm h.2 h.1) hv.symm)
theorem rg_i2c {x z : Int32} (e : z = (x.toUInt32 % 65536).toInt32) : rg z 0 65535 := by
  have h1 : (x.toUInt32 % 65536).toNat < 65536 := by rw [UInt32.toNat_mod]; exact Nat.mod_lt _ (by decide)
  have h2 : z.toInt = ((x.toUInt32 % 65536).toNat : Int) := by
    rw [e]; show (x.toUInt32 % 65536).toBitVec.toInt = _
    rw [BitVec.toInt_eq_toNat_of_lt (by show 2 * (x.toUInt32 % 65536).toNat < 2 ^ 32; omega)]; rfl
  unfold rg; omega
theorem nar_char {x : Int32} (h : rg x 0 65535) : narrow .char (.int x) = .int x := by
  show Value.int (x.toUInt32.toUInt16.toUInt32.toInt32) = .int x
  congr 1
  apply Int32.toInt_inj.mp
  have h0 := h.1; have h1 := h.2
  have hx : x.toInt = (x.toBitVec.toNat : Int) := by
    show x.toBitVec.toInt = _
    have h2 : x.toBitVec.toInt = x.toInt := rfl
    rw [BitVec.toInt_eq_toNat_cond] at h2 ⊢
    split
    · rfl
    · rename_i h3; rw [if_neg h3] at h2; have := x.toBitVec.isLt; omega
  have h4 : x.toUInt32.toUInt16.toUInt32.toNat = x.toBitVec.toNat := by
    rw [UInt16.toNat_toUInt32, UInt32.toNat_toUInt16]
    show x.toBitVec.toNat % 2 ^ 16 = _
    exact Nat.mod_eq_of_lt (by omega)
  show x.toUInt32.toUInt16.toUInt32.toBitVec.toInt = _
  rw [BitVec.toInt_eq_toNat_of_lt (by show 2 * x.toUInt32.toUInt16.toUInt32.toNat < 2 ^ 32; omega), hx]
  show ((x.toUInt32.toUInt16.toUInt32.toNat : Nat) : Int) = _
  rw [h4]
theorem sl_all : ∀ i, i < 63 → 1 ≤ sLen.getD i 0 ∧ sLen.getD i 0 ≤ 9 := by decide +kernel
theorem sl_n {i n : Nat} (h : i < 63 ∧ sLen.getD i 0 = n) : (1 : Int) ≤ n ∧ (n : Int) ≤ 9 := by
  have := sl_all i h.1
  rw [h.2] at this
  omega
section STRS
variable {p : Program} {l : Launch} {e : Env} {R : Room} {s : State} {m : MethodId} {args : Array Value} {below : List Frame} {meth : Method} {c : Code} {H H0 : Heap} {locs : List Loc} {cells slots : Nat} {Q : State → Prop} {A : Nat → Prop}
variable {D : va_G} {ct : Nat → ClassId} {ws wc wr : va_W} {own : String} {index nL maxL mc ms fr lo n k1 n1 pc : Nat} {y : MethodName} {bytes cc : ByteArray} {ret : Option FieldType} {b : Addr} {As rest : List Value} {ls : Array Slot} {Qc : Array Value → State → Outcome → State → Prop} {free : Addr → Prop}
/-- a method of a String constant -/
theorem rn_VS (hM : Met l y [Cond.code y bytes maxL ret] ({ frames := fr, cells := mc, slots := ms, locals := lo }) (va_Pc (Value.ref b :: As) (PreC D ct wc H.size)) Qc mc ms free)
    (cb : CallB R s args own index y bytes maxL ret [Cond.code y bytes maxL ret] ({ frames := fr, cells := mc, slots := ms, locals := lo }) mc ms n)
    (hx : p.tables.exec = Jvm.exec) (hb : c.code = cc) (hml : c.maxLocals = nL) (hown : s.vm.findClass own = some m.cls) (hn : nwOK s) (hK : va_K D vwCl (TY ct) s) (hSK : SK ct s) (hZ : ZS ct A s s.heap) (hS : va_S A s.heap H locs)
    (hinst : Cond.instanceMethod y ∈ lw_tbl) (hsel : Cond.selects y.cls y y ∈ lw_tbl) (hO : va_O "java/lang/String" b A s s.heap) (hq : "java/lang/String" = y.cls)
    (hln : As.length = n) (hsize : ls.size = nL) (hW : (rest.map fun v => v.category).sum ≤ 8) (hdg : decode cc pc = .ok (.invokevirtual index, 3)) (hf : cells + mc ≤ R.cells ∧ slots + ms ≤ R.slots) (hP : va_P D vwCl wc H) (hD : va_D A wc) (hF : ∀ q, va_A wc H.size q → A q) :
    va_Run p l e R s m args below meth c H locs cells slots mc ms (F0 m pc ls (As.reverse ++ .ref b :: rest)) rest (Qc (Value.ref b :: As).toArray) free := by
  refine va_runV (C := y.cls) (fix0 hx hb hml hown) hM ⟨cb, hn.get hinst rfl, hn.get hsel rfl⟩ ⟨blindC, ?_, preC_of hP hK hD hn hSK hZ hS hF⟩ rfl hln hsize rfl (lv_room hW) hdg hf
  obtain ⟨cell, h1, h2, h3, -⟩ := hO.kept hS.2.1
  exact ⟨cell, h1, h2, by rw [← hq]; exact h3⟩
end STRS
theorem eqL_and {x y z : Int64} {c : Int} {k : Nat} (e : z = x &&& y) (hk : y.toBitVec.toNat = 2 ^ k - 1) (h : c = ((2 ^ k : Nat) : Int) ∧ k ≤ 62) : z.toInt = x.toInt % c := by
  have h2 : z.toBitVec.toNat = x.toBitVec.toNat % 2 ^ k := by rw [e, Int64.toBitVec_and, BitVec.toNat_and, hk, Nat.and_two_pow_sub_one_eq_mod]
  have hp : 0 < 2 ^ k := Nat.two_pow_pos k
  have h6 : 2 ^ k ≤ 2 ^ 62 := Nat.pow_le_pow_right (by decide) h.2
  have h7 : x.toBitVec.toNat % 2 ^ k < 2 ^ k := Nat.mod_lt _ hp
  have h4 := of64 h2 (by omega)
  have h3 : x.toBitVec.toInt = x.toInt := rfl
  rw [BitVec.toInt_eq_toNat_cond] at h3
  rw [h4, h.1]
  have hd : ((2 ^ 64 : Nat) : Int) = ((2 ^ k : Nat) : Int) * ((2 ^ (64 - k) : Nat) : Int) := by
    rw [← Int.natCast_mul, ← Nat.pow_add, show k + (64 - k) = 64 by omega]
  split at h3
  · rw [← h3, Int.natCast_emod]
  · rw [← h3, Int.natCast_emod, hd, Int.sub_mul_emod_self_left]
theorem mn_f {x y z : Int64} (e : z = if y < x then y else x) : z.toInt ≤ x.toInt ∧ z.toInt ≤ y.toInt ∧ (z.toInt = x.toInt ∨ z.toInt = y.toInt) := by
  by_cases h : y < x
  · rw [if_pos h] at e; subst e; have := Int64.lt_iff_toInt_lt.mp h; omega
  · rw [if_neg h] at e; subst e; have := (not_congr Int64.lt_iff_toInt_lt).mp h; omega
theorem mx_f {x y z : Int64} (e : z = if y < x then x else y) : x.toInt ≤ z.toInt ∧ y.toInt ≤ z.toInt ∧ (z.toInt = x.toInt ∨ z.toInt = y.toInt) := by
  by_cases h : y < x
  · rw [if_pos h] at e; subst e; have := Int64.lt_iff_toInt_lt.mp h; omega
  · rw [if_neg h] at e; subst e; have := (not_congr Int64.lt_iff_toInt_lt).mp h; omega
/-! rows of numbers, up to a place -/
def RgP (f : Nat → Int32) (k lo hi : Int) : Prop := ∀ i : Int32, 0 ≤ i.toInt → i.toInt < k → lo ≤ (f i.toNatClampNeg).toInt ∧ (f i.toNatClampNeg).toInt ≤ hi
theorem RgP.zero {f : Nat → Int32} {k lo hi : Int} (h : k ≤ 0) : RgP f k lo hi := fun i h0 h1 => by omega
theorem RgP.mono {f : Nat → Int32} {k n lo hi : Int} (h : RgP f k lo hi) (hk : n ≤ k) : RgP f n lo hi := fun i h0 h1 => h i h0 (Int.lt_of_lt_of_le h1 hk)
theorem ncn_inj {i j : Int32} (hi : 0 ≤ i.toInt) (hj : 0 ≤ j.toInt) (h : i.toNatClampNeg = j.toNatClampNeg) : i = j := by
  apply Int32.toInt_inj.mp
  have h1 : i.toInt.toNat = j.toInt.toNat := h
  omega
theorem RgP.put {f g : Nat → Int32} {i v : Int32} {k lo hi : Int} (h : RgP f k lo hi) (e : g = upd f i.toNatClampNeg v) (hv : lo ≤ v.toInt ∧ v.toInt ≤ hi) : RgP g k lo hi := fun j h0 h1 => by
  subst e; unfold upd; split
  · exact hv
  · exact h j h0 h1
theorem RgP.step {f g : Nat → Int32} {i v : Int32} {n lo hi : Int} (h : RgP f i.toInt lo hi) (e : g = upd f i.toNatClampNeg v) (hn : n = i.toInt + 1) (hv : lo ≤ v.toInt ∧ v.toInt ≤ hi) : RgP g n lo hi := fun j h0 h1 => by
  subst e; unfold upd; split
  · exact hv
  · rename_i hne
    refine h j h0 ?_
    by_cases hj : j.toInt = i.toInt
    · exact absurd (by rw [Int32.toInt_inj.mp hj]) hne
    · omega
theorem RgP.same {f : Nat → Int32} {i : Int32} {n lo hi : Int} (h : RgP f i.toInt lo hi) (hn : n = i.toInt + 1) (hv : lo ≤ (f i.toNatClampNeg).toInt ∧ (f i.toNatClampNeg).toInt ≤ hi) : RgP f n lo hi := fun j h0 h1 => by
  by_cases hj : j.toInt = i.toInt
  · rw [Int32.toInt_inj.mp hj]; exact hv
  · exact h j h0 (by omega)
/-- labels: each goes to a place, or where one made ahead of it goes -/
def LOk (f : Nat → Int32) : Prop := ∀ i : Int32, 0 ≤ i.toInt → i.toInt < 5000 → -i.toInt ≤ (f i.toNatClampNeg).toInt ∧ (f i.toNatClampNeg).toInt ≤ 3001
theorem LOk.put {f g : Nat → Int32} {i v : Int32} (h : LOk f) (e : g = upd f i.toNatClampNeg v) (hi : 0 ≤ i.toInt) (hv : -i.toInt ≤ v.toInt ∧ v.toInt ≤ 3001) : LOk g := fun j h0 h1 => by
  subst e; unfold upd; split
  · rename_i hj
    rw [ncn_inj h0 hi hj]; exact hv
  · exact h j h0 h1
theorem LOk.zero : LOk (fun _ => 0) := fun i h0 h1 => by
  have : (0 : Int32).toInt = 0 := by decide
  show -i.toInt ≤ (0 : Int32).toInt ∧ (0 : Int32).toInt ≤ 3001
  omega
/-! the class's Reader: what its state says -/
def WCH (x : Int) : Prop := (97 ≤ x ∧ x ≤ 122) ∨ (48 ≤ x ∧ x ≤ 57) ∨ x = 46
def SP (k b L : Int32) (g : Nat → Int32) : Prop := k.toInt = 2 → b.toInt < L.toInt → ¬ WCH ((g b.toNatClampNeg).toInt % 256)
theorem SP.ne {k b L : Int32} {g : Nat → Int32} (h : k.toInt ≠ 2) : SP k b L g := fun h1 => absurd h1 h
def RGd (k f b L : Int32) (g : Nat → Int32) : Prop := (1 ≤ k.toInt ∧ k.toInt ≤ 260 ∧ k.toInt ≠ 3) ∧ (0 ≤ f.toInt ∧ f.toInt ≤ L.toInt ∧ f.toInt + 1 ≤ b.toInt ∧ b.toInt ≤ L.toInt + 1) ∧ (k.toInt ≠ 1 → b.toInt ≤ L.toInt) ∧ SP k b L g
def RBd (f b w L : Int32) : Prop := 0 ≤ w.toInt ∧ w.toInt ≤ 2000 ∧ 0 ≤ f.toInt ∧ f.toInt ≤ L.toInt ∧ 0 ≤ b.toInt ∧ b.toInt ≤ 2002
def RS (k f b w L : Int32) (g : Nat → Int32) : Prop := (w = -1 ∧ RGd k f b L g) ∨ (k = 3 ∧ RBd f b w L)
